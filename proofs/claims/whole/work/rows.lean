section
-- ===== PART A: goes FIRST, ahead of the names: the tables' words, and 'selects' of the private methods out of them =====
/-- a private method of a class that the tables say can be made, by its rows of tables_1 -/
def lw_okq (q : MethodName × Nat) : Prop := (q.1.cls ≠ "java/lang/invoke/MethodHandle" ∧ q.1.cls ≠ "java/lang/invoke/VarHandle") ∧ Cond.instantiable q.1.cls q.2 ∈ tables_1 ∧ Cond.privateMethod q.1 ∈ tables_1 ∧ Cond.instanceMethod q.1 ∈ tables_1
theorem lw_p0 : lw_okq (⟨"GroupCast", "find", "(I)LGroupCast$Node;"⟩, 3) := ⟨⟨by decide +kernel, by decide +kernel⟩, List.mem_of_getElem? (i := 16) (by decide +kernel), List.mem_of_getElem? (i := 229) (by decide +kernel), List.mem_of_getElem? (i := 230) (by decide +kernel)⟩
theorem lw_p1 : lw_okq (⟨"GroupCast$Node", "isBlocked", "()Z"⟩, 17) := ⟨⟨by decide +kernel, by decide +kernel⟩, List.mem_of_getElem? (i := 93) (by decide +kernel), List.mem_of_getElem? (i := 244) (by decide +kernel), List.mem_of_getElem? (i := 245) (by decide +kernel)⟩
theorem lw_p2 : lw_okq (⟨"GroupCast$Node", "leader", "()I"⟩, 17) := ⟨⟨by decide +kernel, by decide +kernel⟩, List.mem_of_getElem? (i := 93) (by decide +kernel), List.mem_of_getElem? (i := 248) (by decide +kernel), List.mem_of_getElem? (i := 249) (by decide +kernel)⟩
theorem lw_p3 : lw_okq (⟨"GroupCast$Node", "putInOrder", "(I)V"⟩, 17) := ⟨⟨by decide +kernel, by decide +kernel⟩, List.mem_of_getElem? (i := 93) (by decide +kernel), List.mem_of_getElem? (i := 299) (by decide +kernel), List.mem_of_getElem? (i := 300) (by decide +kernel)⟩
theorem lw_p4 : lw_okq (⟨"GroupCast$Node", "others", "()I"⟩, 17) := ⟨⟨by decide +kernel, by decide +kernel⟩, List.mem_of_getElem? (i := 93) (by decide +kernel), List.mem_of_getElem? (i := 308) (by decide +kernel), List.mem_of_getElem? (i := 309) (by decide +kernel)⟩
theorem lw_p5 : lw_okq (⟨"GroupCast$Node", "carryOutWhatMostHold", "()V"⟩, 17) := ⟨⟨by decide +kernel, by decide +kernel⟩, List.mem_of_getElem? (i := 93) (by decide +kernel), List.mem_of_getElem? (i := 315) (by decide +kernel), List.mem_of_getElem? (i := 316) (by decide +kernel)⟩
theorem lw_p6 : lw_okq (⟨"GroupCast$Node", "heldByMost", "()I"⟩, 17) := ⟨⟨by decide +kernel, by decide +kernel⟩, List.mem_of_getElem? (i := 93) (by decide +kernel), List.mem_of_getElem? (i := 319) (by decide +kernel), List.mem_of_getElem? (i := 320) (by decide +kernel)⟩
theorem lw_p7 : lw_okq (⟨"GroupCast$Node", "holdersOf", "(I)I"⟩, 17) := ⟨⟨by decide +kernel, by decide +kernel⟩, List.mem_of_getElem? (i := 93) (by decide +kernel), List.mem_of_getElem? (i := 323) (by decide +kernel), List.mem_of_getElem? (i := 324) (by decide +kernel)⟩
theorem lw_p8 : lw_okq (⟨"GroupCast$Node", "areMost", "(I)Z"⟩, 17) := ⟨⟨by decide +kernel, by decide +kernel⟩, List.mem_of_getElem? (i := 93) (by decide +kernel), List.mem_of_getElem? (i := 327) (by decide +kernel), List.mem_of_getElem? (i := 328) (by decide +kernel)⟩
theorem lw_p9 : lw_okq (⟨"GroupCast$Node", "carryOutUpTo", "(I)V"⟩, 17) := ⟨⟨by decide +kernel, by decide +kernel⟩, List.mem_of_getElem? (i := 93) (by decide +kernel), List.mem_of_getElem? (i := 337) (by decide +kernel), List.mem_of_getElem? (i := 338) (by decide +kernel)⟩
theorem lw_p10 : lw_okq (⟨"GroupCast$Machine", "add", "()V"⟩, 2) := ⟨⟨by decide +kernel, by decide +kernel⟩, List.mem_of_getElem? (i := 117) (by decide +kernel), List.mem_of_getElem? (i := 348) (by decide +kernel), List.mem_of_getElem? (i := 349) (by decide +kernel)⟩
theorem lw_p11 : lw_okq (⟨"GroupCast$Machine", "multiply", "()V"⟩, 2) := ⟨⟨by decide +kernel, by decide +kernel⟩, List.mem_of_getElem? (i := 117) (by decide +kernel), List.mem_of_getElem? (i := 352) (by decide +kernel), List.mem_of_getElem? (i := 353) (by decide +kernel)⟩
theorem lw_p12 : lw_okq (⟨"GroupCast$Machine", "duplicate", "()V"⟩, 2) := ⟨⟨by decide +kernel, by decide +kernel⟩, List.mem_of_getElem? (i := 117) (by decide +kernel), List.mem_of_getElem? (i := 356) (by decide +kernel), List.mem_of_getElem? (i := 357) (by decide +kernel)⟩
theorem lw_p13 : lw_okq (⟨"GroupCast$Machine", "drop", "()V"⟩, 2) := ⟨⟨by decide +kernel, by decide +kernel⟩, List.mem_of_getElem? (i := 117) (by decide +kernel), List.mem_of_getElem? (i := 360) (by decide +kernel), List.mem_of_getElem? (i := 361) (by decide +kernel)⟩
theorem lw_p14 : lw_okq (⟨"GroupCast$Machine", "swap", "()V"⟩, 2) := ⟨⟨by decide +kernel, by decide +kernel⟩, List.mem_of_getElem? (i := 117) (by decide +kernel), List.mem_of_getElem? (i := 364) (by decide +kernel), List.mem_of_getElem? (i := 365) (by decide +kernel)⟩
theorem lw_p15 : lw_okq (⟨"GroupCast$Machine", "push", "(I)V"⟩, 2) := ⟨⟨by decide +kernel, by decide +kernel⟩, List.mem_of_getElem? (i := 117) (by decide +kernel), List.mem_of_getElem? (i := 368) (by decide +kernel), List.mem_of_getElem? (i := 369) (by decide +kernel)⟩
def lw_privs_1 : List (MethodName × Nat) := [(⟨"GroupCast", "find", "(I)LGroupCast$Node;"⟩, 3), (⟨"GroupCast$Node", "isBlocked", "()Z"⟩, 17), (⟨"GroupCast$Node", "leader", "()I"⟩, 17), (⟨"GroupCast$Node", "putInOrder", "(I)V"⟩, 17), (⟨"GroupCast$Node", "others", "()I"⟩, 17), (⟨"GroupCast$Node", "carryOutWhatMostHold", "()V"⟩, 17), (⟨"GroupCast$Node", "heldByMost", "()I"⟩, 17), (⟨"GroupCast$Node", "holdersOf", "(I)I"⟩, 17), (⟨"GroupCast$Node", "areMost", "(I)Z"⟩, 17), (⟨"GroupCast$Node", "carryOutUpTo", "(I)V"⟩, 17), (⟨"GroupCast$Machine", "add", "()V"⟩, 2), (⟨"GroupCast$Machine", "multiply", "()V"⟩, 2), (⟨"GroupCast$Machine", "duplicate", "()V"⟩, 2), (⟨"GroupCast$Machine", "drop", "()V"⟩, 2), (⟨"GroupCast$Machine", "swap", "()V"⟩, 2), (⟨"GroupCast$Machine", "push", "(I)V"⟩, 2)]
theorem lw_r1 : ∀ q ∈ lw_privs_1, lw_okq q := List.forall_mem_cons.mpr ⟨lw_p0, List.forall_mem_cons.mpr ⟨lw_p1, List.forall_mem_cons.mpr ⟨lw_p2, List.forall_mem_cons.mpr ⟨lw_p3, List.forall_mem_cons.mpr ⟨lw_p4, List.forall_mem_cons.mpr ⟨lw_p5, List.forall_mem_cons.mpr ⟨lw_p6, List.forall_mem_cons.mpr ⟨lw_p7, List.forall_mem_cons.mpr ⟨lw_p8, List.forall_mem_cons.mpr ⟨lw_p9, List.forall_mem_cons.mpr ⟨lw_p10, List.forall_mem_cons.mpr ⟨lw_p11, List.forall_mem_cons.mpr ⟨lw_p12, List.forall_mem_cons.mpr ⟨lw_p13, List.forall_mem_cons.mpr ⟨lw_p14, List.forall_mem_cons.mpr ⟨lw_p15, fun _ h => absurd h List.not_mem_nil⟩⟩⟩⟩⟩⟩⟩⟩⟩⟩⟩⟩⟩⟩⟩⟩
theorem lw_p16 : lw_okq (⟨"GroupCast$Node", "onPass", "(LGroupCast$Letter;)V"⟩, 17) := ⟨⟨by decide +kernel, by decide +kernel⟩, List.mem_of_getElem? (i := 93) (by decide +kernel), List.mem_of_getElem? (i := 393) (by decide +kernel), List.mem_of_getElem? (i := 394) (by decide +kernel)⟩
theorem lw_p17 : lw_okq (⟨"GroupCast$Node", "leadsUnblocked", "()Z"⟩, 17) := ⟨⟨by decide +kernel, by decide +kernel⟩, List.mem_of_getElem? (i := 93) (by decide +kernel), List.mem_of_getElem? (i := 397) (by decide +kernel), List.mem_of_getElem? (i := 398) (by decide +kernel)⟩
theorem lw_p18 : lw_okq (⟨"GroupCast$Node", "onOrder", "(ILGroupCast$Letter;)V"⟩, 17) := ⟨⟨by decide +kernel, by decide +kernel⟩, List.mem_of_getElem? (i := 93) (by decide +kernel), List.mem_of_getElem? (i := 405) (by decide +kernel), List.mem_of_getElem? (i := 406) (by decide +kernel)⟩
theorem lw_p19 : lw_okq (⟨"GroupCast$Node", "reply", "(IIII)V"⟩, 17) := ⟨⟨by decide +kernel, by decide +kernel⟩, List.mem_of_getElem? (i := 93) (by decide +kernel), List.mem_of_getElem? (i := 409) (by decide +kernel), List.mem_of_getElem? (i := 410) (by decide +kernel)⟩
theorem lw_p20 : lw_okq (⟨"GroupCast$Node", "onHeld", "(ILGroupCast$Letter;)V"⟩, 17) := ⟨⟨by decide +kernel, by decide +kernel⟩, List.mem_of_getElem? (i := 93) (by decide +kernel), List.mem_of_getElem? (i := 413) (by decide +kernel), List.mem_of_getElem? (i := 414) (by decide +kernel)⟩
theorem lw_p21 : lw_okq (⟨"GroupCast$Node", "onDo", "(LGroupCast$Letter;)V"⟩, 17) := ⟨⟨by decide +kernel, by decide +kernel⟩, List.mem_of_getElem? (i := 93) (by decide +kernel), List.mem_of_getElem? (i := 417) (by decide +kernel), List.mem_of_getElem? (i := 418) (by decide +kernel)⟩
theorem lw_p22 : lw_okq (⟨"GroupCast$Node", "onElect", "(I)V"⟩, 17) := ⟨⟨by decide +kernel, by decide +kernel⟩, List.mem_of_getElem? (i := 93) (by decide +kernel), List.mem_of_getElem? (i := 421) (by decide +kernel), List.mem_of_getElem? (i := 422) (by decide +kernel)⟩
theorem lw_p23 : lw_okq (⟨"GroupCast$Node", "ask", "()V"⟩, 17) := ⟨⟨by decide +kernel, by decide +kernel⟩, List.mem_of_getElem? (i := 93) (by decide +kernel), List.mem_of_getElem? (i := 425) (by decide +kernel), List.mem_of_getElem? (i := 426) (by decide +kernel)⟩
theorem lw_p24 : lw_okq (⟨"GroupCast$Node", "flush", "()V"⟩, 17) := ⟨⟨by decide +kernel, by decide +kernel⟩, List.mem_of_getElem? (i := 93) (by decide +kernel), List.mem_of_getElem? (i := 432) (by decide +kernel), List.mem_of_getElem? (i := 433) (by decide +kernel)⟩
theorem lw_p25 : lw_okq (⟨"GroupCast$Node", "nextOwnNumber", "()I"⟩, 17) := ⟨⟨by decide +kernel, by decide +kernel⟩, List.mem_of_getElem? (i := 93) (by decide +kernel), List.mem_of_getElem? (i := 436) (by decide +kernel), List.mem_of_getElem? (i := 437) (by decide +kernel)⟩
theorem lw_p26 : lw_okq (⟨"GroupCast$Node", "onWait", "()V"⟩, 17) := ⟨⟨by decide +kernel, by decide +kernel⟩, List.mem_of_getElem? (i := 93) (by decide +kernel), List.mem_of_getElem? (i := 466) (by decide +kernel), List.mem_of_getElem? (i := 467) (by decide +kernel)⟩
theorem lw_p27 : lw_okq (⟨"GroupCast$Node", "onFlush", "(ILGroupCast$Letter;)V"⟩, 17) := ⟨⟨by decide +kernel, by decide +kernel⟩, List.mem_of_getElem? (i := 93) (by decide +kernel), List.mem_of_getElem? (i := 470) (by decide +kernel), List.mem_of_getElem? (i := 471) (by decide +kernel)⟩
theorem lw_p28 : lw_okq (⟨"GroupCast$Node", "onFlushed", "(ILGroupCast$Letter;)V"⟩, 17) := ⟨⟨by decide +kernel, by decide +kernel⟩, List.mem_of_getElem? (i := 93) (by decide +kernel), List.mem_of_getElem? (i := 474) (by decide +kernel), List.mem_of_getElem? (i := 475) (by decide +kernel)⟩
theorem lw_p29 : lw_okq (⟨"GroupCast$Change", "isBetter", "(III)Z"⟩, 5) := ⟨⟨by decide +kernel, by decide +kernel⟩, List.mem_of_getElem? (i := 131) (by decide +kernel), List.mem_of_getElem? (i := 482) (by decide +kernel), List.mem_of_getElem? (i := 483) (by decide +kernel)⟩
theorem lw_p30 : lw_okq (⟨"GroupCast$Node", "onSync", "(ILGroupCast$Letter;)V"⟩, 17) := ⟨⟨by decide +kernel, by decide +kernel⟩, List.mem_of_getElem? (i := 93) (by decide +kernel), List.mem_of_getElem? (i := 490) (by decide +kernel), List.mem_of_getElem? (i := 491) (by decide +kernel)⟩
theorem lw_p31 : lw_okq (⟨"GroupCast$Node", "onSynced", "(ILGroupCast$Letter;)V"⟩, 17) := ⟨⟨by decide +kernel, by decide +kernel⟩, List.mem_of_getElem? (i := 93) (by decide +kernel), List.mem_of_getElem? (i := 500) (by decide +kernel), List.mem_of_getElem? (i := 501) (by decide +kernel)⟩
def lw_privs_2 : List (MethodName × Nat) := [(⟨"GroupCast$Node", "onPass", "(LGroupCast$Letter;)V"⟩, 17), (⟨"GroupCast$Node", "leadsUnblocked", "()Z"⟩, 17), (⟨"GroupCast$Node", "onOrder", "(ILGroupCast$Letter;)V"⟩, 17), (⟨"GroupCast$Node", "reply", "(IIII)V"⟩, 17), (⟨"GroupCast$Node", "onHeld", "(ILGroupCast$Letter;)V"⟩, 17), (⟨"GroupCast$Node", "onDo", "(LGroupCast$Letter;)V"⟩, 17), (⟨"GroupCast$Node", "onElect", "(I)V"⟩, 17), (⟨"GroupCast$Node", "ask", "()V"⟩, 17), (⟨"GroupCast$Node", "flush", "()V"⟩, 17), (⟨"GroupCast$Node", "nextOwnNumber", "()I"⟩, 17), (⟨"GroupCast$Node", "onWait", "()V"⟩, 17), (⟨"GroupCast$Node", "onFlush", "(ILGroupCast$Letter;)V"⟩, 17), (⟨"GroupCast$Node", "onFlushed", "(ILGroupCast$Letter;)V"⟩, 17), (⟨"GroupCast$Change", "isBetter", "(III)Z"⟩, 5), (⟨"GroupCast$Node", "onSync", "(ILGroupCast$Letter;)V"⟩, 17), (⟨"GroupCast$Node", "onSynced", "(ILGroupCast$Letter;)V"⟩, 17)]
theorem lw_r2 : ∀ q ∈ lw_privs_2, lw_okq q := List.forall_mem_cons.mpr ⟨lw_p16, List.forall_mem_cons.mpr ⟨lw_p17, List.forall_mem_cons.mpr ⟨lw_p18, List.forall_mem_cons.mpr ⟨lw_p19, List.forall_mem_cons.mpr ⟨lw_p20, List.forall_mem_cons.mpr ⟨lw_p21, List.forall_mem_cons.mpr ⟨lw_p22, List.forall_mem_cons.mpr ⟨lw_p23, List.forall_mem_cons.mpr ⟨lw_p24, List.forall_mem_cons.mpr ⟨lw_p25, List.forall_mem_cons.mpr ⟨lw_p26, List.forall_mem_cons.mpr ⟨lw_p27, List.forall_mem_cons.mpr ⟨lw_p28, List.forall_mem_cons.mpr ⟨lw_p29, List.forall_mem_cons.mpr ⟨lw_p30, List.forall_mem_cons.mpr ⟨lw_p31, fun _ h => absurd h List.not_mem_nil⟩⟩⟩⟩⟩⟩⟩⟩⟩⟩⟩⟩⟩⟩⟩⟩
theorem lw_p32 : lw_okq (⟨"GroupCast$Node", "onBegin", "(LGroupCast$Letter;)V"⟩, 17) := ⟨⟨by decide +kernel, by decide +kernel⟩, List.mem_of_getElem? (i := 93) (by decide +kernel), List.mem_of_getElem? (i := 504) (by decide +kernel), List.mem_of_getElem? (i := 505) (by decide +kernel)⟩
theorem lw_p33 : lw_okq (⟨"GroupCast$Node", "begin", "(I)V"⟩, 17) := ⟨⟨by decide +kernel, by decide +kernel⟩, List.mem_of_getElem? (i := 93) (by decide +kernel), List.mem_of_getElem? (i := 508) (by decide +kernel), List.mem_of_getElem? (i := 509) (by decide +kernel)⟩
theorem lw_p34 : lw_okq (⟨"GroupCast$Node", "giveBest", "()V"⟩, 17) := ⟨⟨by decide +kernel, by decide +kernel⟩, List.mem_of_getElem? (i := 93) (by decide +kernel), List.mem_of_getElem? (i := 519) (by decide +kernel), List.mem_of_getElem? (i := 520) (by decide +kernel)⟩
theorem lw_p35 : lw_okq (⟨"GroupCast$Node", "beginAnew", "()V"⟩, 17) := ⟨⟨by decide +kernel, by decide +kernel⟩, List.mem_of_getElem? (i := 93) (by decide +kernel), List.mem_of_getElem? (i := 523) (by decide +kernel), List.mem_of_getElem? (i := 524) (by decide +kernel)⟩
theorem lw_p36 : lw_okq (⟨"GroupCast$Node", "isChanging", "()Z"⟩, 17) := ⟨⟨by decide +kernel, by decide +kernel⟩, List.mem_of_getElem? (i := 93) (by decide +kernel), List.mem_of_getElem? (i := 536) (by decide +kernel), List.mem_of_getElem? (i := 537) (by decide +kernel)⟩
theorem lw_p37 : lw_okq (⟨"GroupCastModel", "isNode", "(I)Z"⟩, 35) := ⟨⟨by decide +kernel, by decide +kernel⟩, List.mem_of_getElem? (i := 600) (by decide +kernel), List.mem_of_getElem? (i := 717) (by decide +kernel), List.mem_of_getElem? (i := 718) (by decide +kernel)⟩
theorem lw_p38 : lw_okq (⟨"GroupCastModel", "isBlocked", "(I)Z"⟩, 35) := ⟨⟨by decide +kernel, by decide +kernel⟩, List.mem_of_getElem? (i := 600) (by decide +kernel), List.mem_of_getElem? (i := 724) (by decide +kernel), List.mem_of_getElem? (i := 725) (by decide +kernel)⟩
theorem lw_p39 : lw_okq (⟨"GroupCastModel", "leader", "(I)I"⟩, 35) := ⟨⟨by decide +kernel, by decide +kernel⟩, List.mem_of_getElem? (i := 600) (by decide +kernel), List.mem_of_getElem? (i := 728) (by decide +kernel), List.mem_of_getElem? (i := 729) (by decide +kernel)⟩
theorem lw_p40 : lw_okq (⟨"GroupCastModel", "send", "(IIIIIII)V"⟩, 35) := ⟨⟨by decide +kernel, by decide +kernel⟩, List.mem_of_getElem? (i := 600) (by decide +kernel), List.mem_of_getElem? (i := 735) (by decide +kernel), List.mem_of_getElem? (i := 736) (by decide +kernel)⟩
theorem lw_p41 : lw_okq (⟨"GroupCastModel", "add", "(II)V"⟩, 35) := ⟨⟨by decide +kernel, by decide +kernel⟩, List.mem_of_getElem? (i := 600) (by decide +kernel), List.mem_of_getElem? (i := 739) (by decide +kernel), List.mem_of_getElem? (i := 740) (by decide +kernel)⟩
theorem lw_p42 : lw_okq (⟨"GroupCastModel", "sendAll", "(IIIIIII)V"⟩, 35) := ⟨⟨by decide +kernel, by decide +kernel⟩, List.mem_of_getElem? (i := 600) (by decide +kernel), List.mem_of_getElem? (i := 743) (by decide +kernel), List.mem_of_getElem? (i := 744) (by decide +kernel)⟩
theorem lw_p43 : lw_okq (⟨"GroupCastModel", "look", "(I)V"⟩, 35) := ⟨⟨by decide +kernel, by decide +kernel⟩, List.mem_of_getElem? (i := 600) (by decide +kernel), List.mem_of_getElem? (i := 747) (by decide +kernel), List.mem_of_getElem? (i := 748) (by decide +kernel)⟩
theorem lw_p44 : lw_okq (⟨"GroupCastModel", "carryTo", "(II)V"⟩, 35) := ⟨⟨by decide +kernel, by decide +kernel⟩, List.mem_of_getElem? (i := 600) (by decide +kernel), List.mem_of_getElem? (i := 751) (by decide +kernel), List.mem_of_getElem? (i := 752) (by decide +kernel)⟩
theorem lw_p45 : lw_okq (⟨"GroupCastModel", "carry", "(I)V"⟩, 35) := ⟨⟨by decide +kernel, by decide +kernel⟩, List.mem_of_getElem? (i := 600) (by decide +kernel), List.mem_of_getElem? (i := 755) (by decide +kernel), List.mem_of_getElem? (i := 756) (by decide +kernel)⟩
theorem lw_p46 : lw_okq (⟨"GroupCastModel", "push", "(II)V"⟩, 35) := ⟨⟨by decide +kernel, by decide +kernel⟩, List.mem_of_getElem? (i := 600) (by decide +kernel), List.mem_of_getElem? (i := 759) (by decide +kernel), List.mem_of_getElem? (i := 760) (by decide +kernel)⟩
theorem lw_p47 : lw_okq (⟨"GroupCastModel", "oldest", "(II)I"⟩, 35) := ⟨⟨by decide +kernel, by decide +kernel⟩, List.mem_of_getElem? (i := 600) (by decide +kernel), List.mem_of_getElem? (i := 767) (by decide +kernel), List.mem_of_getElem? (i := 768) (by decide +kernel)⟩
def lw_privs_3 : List (MethodName × Nat) := [(⟨"GroupCast$Node", "onBegin", "(LGroupCast$Letter;)V"⟩, 17), (⟨"GroupCast$Node", "begin", "(I)V"⟩, 17), (⟨"GroupCast$Node", "giveBest", "()V"⟩, 17), (⟨"GroupCast$Node", "beginAnew", "()V"⟩, 17), (⟨"GroupCast$Node", "isChanging", "()Z"⟩, 17), (⟨"GroupCastModel", "isNode", "(I)Z"⟩, 35), (⟨"GroupCastModel", "isBlocked", "(I)Z"⟩, 35), (⟨"GroupCastModel", "leader", "(I)I"⟩, 35), (⟨"GroupCastModel", "send", "(IIIIIII)V"⟩, 35), (⟨"GroupCastModel", "add", "(II)V"⟩, 35), (⟨"GroupCastModel", "sendAll", "(IIIIIII)V"⟩, 35), (⟨"GroupCastModel", "look", "(I)V"⟩, 35), (⟨"GroupCastModel", "carryTo", "(II)V"⟩, 35), (⟨"GroupCastModel", "carry", "(I)V"⟩, 35), (⟨"GroupCastModel", "push", "(II)V"⟩, 35), (⟨"GroupCastModel", "oldest", "(II)I"⟩, 35)]
theorem lw_r3 : ∀ q ∈ lw_privs_3, lw_okq q := List.forall_mem_cons.mpr ⟨lw_p32, List.forall_mem_cons.mpr ⟨lw_p33, List.forall_mem_cons.mpr ⟨lw_p34, List.forall_mem_cons.mpr ⟨lw_p35, List.forall_mem_cons.mpr ⟨lw_p36, List.forall_mem_cons.mpr ⟨lw_p37, List.forall_mem_cons.mpr ⟨lw_p38, List.forall_mem_cons.mpr ⟨lw_p39, List.forall_mem_cons.mpr ⟨lw_p40, List.forall_mem_cons.mpr ⟨lw_p41, List.forall_mem_cons.mpr ⟨lw_p42, List.forall_mem_cons.mpr ⟨lw_p43, List.forall_mem_cons.mpr ⟨lw_p44, List.forall_mem_cons.mpr ⟨lw_p45, List.forall_mem_cons.mpr ⟨lw_p46, List.forall_mem_cons.mpr ⟨lw_p47, fun _ h => absurd h List.not_mem_nil⟩⟩⟩⟩⟩⟩⟩⟩⟩⟩⟩⟩⟩⟩⟩⟩
theorem lw_p48 : lw_okq (⟨"GroupCastModel", "keepLetter", "(I)V"⟩, 35) := ⟨⟨by decide +kernel, by decide +kernel⟩, List.mem_of_getElem? (i := 600) (by decide +kernel), List.mem_of_getElem? (i := 771) (by decide +kernel), List.mem_of_getElem? (i := 772) (by decide +kernel)⟩
theorem lw_p49 : lw_okq (⟨"GroupCastModel", "come", "(I)V"⟩, 35) := ⟨⟨by decide +kernel, by decide +kernel⟩, List.mem_of_getElem? (i := 600) (by decide +kernel), List.mem_of_getElem? (i := 775) (by decide +kernel), List.mem_of_getElem? (i := 776) (by decide +kernel)⟩
theorem lw_p50 : lw_okq (⟨"GroupCastModel", "ask", "(I)V"⟩, 35) := ⟨⟨by decide +kernel, by decide +kernel⟩, List.mem_of_getElem? (i := 600) (by decide +kernel), List.mem_of_getElem? (i := 779) (by decide +kernel), List.mem_of_getElem? (i := 780) (by decide +kernel)⟩
theorem lw_p51 : lw_okq (⟨"GroupCastModel", "flush", "(I)V"⟩, 35) := ⟨⟨by decide +kernel, by decide +kernel⟩, List.mem_of_getElem? (i := 600) (by decide +kernel), List.mem_of_getElem? (i := 783) (by decide +kernel), List.mem_of_getElem? (i := 784) (by decide +kernel)⟩
theorem lw_p52 : lw_okq (⟨"GroupCastModel", "many", "(I)I"⟩, 35) := ⟨⟨by decide +kernel, by decide +kernel⟩, List.mem_of_getElem? (i := 600) (by decide +kernel), List.mem_of_getElem? (i := 787) (by decide +kernel), List.mem_of_getElem? (i := 788) (by decide +kernel)⟩
theorem lw_p53 : lw_okq (⟨"GroupCastModel", "choose", "(I)V"⟩, 35) := ⟨⟨by decide +kernel, by decide +kernel⟩, List.mem_of_getElem? (i := 600) (by decide +kernel), List.mem_of_getElem? (i := 791) (by decide +kernel), List.mem_of_getElem? (i := 792) (by decide +kernel)⟩
theorem lw_p54 : lw_okq (⟨"GroupCastModel", "found", "(I)V"⟩, 35) := ⟨⟨by decide +kernel, by decide +kernel⟩, List.mem_of_getElem? (i := 600) (by decide +kernel), List.mem_of_getElem? (i := 795) (by decide +kernel), List.mem_of_getElem? (i := 796) (by decide +kernel)⟩
theorem lw_p55 : lw_okq (⟨"GroupCastModel", "begin", "(III)V"⟩, 35) := ⟨⟨by decide +kernel, by decide +kernel⟩, List.mem_of_getElem? (i := 600) (by decide +kernel), List.mem_of_getElem? (i := 799) (by decide +kernel), List.mem_of_getElem? (i := 800) (by decide +kernel)⟩
theorem lw_p56 : lw_okq (⟨"GroupCastModel", "comeOfView", "(III)V"⟩, 35) := ⟨⟨by decide +kernel, by decide +kernel⟩, List.mem_of_getElem? (i := 600) (by decide +kernel), List.mem_of_getElem? (i := 803) (by decide +kernel), List.mem_of_getElem? (i := 804) (by decide +kernel)⟩
def lw_privs_4 : List (MethodName × Nat) := [(⟨"GroupCastModel", "keepLetter", "(I)V"⟩, 35), (⟨"GroupCastModel", "come", "(I)V"⟩, 35), (⟨"GroupCastModel", "ask", "(I)V"⟩, 35), (⟨"GroupCastModel", "flush", "(I)V"⟩, 35), (⟨"GroupCastModel", "many", "(I)I"⟩, 35), (⟨"GroupCastModel", "choose", "(I)V"⟩, 35), (⟨"GroupCastModel", "found", "(I)V"⟩, 35), (⟨"GroupCastModel", "begin", "(III)V"⟩, 35), (⟨"GroupCastModel", "comeOfView", "(III)V"⟩, 35)]
theorem lw_r4 : ∀ q ∈ lw_privs_4, lw_okq q := List.forall_mem_cons.mpr ⟨lw_p48, List.forall_mem_cons.mpr ⟨lw_p49, List.forall_mem_cons.mpr ⟨lw_p50, List.forall_mem_cons.mpr ⟨lw_p51, List.forall_mem_cons.mpr ⟨lw_p52, List.forall_mem_cons.mpr ⟨lw_p53, List.forall_mem_cons.mpr ⟨lw_p54, List.forall_mem_cons.mpr ⟨lw_p55, List.forall_mem_cons.mpr ⟨lw_p56, fun _ h => absurd h List.not_mem_nil⟩⟩⟩⟩⟩⟩⟩⟩⟩
def lw_privs : List (MethodName × Nat) := lw_privs_1 ++ (lw_privs_2 ++ (lw_privs_3 ++ (lw_privs_4)))
def lw_tbl : List Cond := k2_sels lw_privs ++ tables_1
theorem lw_privs_ok : ∀ q ∈ lw_privs, lw_okq q := by
  show ∀ q ∈ lw_privs_1 ++ (lw_privs_2 ++ (lw_privs_3 ++ (lw_privs_4))), lw_okq q
  exact List.forall_mem_append.mpr ⟨lw_r1, List.forall_mem_append.mpr ⟨lw_r2, List.forall_mem_append.mpr ⟨lw_r3, lw_r4⟩⟩⟩
def RX0 : String := "GroupCast$Change"
def TX0 : u_T := fun k => match k with
  | 0 => ("GroupCast$Change", "members", "I", false)
  | 1 => ("GroupCast$Change", "awaited", "I", false)
  | 2 => ("GroupCast$Change", "best", "[I", false)
  | 3 => ("GroupCast$Change", "bestStamp", "I", false)
  | _ => ("GroupCast$Change", "bestNode", "I", false)
def tyX0 : Nat → FieldType := fun k => match k with
  | 0 => .int
  | 1 => .int
  | 2 => .array .int
  | 3 => .int
  | _ => .int
theorem nmX0 : ∀ a, a < 5 → ∀ b, b < 5 → a ≠ b → (TX0 a).2.1 ≠ (TX0 b).2.1 := by decide +kernel
theorem tyX0_ok : ∀ k, k < 5 → parseFieldDescriptor (TX0 k).2.2.1 = some (tyX0 k) := by decide +kernel
abbrev cX0_init : ByteArray := prog_2_method_1_code
def yX0_init : MethodName := ⟨RX0, "<init>", "()V"⟩
abbrev cX0_start : ByteArray := prog_2_method_2_code
def yX0_start : MethodName := ⟨RX0, "start", "(III[I)V"⟩
abbrev cX0_answered : ByteArray := prog_2_method_3_code
def yX0_answered : MethodName := ⟨RX0, "answered", "(I)V"⟩
abbrev cX0_weigh : ByteArray := prog_2_method_4_code
def yX0_weigh : MethodName := ⟨RX0, "weigh", "(II[I)V"⟩
abbrev cX0_isBetter : ByteArray := prog_2_method_5_code
def yX0_isBetter : MethodName := ⟨RX0, "isBetter", "(III)Z"⟩
def RX1 : String := "GroupCast$Channel"
def TX1 : u_T := fun k => match k with
  | 0 => ("GroupCast$Channel", "first", "LGroupCast$Letter;", false)
  | 1 => ("GroupCast$Channel", "last", "LGroupCast$Letter;", false)
  | _ => ("GroupCast$Channel", "size", "I", false)
def tyX1 : Nat → FieldType := fun k => match k with
  | 0 => .object "GroupCast$Letter"
  | 1 => .object "GroupCast$Letter"
  | _ => .int
theorem nmX1 : ∀ a, a < 3 → ∀ b, b < 3 → a ≠ b → (TX1 a).2.1 ≠ (TX1 b).2.1 := by decide +kernel
theorem tyX1_ok : ∀ k, k < 3 → parseFieldDescriptor (TX1 k).2.2.1 = some (tyX1 k) := by decide +kernel
abbrev cX1_init : ByteArray := prog_3_method_1_code
def yX1_init : MethodName := ⟨RX1, "<init>", "()V"⟩
abbrev cX1_put : ByteArray := prog_3_method_2_code
def yX1_put : MethodName := ⟨RX1, "put", "(LGroupCast$Letter;)V"⟩
abbrev cX1_take : ByteArray := prog_3_method_3_code
def yX1_take : MethodName := ⟨RX1, "take", "()LGroupCast$Letter;"⟩
def RX2 : String := "GroupCast$Letter"
def TX2 : u_T := fun k => match k with
  | 0 => ("GroupCast$Letter", "kind", "I", true)
  | 1 => ("GroupCast$Letter", "number", "I", true)
  | 2 => ("GroupCast$Letter", "detail", "I", true)
  | 3 => ("GroupCast$Letter", "acts", "[I", true)
  | _ => ("GroupCast$Letter", "next", "LGroupCast$Letter;", false)
def tyX2 : Nat → FieldType := fun k => match k with
  | 0 => .int
  | 1 => .int
  | 2 => .int
  | 3 => .array .int
  | _ => .object "GroupCast$Letter"
theorem nmX2 : ∀ a, a < 5 → ∀ b, b < 5 → a ≠ b → (TX2 a).2.1 ≠ (TX2 b).2.1 := by decide +kernel
theorem tyX2_ok : ∀ k, k < 5 → parseFieldDescriptor (TX2 k).2.2.1 = some (tyX2 k) := by decide +kernel
abbrev cX2_init : ByteArray := prog_4_method_1_code
def yX2_init : MethodName := ⟨RX2, "<init>", "(III[I)V"⟩
abbrev cX2_firstAct : ByteArray := prog_4_method_2_code
def yX2_firstAct : MethodName := ⟨RX2, "firstAct", "()I"⟩
abbrev cX2_tell : ByteArray := prog_4_method_3_code
def yX2_tell : MethodName := ⟨RX2, "tell", "(I)I"⟩
def RX3 : String := "GroupCast$Machine"
def TX3 : u_T := fun k => match k with
  | 0 => ("GroupCast$Machine", "ints", "[I", true)
  | _ => ("GroupCast$Machine", "size", "I", false)
def tyX3 : Nat → FieldType := fun k => match k with
  | 0 => .array .int
  | _ => .int
theorem nmX3 : ∀ a, a < 2 → ∀ b, b < 2 → a ≠ b → (TX3 a).2.1 ≠ (TX3 b).2.1 := by decide +kernel
theorem tyX3_ok : ∀ k, k < 2 → parseFieldDescriptor (TX3 k).2.2.1 = some (tyX3 k) := by decide +kernel
abbrev cX3_init : ByteArray := prog_5_method_1_code
def yX3_init : MethodName := ⟨RX3, "<init>", "()V"⟩
abbrev cX3_carryOut : ByteArray := prog_5_method_2_code
def yX3_carryOut : MethodName := ⟨RX3, "carryOut", "(I)V"⟩
abbrev cX3_fromTop : ByteArray := prog_5_method_3_code
def yX3_fromTop : MethodName := ⟨RX3, "fromTop", "(I)I"⟩
abbrev cX3_push : ByteArray := prog_5_method_4_code
def yX3_push : MethodName := ⟨RX3, "push", "(I)V"⟩
abbrev cX3_add : ByteArray := prog_5_method_5_code
def yX3_add : MethodName := ⟨RX3, "add", "()V"⟩
abbrev cX3_multiply : ByteArray := prog_5_method_6_code
def yX3_multiply : MethodName := ⟨RX3, "multiply", "()V"⟩
abbrev cX3_duplicate : ByteArray := prog_5_method_7_code
def yX3_duplicate : MethodName := ⟨RX3, "duplicate", "()V"⟩
abbrev cX3_drop : ByteArray := prog_5_method_8_code
def yX3_drop : MethodName := ⟨RX3, "drop", "()V"⟩
abbrev cX3_swap : ByteArray := prog_5_method_9_code
def yX3_swap : MethodName := ⟨RX3, "swap", "()V"⟩
def RX4 : String := "GroupCast$Node"
def TX4 : u_T := fun k => match k with
  | 0 => ("GroupCast$Node", "id", "I", true)
  | 1 => ("GroupCast$Node", "groupSize", "I", true)
  | 2 => ("GroupCast$Node", "post", "LGroupCast$Post;", true)
  | 3 => ("GroupCast$Node", "tally", "LGroupCast$Tally;", true)
  | 4 => ("GroupCast$Node", "row", "LGroupCast$Row;", true)
  | 5 => ("GroupCast$Node", "machine", "LGroupCast$Machine;", true)
  | 6 => ("GroupCast$Node", "change", "LGroupCast$Change;", true)
  | 7 => ("GroupCast$Node", "toldHeld", "[I", true)
  | 8 => ("GroupCast$Node", "life", "I", false)
  | 9 => ("GroupCast$Node", "task", "I", false)
  | 10 => ("GroupCast$Node", "view", "I", false)
  | 11 => ("GroupCast$Node", "members", "I", false)
  | 12 => ("GroupCast$Node", "promise", "I", false)
  | 13 => ("GroupCast$Node", "stamp", "I", false)
  | 14 => ("GroupCast$Node", "carriedOut", "I", false)
  | 15 => ("GroupCast$Node", "suspects", "I", false)
  | _ => ("GroupCast$Node", "lastFlusher", "I", false)
def tyX4 : Nat → FieldType := fun k => match k with
  | 0 => .int
  | 1 => .int
  | 2 => .object "GroupCast$Post"
  | 3 => .object "GroupCast$Tally"
  | 4 => .object "GroupCast$Row"
  | 5 => .object "GroupCast$Machine"
  | 6 => .object "GroupCast$Change"
  | 7 => .array .int
  | 8 => .int
  | 9 => .int
  | 10 => .int
  | 11 => .int
  | 12 => .int
  | 13 => .int
  | 14 => .int
  | 15 => .int
  | _ => .int
theorem nmX4 : ∀ a, a < 17 → ∀ b, b < 17 → a ≠ b → (TX4 a).2.1 ≠ (TX4 b).2.1 := by decide +kernel
theorem tyX4_ok : ∀ k, k < 17 → parseFieldDescriptor (TX4 k).2.2.1 = some (tyX4 k) := by decide +kernel
abbrev cX4_init : ByteArray := prog_6_method_1_code
def yX4_init : MethodName := ⟨RX4, "<init>", "(IILGroupCast$Post;LGroupCast$Tally;)V"⟩
abbrev cX4_tell : ByteArray := prog_6_method_2_code
def yX4_tell : MethodName := ⟨RX4, "tell", "(I)I"⟩
abbrev cX4_isLive : ByteArray := prog_6_method_3_code
def yX4_isLive : MethodName := ⟨RX4, "isLive", "()Z"⟩
abbrev cX4_isBlocked : ByteArray := prog_6_method_4_code
def yX4_isBlocked : MethodName := ⟨RX4, "isBlocked", "()Z"⟩
abbrev cX4_isChanging : ByteArray := prog_6_method_5_code
def yX4_isChanging : MethodName := ⟨RX4, "isChanging", "()Z"⟩
abbrev cX4_leader : ByteArray := prog_6_method_6_code
def yX4_leader : MethodName := ⟨RX4, "leader", "()I"⟩
abbrev cX4_leadsUnblocked : ByteArray := prog_6_method_7_code
def yX4_leadsUnblocked : MethodName := ⟨RX4, "leadsUnblocked", "()Z"⟩
abbrev cX4_areMost : ByteArray := prog_6_method_8_code
def yX4_areMost : MethodName := ⟨RX4, "areMost", "(I)Z"⟩
abbrev cX4_others : ByteArray := prog_6_method_9_code
def yX4_others : MethodName := ⟨RX4, "others", "()I"⟩
abbrev cX4_reply : ByteArray := prog_6_method_10_code
def yX4_reply : MethodName := ⟨RX4, "reply", "(IIII)V"⟩
abbrev cX4_accept : ByteArray := prog_6_method_11_code
def yX4_accept : MethodName := ⟨RX4, "accept", "(I)I"⟩
abbrev cX4_putInOrder : ByteArray := prog_6_method_12_code
def yX4_putInOrder : MethodName := ⟨RX4, "putInOrder", "(I)V"⟩
abbrev cX4_carryOutWhatMostHold : ByteArray := prog_6_method_13_code
def yX4_carryOutWhatMostHold : MethodName := ⟨RX4, "carryOutWhatMostHold", "()V"⟩
abbrev cX4_heldByMost : ByteArray := prog_6_method_14_code
def yX4_heldByMost : MethodName := ⟨RX4, "heldByMost", "()I"⟩
abbrev cX4_holdersOf : ByteArray := prog_6_method_15_code
def yX4_holdersOf : MethodName := ⟨RX4, "holdersOf", "(I)I"⟩
abbrev cX4_carryOutUpTo : ByteArray := prog_6_method_16_code
def yX4_carryOutUpTo : MethodName := ⟨RX4, "carryOutUpTo", "(I)V"⟩
abbrev cX4_receive : ByteArray := prog_6_method_17_code
def yX4_receive : MethodName := ⟨RX4, "receive", "(ILGroupCast$Letter;)V"⟩
abbrev cX4_onPass : ByteArray := prog_6_method_18_code
def yX4_onPass : MethodName := ⟨RX4, "onPass", "(LGroupCast$Letter;)V"⟩
abbrev cX4_onOrder : ByteArray := prog_6_method_19_code
def yX4_onOrder : MethodName := ⟨RX4, "onOrder", "(ILGroupCast$Letter;)V"⟩
abbrev cX4_onHeld : ByteArray := prog_6_method_20_code
def yX4_onHeld : MethodName := ⟨RX4, "onHeld", "(ILGroupCast$Letter;)V"⟩
abbrev cX4_onDo : ByteArray := prog_6_method_21_code
def yX4_onDo : MethodName := ⟨RX4, "onDo", "(LGroupCast$Letter;)V"⟩
abbrev cX4_onElect : ByteArray := prog_6_method_22_code
def yX4_onElect : MethodName := ⟨RX4, "onElect", "(I)V"⟩
abbrev cX4_onWait : ByteArray := prog_6_method_23_code
def yX4_onWait : MethodName := ⟨RX4, "onWait", "()V"⟩
abbrev cX4_onFlush : ByteArray := prog_6_method_24_code
def yX4_onFlush : MethodName := ⟨RX4, "onFlush", "(ILGroupCast$Letter;)V"⟩
abbrev cX4_onFlushed : ByteArray := prog_6_method_25_code
def yX4_onFlushed : MethodName := ⟨RX4, "onFlushed", "(ILGroupCast$Letter;)V"⟩
abbrev cX4_onSync : ByteArray := prog_6_method_26_code
def yX4_onSync : MethodName := ⟨RX4, "onSync", "(ILGroupCast$Letter;)V"⟩
abbrev cX4_onSynced : ByteArray := prog_6_method_27_code
def yX4_onSynced : MethodName := ⟨RX4, "onSynced", "(ILGroupCast$Letter;)V"⟩
abbrev cX4_onBegin : ByteArray := prog_6_method_28_code
def yX4_onBegin : MethodName := ⟨RX4, "onBegin", "(LGroupCast$Letter;)V"⟩
abbrev cX4_goOn : ByteArray := prog_6_method_29_code
def yX4_goOn : MethodName := ⟨RX4, "goOn", "()V"⟩
abbrev cX4_giveBest : ByteArray := prog_6_method_30_code
def yX4_giveBest : MethodName := ⟨RX4, "giveBest", "()V"⟩
abbrev cX4_beginAnew : ByteArray := prog_6_method_31_code
def yX4_beginAnew : MethodName := ⟨RX4, "beginAnew", "()V"⟩
abbrev cX4_begin : ByteArray := prog_6_method_32_code
def yX4_begin : MethodName := ⟨RX4, "begin", "(I)V"⟩
abbrev cX4_ask : ByteArray := prog_6_method_33_code
def yX4_ask : MethodName := ⟨RX4, "ask", "()V"⟩
abbrev cX4_flush : ByteArray := prog_6_method_34_code
def yX4_flush : MethodName := ⟨RX4, "flush", "()V"⟩
abbrev cX4_nextOwnNumber : ByteArray := prog_6_method_35_code
def yX4_nextOwnNumber : MethodName := ⟨RX4, "nextOwnNumber", "()I"⟩
abbrev cX4_turnAgainst : ByteArray := prog_6_method_36_code
def yX4_turnAgainst : MethodName := ⟨RX4, "turnAgainst", "(I)V"⟩
abbrev cX4_losePatience : ByteArray := prog_6_method_37_code
def yX4_losePatience : MethodName := ⟨RX4, "losePatience", "()V"⟩
def RX5 : String := "GroupCast$Post"
def TX5 : u_T := fun k => match k with
  | 0 => ("GroupCast$Post", "size", "I", true)
  | 1 => ("GroupCast$Post", "tally", "LGroupCast$Tally;", true)
  | 2 => ("GroupCast$Post", "channels", "[LGroupCast$Channel;", true)
  | _ => ("GroupCast$Post", "inFlight", "I", false)
def tyX5 : Nat → FieldType := fun k => match k with
  | 0 => .int
  | 1 => .object "GroupCast$Tally"
  | 2 => .array (.object "GroupCast$Channel")
  | _ => .int
theorem nmX5 : ∀ a, a < 4 → ∀ b, b < 4 → a ≠ b → (TX5 a).2.1 ≠ (TX5 b).2.1 := by decide +kernel
theorem tyX5_ok : ∀ k, k < 4 → parseFieldDescriptor (TX5 k).2.2.1 = some (tyX5 k) := by decide +kernel
abbrev cX5_init : ByteArray := prog_7_method_1_code
def yX5_init : MethodName := ⟨RX5, "<init>", "(ILGroupCast$Tally;)V"⟩
abbrev cX5_between : ByteArray := prog_7_method_2_code
def yX5_between : MethodName := ⟨RX5, "between", "(II)LGroupCast$Channel;"⟩
abbrev cX5_takeOldest : ByteArray := prog_7_method_3_code
def yX5_takeOldest : MethodName := ⟨RX5, "takeOldest", "(LGroupCast$Channel;)LGroupCast$Letter;"⟩
abbrev cX5_send : ByteArray := prog_7_method_4_code
def yX5_send : MethodName := ⟨RX5, "send", "(IIIII[I)V"⟩
def RX6 : String := "GroupCast$Row"
def TX6 : u_T := fun k => match k with
  | 0 => ("GroupCast$Row", "acts", "[I", true)
  | _ => ("GroupCast$Row", "size", "I", false)
def tyX6 : Nat → FieldType := fun k => match k with
  | 0 => .array .int
  | _ => .int
theorem nmX6 : ∀ a, a < 2 → ∀ b, b < 2 → a ≠ b → (TX6 a).2.1 ≠ (TX6 b).2.1 := by decide +kernel
theorem tyX6_ok : ∀ k, k < 2 → parseFieldDescriptor (TX6 k).2.2.1 = some (tyX6 k) := by decide +kernel
abbrev cX6_init : ByteArray := prog_8_method_1_code
def yX6_init : MethodName := ⟨RX6, "<init>", "()V"⟩
abbrev cX6_isFull : ByteArray := prog_8_method_2_code
def yX6_isFull : MethodName := ⟨RX6, "isFull", "()Z"⟩
abbrev cX6_add : ByteArray := prog_8_method_3_code
def yX6_add : MethodName := ⟨RX6, "add", "(I)V"⟩
abbrev cX6_copy : ByteArray := prog_8_method_4_code
def yX6_copy : MethodName := ⟨RX6, "copy", "()[I"⟩
abbrev cX6_become : ByteArray := prog_8_method_5_code
def yX6_become : MethodName := ⟨RX6, "become", "([I)V"⟩
def RX7 : String := "GroupCast$Tally"
def TX7 : u_T := fun k => match k with
  | 0 => ("GroupCast$Tally", "sent", "I", false)
  | 1 => ("GroupCast$Tally", "lost", "I", false)
  | 2 => ("GroupCast$Tally", "carriedOut", "I", false)
  | 3 => ("GroupCast$Tally", "begins", "I", false)
  | _ => ("GroupCast$Tally", "flushes", "I", false)
def tyX7 : Nat → FieldType := fun k => match k with
  | 0 => .int
  | 1 => .int
  | 2 => .int
  | 3 => .int
  | _ => .int
theorem nmX7 : ∀ a, a < 5 → ∀ b, b < 5 → a ≠ b → (TX7 a).2.1 ≠ (TX7 b).2.1 := by decide +kernel
theorem tyX7_ok : ∀ k, k < 5 → parseFieldDescriptor (TX7 k).2.2.1 = some (tyX7 k) := by decide +kernel
abbrev cX7_init : ByteArray := prog_9_method_1_code
def yX7_init : MethodName := ⟨RX7, "<init>", "()V"⟩
abbrev cX7_tell : ByteArray := prog_9_method_2_code
def yX7_tell : MethodName := ⟨RX7, "tell", "(I)I"⟩
def RX8 : String := "GroupCast"
def TX8 : u_T := fun k => match k with
  | 0 => ("GroupCast", "tally", "LGroupCast$Tally;", true)
  | 1 => ("GroupCast", "post", "LGroupCast$Post;", true)
  | _ => ("GroupCast", "nodes", "[LGroupCast$Node;", true)
def tyX8 : Nat → FieldType := fun k => match k with
  | 0 => .object "GroupCast$Tally"
  | 1 => .object "GroupCast$Post"
  | _ => .array (.object "GroupCast$Node")
theorem nmX8 : ∀ a, a < 3 → ∀ b, b < 3 → a ≠ b → (TX8 a).2.1 ≠ (TX8 b).2.1 := by decide +kernel
theorem tyX8_ok : ∀ k, k < 3 → parseFieldDescriptor (TX8 k).2.2.1 = some (tyX8 k) := by decide +kernel
abbrev cX8_init : ByteArray := prog_1_method_1_code
def yX8_init : MethodName := ⟨RX8, "<init>", "(I)V"⟩
abbrev cX8_submit : ByteArray := prog_1_method_2_code
def yX8_submit : MethodName := ⟨RX8, "submit", "(II)I"⟩
abbrev cX8_deliver : ByteArray := prog_1_method_3_code
def yX8_deliver : MethodName := ⟨RX8, "deliver", "(II)I"⟩
abbrev cX8_suspect : ByteArray := prog_1_method_4_code
def yX8_suspect : MethodName := ⟨RX8, "suspect", "(II)I"⟩
abbrev cX8_crash : ByteArray := prog_1_method_5_code
def yX8_crash : MethodName := ⟨RX8, "crash", "(I)Z"⟩
abbrev cX8_timeout : ByteArray := prog_1_method_6_code
def yX8_timeout : MethodName := ⟨RX8, "timeout", "(I)I"⟩
abbrev cX8_node : ByteArray := prog_1_method_7_code
def yX8_node : MethodName := ⟨RX8, "node", "(II)I"⟩
abbrev cX8_held : ByteArray := prog_1_method_8_code
def yX8_held : MethodName := ⟨RX8, "held", "(II)I"⟩
abbrev cX8_depth : ByteArray := prog_1_method_9_code
def yX8_depth : MethodName := ⟨RX8, "depth", "(I)I"⟩
abbrev cX8_top : ByteArray := prog_1_method_10_code
def yX8_top : MethodName := ⟨RX8, "top", "(II)I"⟩
abbrev cX8_flying : ByteArray := prog_1_method_11_code
def yX8_flying : MethodName := ⟨RX8, "flying", "(II)I"⟩
abbrev cX8_letter : ByteArray := prog_1_method_12_code
def yX8_letter : MethodName := ⟨RX8, "letter", "(III)I"⟩
abbrev cX8_count : ByteArray := prog_1_method_13_code
def yX8_count : MethodName := ⟨RX8, "count", "(I)I"⟩
abbrev cX8_find : ByteArray := prog_1_method_14_code
def yX8_find : MethodName := ⟨RX8, "find", "(I)LGroupCast$Node;"⟩
abbrev cX8_isAct : ByteArray := prog_1_method_15_code
def yX8_isAct : MethodName := ⟨RX8, "isAct", "(I)Z"⟩
abbrev cX8_has : ByteArray := prog_1_method_16_code
def yX8_has : MethodName := ⟨RX8, "has", "(II)Z"⟩
abbrev cX8_without : ByteArray := prog_1_method_17_code
def yX8_without : MethodName := ⟨RX8, "without", "(II)I"⟩
abbrev cX8_allAbove : ByteArray := prog_1_method_18_code
def yX8_allAbove : MethodName := ⟨RX8, "allAbove", "(II)I"⟩
def RX9 : String := "GroupCastModel"
def TX9 : u_T := fun k => match k with
  | 0 => ("GroupCastModel", "n", "I", true)
  | 1 => ("GroupCastModel", "state", "[I", true)
  | 2 => ("GroupCastModel", "view", "[I", true)
  | 3 => ("GroupCastModel", "members", "[I", true)
  | 4 => ("GroupCastModel", "acts", "[I", true)
  | 5 => ("GroupCastModel", "holds", "[I", true)
  | 6 => ("GroupCastModel", "carried", "[I", true)
  | 7 => ("GroupCastModel", "stamp", "[I", true)
  | 8 => ("GroupCastModel", "promise", "[I", true)
  | 9 => ("GroupCastModel", "suspects", "[I", true)
  | 10 => ("GroupCastModel", "task", "[I", true)
  | 11 => ("GroupCastModel", "toBe", "[I", true)
  | 12 => ("GroupCastModel", "asker", "[I", true)
  | 13 => ("GroupCastModel", "has", "[I", true)
  | 14 => ("GroupCastModel", "got", "[I", true)
  | 15 => ("GroupCastModel", "gotStamp", "[I", true)
  | 16 => ("GroupCastModel", "gotSize", "[I", true)
  | 17 => ("GroupCastModel", "gotActs", "[I", true)
  | 18 => ("GroupCastModel", "stack", "[I", true)
  | 19 => ("GroupCastModel", "depth", "[I", true)
  | 20 => ("GroupCastModel", "flies", "[Z", true)
  | 21 => ("GroupCastModel", "from", "[I", true)
  | 22 => ("GroupCastModel", "to", "[I", true)
  | 23 => ("GroupCastModel", "kind", "[I", true)
  | 24 => ("GroupCastModel", "number", "[I", true)
  | 25 => ("GroupCastModel", "told", "[I", true)
  | 26 => ("GroupCastModel", "size", "[I", true)
  | 27 => ("GroupCastModel", "row", "[I", true)
  | 28 => ("GroupCastModel", "order", "[I", true)
  | 29 => ("GroupCastModel", "flying", "I", false)
  | 30 => ("GroupCastModel", "sent", "I", false)
  | 31 => ("GroupCastModel", "lost", "I", false)
  | 32 => ("GroupCastModel", "done", "I", false)
  | 33 => ("GroupCastModel", "begins", "I", false)
  | _ => ("GroupCastModel", "flushes", "I", false)
def tyX9 : Nat → FieldType := fun k => match k with
  | 0 => .int
  | 1 => .array .int
  | 2 => .array .int
  | 3 => .array .int
  | 4 => .array .int
  | 5 => .array .int
  | 6 => .array .int
  | 7 => .array .int
  | 8 => .array .int
  | 9 => .array .int
  | 10 => .array .int
  | 11 => .array .int
  | 12 => .array .int
  | 13 => .array .int
  | 14 => .array .int
  | 15 => .array .int
  | 16 => .array .int
  | 17 => .array .int
  | 18 => .array .int
  | 19 => .array .int
  | 20 => .array .boolean
  | 21 => .array .int
  | 22 => .array .int
  | 23 => .array .int
  | 24 => .array .int
  | 25 => .array .int
  | 26 => .array .int
  | 27 => .array .int
  | 28 => .array .int
  | 29 => .int
  | 30 => .int
  | 31 => .int
  | 32 => .int
  | 33 => .int
  | _ => .int
theorem nmX9 : ∀ a, a < 35 → ∀ b, b < 35 → a ≠ b → (TX9 a).2.1 ≠ (TX9 b).2.1 := by decide +kernel
theorem tyX9_ok : ∀ k, k < 35 → parseFieldDescriptor (TX9 k).2.2.1 = some (tyX9 k) := by decide +kernel
abbrev cX9_init : ByteArray := prog_11_method_1_code
def yX9_init : MethodName := ⟨RX9, "<init>", "(I)V"⟩
abbrev cX9_isNode : ByteArray := prog_11_method_3_code
def yX9_isNode : MethodName := ⟨RX9, "isNode", "(I)Z"⟩
abbrev cX9_has : ByteArray := prog_11_method_4_code
def yX9_has : MethodName := ⟨RX9, "has", "(II)Z"⟩
abbrev cX9_many : ByteArray := prog_11_method_5_code
def yX9_many : MethodName := ⟨RX9, "many", "(I)I"⟩
abbrev cX9_leader : ByteArray := prog_11_method_6_code
def yX9_leader : MethodName := ⟨RX9, "leader", "(I)I"⟩
abbrev cX9_isBlocked : ByteArray := prog_11_method_7_code
def yX9_isBlocked : MethodName := ⟨RX9, "isBlocked", "(I)Z"⟩
abbrev cX9_send : ByteArray := prog_11_method_8_code
def yX9_send : MethodName := ⟨RX9, "send", "(IIIIIII)V"⟩
abbrev cX9_sendAll : ByteArray := prog_11_method_9_code
def yX9_sendAll : MethodName := ⟨RX9, "sendAll", "(IIIIIII)V"⟩
abbrev cX9_oldest : ByteArray := prog_11_method_10_code
def yX9_oldest : MethodName := ⟨RX9, "oldest", "(II)I"⟩
abbrev cX9_push : ByteArray := prog_11_method_11_code
def yX9_push : MethodName := ⟨RX9, "push", "(II)V"⟩
abbrev cX9_carry : ByteArray := prog_11_method_12_code
def yX9_carry : MethodName := ⟨RX9, "carry", "(I)V"⟩
abbrev cX9_carryTo : ByteArray := prog_11_method_13_code
def yX9_carryTo : MethodName := ⟨RX9, "carryTo", "(II)V"⟩
abbrev cX9_isAct : ByteArray := prog_11_method_14_code
def yX9_isAct : MethodName := ⟨RX9, "isAct", "(I)Z"⟩
abbrev cX9_add : ByteArray := prog_11_method_15_code
def yX9_add : MethodName := ⟨RX9, "add", "(II)V"⟩
abbrev cX9_look : ByteArray := prog_11_method_16_code
def yX9_look : MethodName := ⟨RX9, "look", "(I)V"⟩
abbrev cX9_submit : ByteArray := prog_11_method_17_code
def yX9_submit : MethodName := ⟨RX9, "submit", "(II)I"⟩
abbrev cX9_ask : ByteArray := prog_11_method_18_code
def yX9_ask : MethodName := ⟨RX9, "ask", "(I)V"⟩
abbrev cX9_flush : ByteArray := prog_11_method_19_code
def yX9_flush : MethodName := ⟨RX9, "flush", "(I)V"⟩
abbrev cX9_choose : ByteArray := prog_11_method_20_code
def yX9_choose : MethodName := ⟨RX9, "choose", "(I)V"⟩
abbrev cX9_found : ByteArray := prog_11_method_21_code
def yX9_found : MethodName := ⟨RX9, "found", "(I)V"⟩
abbrev cX9_begin : ByteArray := prog_11_method_22_code
def yX9_begin : MethodName := ⟨RX9, "begin", "(III)V"⟩
abbrev cX9_come : ByteArray := prog_11_method_23_code
def yX9_come : MethodName := ⟨RX9, "come", "(I)V"⟩
abbrev cX9_comeOfView : ByteArray := prog_11_method_24_code
def yX9_comeOfView : MethodName := ⟨RX9, "comeOfView", "(III)V"⟩
abbrev cX9_deliver : ByteArray := prog_11_method_25_code
def yX9_deliver : MethodName := ⟨RX9, "deliver", "(II)I"⟩
abbrev cX9_keepLetter : ByteArray := prog_11_method_26_code
def yX9_keepLetter : MethodName := ⟨RX9, "keepLetter", "(I)V"⟩
abbrev cX9_suspect : ByteArray := prog_11_method_27_code
def yX9_suspect : MethodName := ⟨RX9, "suspect", "(II)I"⟩
abbrev cX9_crash : ByteArray := prog_11_method_28_code
def yX9_crash : MethodName := ⟨RX9, "crash", "(I)Z"⟩
abbrev cX9_timeout : ByteArray := prog_11_method_29_code
def yX9_timeout : MethodName := ⟨RX9, "timeout", "(I)I"⟩
abbrev cX9_node : ByteArray := prog_11_method_30_code
def yX9_node : MethodName := ⟨RX9, "node", "(II)I"⟩
abbrev cX9_held : ByteArray := prog_11_method_31_code
def yX9_held : MethodName := ⟨RX9, "held", "(II)I"⟩
abbrev cX9_depth : ByteArray := prog_11_method_32_code
def yX9_depth : MethodName := ⟨RX9, "depth", "(I)I"⟩
abbrev cX9_top : ByteArray := prog_11_method_33_code
def yX9_top : MethodName := ⟨RX9, "top", "(II)I"⟩
abbrev cX9_flying : ByteArray := prog_11_method_34_code
def yX9_flying : MethodName := ⟨RX9, "flying", "(II)I"⟩
abbrev cX9_letter : ByteArray := prog_11_method_35_code
def yX9_letter : MethodName := ⟨RX9, "letter", "(III)I"⟩
abbrev cX9_count : ByteArray := prog_11_method_36_code
def yX9_count : MethodName := ⟨RX9, "count", "(I)I"⟩
def RJx8e188 : String := "java/lang/Cloneable"
def TJx8e188 : u_T := fun k => match k with
  | _ => ("", "", "", false)
def tyJx8e188 : Nat → FieldType := fun k => match k with
  | _ => .int
theorem nmJx8e188 : ∀ a, a < 0 → ∀ b, b < 0 → a ≠ b → (TJx8e188 a).2.1 ≠ (TJx8e188 b).2.1 := by decide +kernel
theorem tyJx8e188_ok : ∀ k, k < 0 → parseFieldDescriptor (TJx8e188 k).2.2.1 = some (tyJx8e188 k) := by decide +kernel
def RJ6 : String := "java/lang/Integer"
def TJ6 : u_T := fun k => match k with
  | _ => ("", "", "", false)
def tyJ6 : Nat → FieldType := fun k => match k with
  | _ => .int
theorem nmJ6 : ∀ a, a < 0 → ∀ b, b < 0 → a ≠ b → (TJ6 a).2.1 ≠ (TJ6 b).2.1 := by decide +kernel
theorem tyJ6_ok : ∀ k, k < 0 → parseFieldDescriptor (TJ6 k).2.2.1 = some (tyJ6 k) := by decide +kernel
abbrev cJ6_bitCount_0f7a4 : ByteArray := prog_13_method_49_code
def yJ6_bitCount_0f7a4 : MethodName := ⟨RJ6, "bitCount", "(I)I"⟩
def RJ9 : String := "java/lang/Math"
def TJ9 : u_T := fun k => match k with
  | _ => ("", "", "", false)
def tyJ9 : Nat → FieldType := fun k => match k with
  | _ => .int
theorem nmJ9 : ∀ a, a < 0 → ∀ b, b < 0 → a ≠ b → (TJ9 a).2.1 ≠ (TJ9 b).2.1 := by decide +kernel
theorem tyJ9_ok : ∀ k, k < 0 → parseFieldDescriptor (TJ9 k).2.2.1 = some (tyJ9 k) := by decide +kernel
abbrev cJ9_floorMod_7cf53 : ByteArray := prog_14_method_50_code
def yJ9_floorMod_7cf53 : MethodName := ⟨RJ9, "floorMod", "(II)I"⟩
abbrev cJ9_max_7cf53 : ByteArray := prog_14_method_65_code
def yJ9_max_7cf53 : MethodName := ⟨RJ9, "max", "(II)I"⟩
abbrev cJ9_min_7cf53 : ByteArray := prog_14_method_69_code
def yJ9_min_7cf53 : MethodName := ⟨RJ9, "min", "(II)I"⟩
def RJ10 : String := "java/lang/System"
def TJ10 : u_T := fun k => match k with
  | _ => ("", "", "", false)
def tyJ10 : Nat → FieldType := fun k => match k with
  | _ => .int
theorem nmJ10 : ∀ a, a < 0 → ∀ b, b < 0 → a ≠ b → (TJ10 a).2.1 ≠ (TJ10 b).2.1 := by decide +kernel
theorem tyJ10_ok : ∀ k, k < 0 → parseFieldDescriptor (TJ10 k).2.2.1 = some (tyJ10 k) := by decide +kernel
def RJ7 : String := "java/util/Arrays"
def TJ7 : u_T := fun k => match k with
  | _ => ("", "", "", false)
def tyJ7 : Nat → FieldType := fun k => match k with
  | _ => .int
theorem nmJ7 : ∀ a, a < 0 → ∀ b, b < 0 → a ≠ b → (TJ7 a).2.1 ≠ (TJ7 b).2.1 := by decide +kernel
theorem tyJ7_ok : ∀ k, k < 0 → parseFieldDescriptor (TJ7 k).2.2.1 = some (tyJ7 k) := by decide +kernel
abbrev cJ7_fill_53178 : ByteArray := prog_16_method_103_code
def yJ7_fill_53178 : MethodName := ⟨RJ7, "fill", "([II)V"⟩
abbrev cJ7_copyOf_59c91 : ByteArray := prog_16_method_123_code
def yJ7_copyOf_59c91 : MethodName := ⟨RJ7, "copyOf", "([II)[I"⟩
def RL : String := "GroupCastLaw"
abbrev cL_cell : ByteArray := method_2_code
def yL_cell : MethodName := ⟨RL, "cell", "([II)I"⟩
abbrev cL_law : ByteArray := code
def yL_law : MethodName := ⟨RL, "law", "([I)Z"⟩
abbrev vwCl : List vw_C := [(RX0, TX0, 5), (RX1, TX1, 3), (RX2, TX2, 5), (RX3, TX3, 2), (RX4, TX4, 17), (RX5, TX5, 4), (RX6, TX6, 2), (RX7, TX7, 5), (RX8, TX8, 3), (RX9, TX9, 35)]
end
section
theorem dX0_init_0 : decode cX0_init 0 = .ok (.aload_n 0, 1) := by decide +kernel
theorem dX0_init_1 : decode cX0_init 1 = .ok (.invokespecial 1, 3) := by decide +kernel
theorem dX0_init_4 : decode cX0_init 4 = .ok (.aload_n 0, 1) := by decide +kernel
theorem dX0_init_5 : decode cX0_init 5 = .ok (.getstatic 7, 3) := by decide +kernel
theorem dX0_init_8 : decode cX0_init 8 = .ok (.putfield 13, 3) := by decide +kernel
theorem dX0_init_11 : decode cX0_init 11 = .ok (.return_, 1) := by decide +kernel
theorem dX0_start_0 : decode cX0_start 0 = .ok (.aload_n 0, 1) := by decide +kernel
theorem dX0_start_1 : decode cX0_start 1 = .ok (.iload_n 1, 1) := by decide +kernel
theorem dX0_start_2 : decode cX0_start 2 = .ok (.putfield 18, 3) := by decide +kernel
theorem dX0_start_5 : decode cX0_start 5 = .ok (.aload_n 0, 1) := by decide +kernel
theorem dX0_start_6 : decode cX0_start 6 = .ok (.iload_n 1, 1) := by decide +kernel
theorem dX0_start_7 : decode cX0_start 7 = .ok (.iload_n 2, 1) := by decide +kernel
theorem dX0_start_8 : decode cX0_start 8 = .ok (.invokestatic 22, 3) := by decide +kernel
theorem dX0_start_11 : decode cX0_start 11 = .ok (.putfield 26, 3) := by decide +kernel
theorem dX0_start_14 : decode cX0_start 14 = .ok (.aload_n 0, 1) := by decide +kernel
theorem dX0_start_15 : decode cX0_start 15 = .ok (.iload_n 2, 1) := by decide +kernel
theorem dX0_start_16 : decode cX0_start 16 = .ok (.putfield 29, 3) := by decide +kernel
theorem dX0_start_19 : decode cX0_start 19 = .ok (.aload_n 0, 1) := by decide +kernel
theorem dX0_start_20 : decode cX0_start 20 = .ok (.iload_n 3, 1) := by decide +kernel
theorem dX0_start_21 : decode cX0_start 21 = .ok (.putfield 32, 3) := by decide +kernel
theorem dX0_start_24 : decode cX0_start 24 = .ok (.aload_n 0, 1) := by decide +kernel
theorem dX0_start_25 : decode cX0_start 25 = .ok (.aload 4, 2) := by decide +kernel
theorem dX0_start_27 : decode cX0_start 27 = .ok (.putfield 13, 3) := by decide +kernel
theorem dX0_start_30 : decode cX0_start 30 = .ok (.return_, 1) := by decide +kernel
theorem dX0_answered_0 : decode cX0_answered 0 = .ok (.aload_n 0, 1) := by decide +kernel
theorem dX0_answered_1 : decode cX0_answered 1 = .ok (.aload_n 0, 1) := by decide +kernel
theorem dX0_answered_2 : decode cX0_answered 2 = .ok (.getfield 26, 3) := by decide +kernel
theorem dX0_answered_5 : decode cX0_answered 5 = .ok (.iload_n 1, 1) := by decide +kernel
theorem dX0_answered_6 : decode cX0_answered 6 = .ok (.invokestatic 22, 3) := by decide +kernel
theorem dX0_answered_9 : decode cX0_answered 9 = .ok (.putfield 26, 3) := by decide +kernel
theorem dX0_answered_12 : decode cX0_answered 12 = .ok (.return_, 1) := by decide +kernel
theorem dX0_weigh_0 : decode cX0_weigh 0 = .ok (.aload_n 0, 1) := by decide +kernel
theorem dX0_weigh_1 : decode cX0_weigh 1 = .ok (.iload_n 1, 1) := by decide +kernel
theorem dX0_weigh_2 : decode cX0_weigh 2 = .ok (.iload_n 2, 1) := by decide +kernel
theorem dX0_weigh_3 : decode cX0_weigh 3 = .ok (.aload_n 3, 1) := by decide +kernel
theorem dX0_weigh_4 : decode cX0_weigh 4 = .ok (.arraylength, 1) := by decide +kernel
theorem dX0_weigh_5 : decode cX0_weigh 5 = .ok (.invokevirtual 35, 3) := by decide +kernel
theorem dX0_weigh_8 : decode cX0_weigh 8 = .ok (.ifCond .eq 18, 3) := by decide +kernel
theorem dX0_weigh_11 : decode cX0_weigh 11 = .ok (.aload_n 0, 1) := by decide +kernel
theorem dX0_weigh_12 : decode cX0_weigh 12 = .ok (.iload_n 1, 1) := by decide +kernel
theorem dX0_weigh_13 : decode cX0_weigh 13 = .ok (.putfield 29, 3) := by decide +kernel
theorem dX0_weigh_16 : decode cX0_weigh 16 = .ok (.aload_n 0, 1) := by decide +kernel
theorem dX0_weigh_17 : decode cX0_weigh 17 = .ok (.iload_n 2, 1) := by decide +kernel
theorem dX0_weigh_18 : decode cX0_weigh 18 = .ok (.putfield 32, 3) := by decide +kernel
theorem dX0_weigh_21 : decode cX0_weigh 21 = .ok (.aload_n 0, 1) := by decide +kernel
theorem dX0_weigh_22 : decode cX0_weigh 22 = .ok (.aload_n 3, 1) := by decide +kernel
theorem dX0_weigh_23 : decode cX0_weigh 23 = .ok (.putfield 13, 3) := by decide +kernel
theorem dX0_weigh_26 : decode cX0_weigh 26 = .ok (.return_, 1) := by decide +kernel
theorem dX0_isBetter_0 : decode cX0_isBetter 0 = .ok (.iload_n 2, 1) := by decide +kernel
theorem dX0_isBetter_1 : decode cX0_isBetter 1 = .ok (.aload_n 0, 1) := by decide +kernel
theorem dX0_isBetter_2 : decode cX0_isBetter 2 = .ok (.getfield 32, 3) := by decide +kernel
theorem dX0_isBetter_5 : decode cX0_isBetter 5 = .ok (.if_icmp .eq 17, 3) := by decide +kernel
theorem dX0_isBetter_8 : decode cX0_isBetter 8 = .ok (.iload_n 2, 1) := by decide +kernel
theorem dX0_isBetter_9 : decode cX0_isBetter 9 = .ok (.aload_n 0, 1) := by decide +kernel
theorem dX0_isBetter_10 : decode cX0_isBetter 10 = .ok (.getfield 32, 3) := by decide +kernel
theorem dX0_isBetter_13 : decode cX0_isBetter 13 = .ok (.if_icmp .le 7, 3) := by decide +kernel
theorem dX0_isBetter_16 : decode cX0_isBetter 16 = .ok (.iconst 1, 1) := by decide +kernel
theorem dX0_isBetter_17 : decode cX0_isBetter 17 = .ok (.goto 4, 3) := by decide +kernel
theorem dX0_isBetter_20 : decode cX0_isBetter 20 = .ok (.iconst 0, 1) := by decide +kernel
theorem dX0_isBetter_21 : decode cX0_isBetter 21 = .ok (.ireturn, 1) := by decide +kernel
theorem dX0_isBetter_22 : decode cX0_isBetter 22 = .ok (.iload_n 3, 1) := by decide +kernel
theorem dX0_isBetter_23 : decode cX0_isBetter 23 = .ok (.aload_n 0, 1) := by decide +kernel
theorem dX0_isBetter_24 : decode cX0_isBetter 24 = .ok (.getfield 13, 3) := by decide +kernel
theorem dX0_isBetter_27 : decode cX0_isBetter 27 = .ok (.arraylength, 1) := by decide +kernel
theorem dX0_isBetter_28 : decode cX0_isBetter 28 = .ok (.if_icmp .eq 18, 3) := by decide +kernel
theorem dX0_isBetter_31 : decode cX0_isBetter 31 = .ok (.iload_n 3, 1) := by decide +kernel
theorem dX0_isBetter_32 : decode cX0_isBetter 32 = .ok (.aload_n 0, 1) := by decide +kernel
theorem dX0_isBetter_33 : decode cX0_isBetter 33 = .ok (.getfield 13, 3) := by decide +kernel
theorem dX0_isBetter_36 : decode cX0_isBetter 36 = .ok (.arraylength, 1) := by decide +kernel
theorem dX0_isBetter_37 : decode cX0_isBetter 37 = .ok (.if_icmp .le 7, 3) := by decide +kernel
theorem dX0_isBetter_40 : decode cX0_isBetter 40 = .ok (.iconst 1, 1) := by decide +kernel
theorem dX0_isBetter_41 : decode cX0_isBetter 41 = .ok (.goto 4, 3) := by decide +kernel
theorem dX0_isBetter_44 : decode cX0_isBetter 44 = .ok (.iconst 0, 1) := by decide +kernel
theorem dX0_isBetter_45 : decode cX0_isBetter 45 = .ok (.ireturn, 1) := by decide +kernel
theorem dX0_isBetter_46 : decode cX0_isBetter 46 = .ok (.iload_n 1, 1) := by decide +kernel
theorem dX0_isBetter_47 : decode cX0_isBetter 47 = .ok (.aload_n 0, 1) := by decide +kernel
theorem dX0_isBetter_48 : decode cX0_isBetter 48 = .ok (.getfield 29, 3) := by decide +kernel
theorem dX0_isBetter_51 : decode cX0_isBetter 51 = .ok (.if_icmp .ge 7, 3) := by decide +kernel
theorem dX0_isBetter_54 : decode cX0_isBetter 54 = .ok (.iconst 1, 1) := by decide +kernel
theorem dX0_isBetter_55 : decode cX0_isBetter 55 = .ok (.goto 4, 3) := by decide +kernel
theorem dX0_isBetter_58 : decode cX0_isBetter 58 = .ok (.iconst 0, 1) := by decide +kernel
theorem dX0_isBetter_59 : decode cX0_isBetter 59 = .ok (.ireturn, 1) := by decide +kernel
theorem dX1_init_0 : decode cX1_init 0 = .ok (.aload_n 0, 1) := by decide +kernel
theorem dX1_init_1 : decode cX1_init 1 = .ok (.invokespecial 1, 3) := by decide +kernel
theorem dX1_init_4 : decode cX1_init 4 = .ok (.return_, 1) := by decide +kernel
theorem dX1_put_0 : decode cX1_put 0 = .ok (.aload_n 0, 1) := by decide +kernel
theorem dX1_put_1 : decode cX1_put 1 = .ok (.getfield 7, 3) := by decide +kernel
theorem dX1_put_4 : decode cX1_put 4 = .ok (.ifnonnull 11, 3) := by decide +kernel
theorem dX1_put_7 : decode cX1_put 7 = .ok (.aload_n 0, 1) := by decide +kernel
theorem dX1_put_8 : decode cX1_put 8 = .ok (.aload_n 1, 1) := by decide +kernel
theorem dX1_put_9 : decode cX1_put 9 = .ok (.putfield 13, 3) := by decide +kernel
theorem dX1_put_12 : decode cX1_put 12 = .ok (.goto 11, 3) := by decide +kernel
theorem dX1_put_15 : decode cX1_put 15 = .ok (.aload_n 0, 1) := by decide +kernel
theorem dX1_put_16 : decode cX1_put 16 = .ok (.getfield 7, 3) := by decide +kernel
theorem dX1_put_19 : decode cX1_put 19 = .ok (.aload_n 1, 1) := by decide +kernel
theorem dX1_put_20 : decode cX1_put 20 = .ok (.putfield 16, 3) := by decide +kernel
theorem dX1_put_23 : decode cX1_put 23 = .ok (.aload_n 0, 1) := by decide +kernel
theorem dX1_put_24 : decode cX1_put 24 = .ok (.aload_n 1, 1) := by decide +kernel
theorem dX1_put_25 : decode cX1_put 25 = .ok (.putfield 7, 3) := by decide +kernel
theorem dX1_put_28 : decode cX1_put 28 = .ok (.aload_n 0, 1) := by decide +kernel
theorem dX1_put_29 : decode cX1_put 29 = .ok (.dup, 1) := by decide +kernel
theorem dX1_put_30 : decode cX1_put 30 = .ok (.getfield 21, 3) := by decide +kernel
theorem dX1_put_33 : decode cX1_put 33 = .ok (.iconst 1, 1) := by decide +kernel
theorem dX1_put_34 : decode cX1_put 34 = .ok (.iadd, 1) := by decide +kernel
theorem dX1_put_35 : decode cX1_put 35 = .ok (.putfield 21, 3) := by decide +kernel
theorem dX1_put_38 : decode cX1_put 38 = .ok (.return_, 1) := by decide +kernel
theorem dX1_take_0 : decode cX1_take 0 = .ok (.aload_n 0, 1) := by decide +kernel
theorem dX1_take_1 : decode cX1_take 1 = .ok (.getfield 13, 3) := by decide +kernel
theorem dX1_take_4 : decode cX1_take 4 = .ok (.astore_n 1, 1) := by decide +kernel
theorem dX1_take_5 : decode cX1_take 5 = .ok (.aload_n 1, 1) := by decide +kernel
theorem dX1_take_6 : decode cX1_take 6 = .ok (.ifnonnull 5, 3) := by decide +kernel
theorem dX1_take_9 : decode cX1_take 9 = .ok (.aconst_null, 1) := by decide +kernel
theorem dX1_take_10 : decode cX1_take 10 = .ok (.areturn, 1) := by decide +kernel
theorem dX1_take_11 : decode cX1_take 11 = .ok (.aload_n 0, 1) := by decide +kernel
theorem dX1_take_12 : decode cX1_take 12 = .ok (.aload_n 1, 1) := by decide +kernel
theorem dX1_take_13 : decode cX1_take 13 = .ok (.getfield 16, 3) := by decide +kernel
theorem dX1_take_16 : decode cX1_take 16 = .ok (.putfield 13, 3) := by decide +kernel
theorem dX1_take_19 : decode cX1_take 19 = .ok (.aload_n 0, 1) := by decide +kernel
theorem dX1_take_20 : decode cX1_take 20 = .ok (.getfield 13, 3) := by decide +kernel
theorem dX1_take_23 : decode cX1_take 23 = .ok (.ifnonnull 8, 3) := by decide +kernel
theorem dX1_take_26 : decode cX1_take 26 = .ok (.aload_n 0, 1) := by decide +kernel
theorem dX1_take_27 : decode cX1_take 27 = .ok (.aconst_null, 1) := by decide +kernel
theorem dX1_take_28 : decode cX1_take 28 = .ok (.putfield 7, 3) := by decide +kernel
theorem dX1_take_31 : decode cX1_take 31 = .ok (.aload_n 0, 1) := by decide +kernel
theorem dX1_take_32 : decode cX1_take 32 = .ok (.dup, 1) := by decide +kernel
theorem dX1_take_33 : decode cX1_take 33 = .ok (.getfield 21, 3) := by decide +kernel
theorem dX1_take_36 : decode cX1_take 36 = .ok (.iconst 1, 1) := by decide +kernel
theorem dX1_take_37 : decode cX1_take 37 = .ok (.isub, 1) := by decide +kernel
theorem dX1_take_38 : decode cX1_take 38 = .ok (.putfield 21, 3) := by decide +kernel
theorem dX1_take_41 : decode cX1_take 41 = .ok (.aload_n 1, 1) := by decide +kernel
theorem dX1_take_42 : decode cX1_take 42 = .ok (.areturn, 1) := by decide +kernel
theorem dX2_init_0 : decode cX2_init 0 = .ok (.aload_n 0, 1) := by decide +kernel
theorem dX2_init_1 : decode cX2_init 1 = .ok (.invokespecial 3, 3) := by decide +kernel
theorem dX2_init_4 : decode cX2_init 4 = .ok (.aload_n 0, 1) := by decide +kernel
theorem dX2_init_5 : decode cX2_init 5 = .ok (.iload_n 1, 1) := by decide +kernel
theorem dX2_init_6 : decode cX2_init 6 = .ok (.putfield 9, 3) := by decide +kernel
theorem dX2_init_9 : decode cX2_init 9 = .ok (.aload_n 0, 1) := by decide +kernel
theorem dX2_init_10 : decode cX2_init 10 = .ok (.iload_n 2, 1) := by decide +kernel
theorem dX2_init_11 : decode cX2_init 11 = .ok (.putfield 15, 3) := by decide +kernel
theorem dX2_init_14 : decode cX2_init 14 = .ok (.aload_n 0, 1) := by decide +kernel
theorem dX2_init_15 : decode cX2_init 15 = .ok (.iload_n 3, 1) := by decide +kernel
theorem dX2_init_16 : decode cX2_init 16 = .ok (.putfield 18, 3) := by decide +kernel
theorem dX2_init_19 : decode cX2_init 19 = .ok (.aload_n 0, 1) := by decide +kernel
theorem dX2_init_20 : decode cX2_init 20 = .ok (.aload 4, 2) := by decide +kernel
theorem dX2_init_22 : decode cX2_init 22 = .ok (.putfield 21, 3) := by decide +kernel
theorem dX2_init_25 : decode cX2_init 25 = .ok (.return_, 1) := by decide +kernel
theorem dX2_firstAct_0 : decode cX2_firstAct 0 = .ok (.aload_n 0, 1) := by decide +kernel
theorem dX2_firstAct_1 : decode cX2_firstAct 1 = .ok (.getfield 21, 3) := by decide +kernel
theorem dX2_firstAct_4 : decode cX2_firstAct 4 = .ok (.arraylength, 1) := by decide +kernel
theorem dX2_firstAct_5 : decode cX2_firstAct 5 = .ok (.ifCond .le 12, 3) := by decide +kernel
theorem dX2_firstAct_8 : decode cX2_firstAct 8 = .ok (.aload_n 0, 1) := by decide +kernel
theorem dX2_firstAct_9 : decode cX2_firstAct 9 = .ok (.getfield 21, 3) := by decide +kernel
theorem dX2_firstAct_12 : decode cX2_firstAct 12 = .ok (.iconst 0, 1) := by decide +kernel
theorem dX2_firstAct_13 : decode cX2_firstAct 13 = .ok (.iaload, 1) := by decide +kernel
theorem dX2_firstAct_14 : decode cX2_firstAct 14 = .ok (.goto 4, 3) := by decide +kernel
theorem dX2_firstAct_17 : decode cX2_firstAct 17 = .ok (.iconst 0, 1) := by decide +kernel
theorem dX2_firstAct_18 : decode cX2_firstAct 18 = .ok (.ireturn, 1) := by decide +kernel
theorem dX2_tell_0 : decode cX2_tell 0 = .ok (.iload_n 1, 1) := by decide +kernel
theorem dX2_tell_1 : decode cX2_tell 1 = .ok (.tableswitch 52 0 3 #[31, 36, 41, 46], 31) := by decide +kernel
theorem dX2_tell_32 : decode cX2_tell 32 = .ok (.aload_n 0, 1) := by decide +kernel
theorem dX2_tell_33 : decode cX2_tell 33 = .ok (.getfield 9, 3) := by decide +kernel
theorem dX2_tell_36 : decode cX2_tell 36 = .ok (.ireturn, 1) := by decide +kernel
theorem dX2_tell_37 : decode cX2_tell 37 = .ok (.aload_n 0, 1) := by decide +kernel
theorem dX2_tell_38 : decode cX2_tell 38 = .ok (.getfield 15, 3) := by decide +kernel
theorem dX2_tell_41 : decode cX2_tell 41 = .ok (.ireturn, 1) := by decide +kernel
theorem dX2_tell_42 : decode cX2_tell 42 = .ok (.aload_n 0, 1) := by decide +kernel
theorem dX2_tell_43 : decode cX2_tell 43 = .ok (.getfield 18, 3) := by decide +kernel
theorem dX2_tell_46 : decode cX2_tell 46 = .ok (.ireturn, 1) := by decide +kernel
theorem dX2_tell_47 : decode cX2_tell 47 = .ok (.aload_n 0, 1) := by decide +kernel
theorem dX2_tell_48 : decode cX2_tell 48 = .ok (.getfield 21, 3) := by decide +kernel
theorem dX2_tell_51 : decode cX2_tell 51 = .ok (.arraylength, 1) := by decide +kernel
theorem dX2_tell_52 : decode cX2_tell 52 = .ok (.ireturn, 1) := by decide +kernel
theorem dX2_tell_53 : decode cX2_tell 53 = .ok (.iconst (-1), 1) := by decide +kernel
theorem dX2_tell_54 : decode cX2_tell 54 = .ok (.ireturn, 1) := by decide +kernel
theorem dX3_init_0 : decode cX3_init 0 = .ok (.aload_n 0, 1) := by decide +kernel
theorem dX3_init_1 : decode cX3_init 1 = .ok (.invokespecial 3, 3) := by decide +kernel
theorem dX3_init_4 : decode cX3_init 4 = .ok (.aload_n 0, 1) := by decide +kernel
theorem dX3_init_5 : decode cX3_init 5 = .ok (.bipush 20, 2) := by decide +kernel
theorem dX3_init_7 : decode cX3_init 7 = .ok (.newarray .int, 2) := by decide +kernel
theorem dX3_init_9 : decode cX3_init 9 = .ok (.putfield 9, 3) := by decide +kernel
theorem dX3_init_12 : decode cX3_init 12 = .ok (.return_, 1) := by decide +kernel
theorem dX3_carryOut_0 : decode cX3_carryOut 0 = .ok (.iload_n 1, 1) := by decide +kernel
theorem dX3_carryOut_1 : decode cX3_carryOut 1 = .ok (.tableswitch 70 1 5 #[35, 42, 49, 56, 63], 35) := by decide +kernel
theorem dX3_carryOut_36 : decode cX3_carryOut 36 = .ok (.aload_n 0, 1) := by decide +kernel
theorem dX3_carryOut_37 : decode cX3_carryOut 37 = .ok (.invokevirtual 15, 3) := by decide +kernel
theorem dX3_carryOut_40 : decode cX3_carryOut 40 = .ok (.goto 39, 3) := by decide +kernel
theorem dX3_carryOut_43 : decode cX3_carryOut 43 = .ok (.aload_n 0, 1) := by decide +kernel
theorem dX3_carryOut_44 : decode cX3_carryOut 44 = .ok (.invokevirtual 18, 3) := by decide +kernel
theorem dX3_carryOut_47 : decode cX3_carryOut 47 = .ok (.goto 32, 3) := by decide +kernel
theorem dX3_carryOut_50 : decode cX3_carryOut 50 = .ok (.aload_n 0, 1) := by decide +kernel
theorem dX3_carryOut_51 : decode cX3_carryOut 51 = .ok (.invokevirtual 21, 3) := by decide +kernel
theorem dX3_carryOut_54 : decode cX3_carryOut 54 = .ok (.goto 25, 3) := by decide +kernel
theorem dX3_carryOut_57 : decode cX3_carryOut 57 = .ok (.aload_n 0, 1) := by decide +kernel
theorem dX3_carryOut_58 : decode cX3_carryOut 58 = .ok (.invokevirtual 24, 3) := by decide +kernel
theorem dX3_carryOut_61 : decode cX3_carryOut 61 = .ok (.goto 18, 3) := by decide +kernel
theorem dX3_carryOut_64 : decode cX3_carryOut 64 = .ok (.aload_n 0, 1) := by decide +kernel
theorem dX3_carryOut_65 : decode cX3_carryOut 65 = .ok (.invokevirtual 27, 3) := by decide +kernel
theorem dX3_carryOut_68 : decode cX3_carryOut 68 = .ok (.goto 11, 3) := by decide +kernel
theorem dX3_carryOut_71 : decode cX3_carryOut 71 = .ok (.aload_n 0, 1) := by decide +kernel
theorem dX3_carryOut_72 : decode cX3_carryOut 72 = .ok (.iload_n 1, 1) := by decide +kernel
theorem dX3_carryOut_73 : decode cX3_carryOut 73 = .ok (.bipush 8, 2) := by decide +kernel
theorem dX3_carryOut_75 : decode cX3_carryOut 75 = .ok (.idiv, 1) := by decide +kernel
theorem dX3_carryOut_76 : decode cX3_carryOut 76 = .ok (.invokevirtual 30, 3) := by decide +kernel
theorem dX3_carryOut_79 : decode cX3_carryOut 79 = .ok (.return_, 1) := by decide +kernel
theorem dX3_fromTop_0 : decode cX3_fromTop 0 = .ok (.iload_n 1, 1) := by decide +kernel
theorem dX3_fromTop_1 : decode cX3_fromTop 1 = .ok (.ifCond .lt 27, 3) := by decide +kernel
theorem dX3_fromTop_4 : decode cX3_fromTop 4 = .ok (.iload_n 1, 1) := by decide +kernel
theorem dX3_fromTop_5 : decode cX3_fromTop 5 = .ok (.aload_n 0, 1) := by decide +kernel
theorem dX3_fromTop_6 : decode cX3_fromTop 6 = .ok (.getfield 34, 3) := by decide +kernel
theorem dX3_fromTop_9 : decode cX3_fromTop 9 = .ok (.if_icmp .ge 19, 3) := by decide +kernel
theorem dX3_fromTop_12 : decode cX3_fromTop 12 = .ok (.aload_n 0, 1) := by decide +kernel
theorem dX3_fromTop_13 : decode cX3_fromTop 13 = .ok (.getfield 9, 3) := by decide +kernel
theorem dX3_fromTop_16 : decode cX3_fromTop 16 = .ok (.aload_n 0, 1) := by decide +kernel
theorem dX3_fromTop_17 : decode cX3_fromTop 17 = .ok (.getfield 34, 3) := by decide +kernel
theorem dX3_fromTop_20 : decode cX3_fromTop 20 = .ok (.iconst 1, 1) := by decide +kernel
theorem dX3_fromTop_21 : decode cX3_fromTop 21 = .ok (.isub, 1) := by decide +kernel
theorem dX3_fromTop_22 : decode cX3_fromTop 22 = .ok (.iload_n 1, 1) := by decide +kernel
theorem dX3_fromTop_23 : decode cX3_fromTop 23 = .ok (.isub, 1) := by decide +kernel
theorem dX3_fromTop_24 : decode cX3_fromTop 24 = .ok (.iaload, 1) := by decide +kernel
theorem dX3_fromTop_25 : decode cX3_fromTop 25 = .ok (.goto 4, 3) := by decide +kernel
theorem dX3_fromTop_28 : decode cX3_fromTop 28 = .ok (.iconst 0, 1) := by decide +kernel
theorem dX3_fromTop_29 : decode cX3_fromTop 29 = .ok (.ireturn, 1) := by decide +kernel
theorem dX3_push_0 : decode cX3_push 0 = .ok (.aload_n 0, 1) := by decide +kernel
theorem dX3_push_1 : decode cX3_push 1 = .ok (.getfield 34, 3) := by decide +kernel
theorem dX3_push_4 : decode cX3_push 4 = .ok (.bipush 20, 2) := by decide +kernel
theorem dX3_push_6 : decode cX3_push 6 = .ok (.if_icmp .ge 23, 3) := by decide +kernel
theorem dX3_push_9 : decode cX3_push 9 = .ok (.aload_n 0, 1) := by decide +kernel
theorem dX3_push_10 : decode cX3_push 10 = .ok (.getfield 9, 3) := by decide +kernel
theorem dX3_push_13 : decode cX3_push 13 = .ok (.aload_n 0, 1) := by decide +kernel
theorem dX3_push_14 : decode cX3_push 14 = .ok (.getfield 34, 3) := by decide +kernel
theorem dX3_push_17 : decode cX3_push 17 = .ok (.iload_n 1, 1) := by decide +kernel
theorem dX3_push_18 : decode cX3_push 18 = .ok (.iastore, 1) := by decide +kernel
theorem dX3_push_19 : decode cX3_push 19 = .ok (.aload_n 0, 1) := by decide +kernel
theorem dX3_push_20 : decode cX3_push 20 = .ok (.dup, 1) := by decide +kernel
theorem dX3_push_21 : decode cX3_push 21 = .ok (.getfield 34, 3) := by decide +kernel
theorem dX3_push_24 : decode cX3_push 24 = .ok (.iconst 1, 1) := by decide +kernel
theorem dX3_push_25 : decode cX3_push 25 = .ok (.iadd, 1) := by decide +kernel
theorem dX3_push_26 : decode cX3_push 26 = .ok (.putfield 34, 3) := by decide +kernel
theorem dX3_push_29 : decode cX3_push 29 = .ok (.return_, 1) := by decide +kernel
theorem dX3_add_0 : decode cX3_add 0 = .ok (.aload_n 0, 1) := by decide +kernel
theorem dX3_add_1 : decode cX3_add 1 = .ok (.getfield 34, 3) := by decide +kernel
theorem dX3_add_4 : decode cX3_add 4 = .ok (.iconst 2, 1) := by decide +kernel
theorem dX3_add_5 : decode cX3_add 5 = .ok (.if_icmp .lt 38, 3) := by decide +kernel
theorem dX3_add_8 : decode cX3_add 8 = .ok (.aload_n 0, 1) := by decide +kernel
theorem dX3_add_9 : decode cX3_add 9 = .ok (.getfield 9, 3) := by decide +kernel
theorem dX3_add_12 : decode cX3_add 12 = .ok (.aload_n 0, 1) := by decide +kernel
theorem dX3_add_13 : decode cX3_add 13 = .ok (.getfield 34, 3) := by decide +kernel
theorem dX3_add_16 : decode cX3_add 16 = .ok (.iconst 2, 1) := by decide +kernel
theorem dX3_add_17 : decode cX3_add 17 = .ok (.isub, 1) := by decide +kernel
theorem dX3_add_18 : decode cX3_add 18 = .ok (.dup2, 1) := by decide +kernel
theorem dX3_add_19 : decode cX3_add 19 = .ok (.iaload, 1) := by decide +kernel
theorem dX3_add_20 : decode cX3_add 20 = .ok (.aload_n 0, 1) := by decide +kernel
theorem dX3_add_21 : decode cX3_add 21 = .ok (.getfield 9, 3) := by decide +kernel
theorem dX3_add_24 : decode cX3_add 24 = .ok (.aload_n 0, 1) := by decide +kernel
theorem dX3_add_25 : decode cX3_add 25 = .ok (.getfield 34, 3) := by decide +kernel
theorem dX3_add_28 : decode cX3_add 28 = .ok (.iconst 1, 1) := by decide +kernel
theorem dX3_add_29 : decode cX3_add 29 = .ok (.isub, 1) := by decide +kernel
theorem dX3_add_30 : decode cX3_add 30 = .ok (.iaload, 1) := by decide +kernel
theorem dX3_add_31 : decode cX3_add 31 = .ok (.iadd, 1) := by decide +kernel
theorem dX3_add_32 : decode cX3_add 32 = .ok (.iastore, 1) := by decide +kernel
theorem dX3_add_33 : decode cX3_add 33 = .ok (.aload_n 0, 1) := by decide +kernel
theorem dX3_add_34 : decode cX3_add 34 = .ok (.dup, 1) := by decide +kernel
theorem dX3_add_35 : decode cX3_add 35 = .ok (.getfield 34, 3) := by decide +kernel
theorem dX3_add_38 : decode cX3_add 38 = .ok (.iconst 1, 1) := by decide +kernel
theorem dX3_add_39 : decode cX3_add 39 = .ok (.isub, 1) := by decide +kernel
theorem dX3_add_40 : decode cX3_add 40 = .ok (.putfield 34, 3) := by decide +kernel
theorem dX3_add_43 : decode cX3_add 43 = .ok (.return_, 1) := by decide +kernel
theorem dX3_multiply_0 : decode cX3_multiply 0 = .ok (.aload_n 0, 1) := by decide +kernel
theorem dX3_multiply_1 : decode cX3_multiply 1 = .ok (.getfield 34, 3) := by decide +kernel
theorem dX3_multiply_4 : decode cX3_multiply 4 = .ok (.iconst 2, 1) := by decide +kernel
theorem dX3_multiply_5 : decode cX3_multiply 5 = .ok (.if_icmp .lt 38, 3) := by decide +kernel
theorem dX3_multiply_8 : decode cX3_multiply 8 = .ok (.aload_n 0, 1) := by decide +kernel
theorem dX3_multiply_9 : decode cX3_multiply 9 = .ok (.getfield 9, 3) := by decide +kernel
theorem dX3_multiply_12 : decode cX3_multiply 12 = .ok (.aload_n 0, 1) := by decide +kernel
theorem dX3_multiply_13 : decode cX3_multiply 13 = .ok (.getfield 34, 3) := by decide +kernel
theorem dX3_multiply_16 : decode cX3_multiply 16 = .ok (.iconst 2, 1) := by decide +kernel
theorem dX3_multiply_17 : decode cX3_multiply 17 = .ok (.isub, 1) := by decide +kernel
theorem dX3_multiply_18 : decode cX3_multiply 18 = .ok (.dup2, 1) := by decide +kernel
theorem dX3_multiply_19 : decode cX3_multiply 19 = .ok (.iaload, 1) := by decide +kernel
theorem dX3_multiply_20 : decode cX3_multiply 20 = .ok (.aload_n 0, 1) := by decide +kernel
theorem dX3_multiply_21 : decode cX3_multiply 21 = .ok (.getfield 9, 3) := by decide +kernel
theorem dX3_multiply_24 : decode cX3_multiply 24 = .ok (.aload_n 0, 1) := by decide +kernel
theorem dX3_multiply_25 : decode cX3_multiply 25 = .ok (.getfield 34, 3) := by decide +kernel
theorem dX3_multiply_28 : decode cX3_multiply 28 = .ok (.iconst 1, 1) := by decide +kernel
theorem dX3_multiply_29 : decode cX3_multiply 29 = .ok (.isub, 1) := by decide +kernel
theorem dX3_multiply_30 : decode cX3_multiply 30 = .ok (.iaload, 1) := by decide +kernel
theorem dX3_multiply_31 : decode cX3_multiply 31 = .ok (.imul, 1) := by decide +kernel
theorem dX3_multiply_32 : decode cX3_multiply 32 = .ok (.iastore, 1) := by decide +kernel
theorem dX3_multiply_33 : decode cX3_multiply 33 = .ok (.aload_n 0, 1) := by decide +kernel
theorem dX3_multiply_34 : decode cX3_multiply 34 = .ok (.dup, 1) := by decide +kernel
theorem dX3_multiply_35 : decode cX3_multiply 35 = .ok (.getfield 34, 3) := by decide +kernel
theorem dX3_multiply_38 : decode cX3_multiply 38 = .ok (.iconst 1, 1) := by decide +kernel
theorem dX3_multiply_39 : decode cX3_multiply 39 = .ok (.isub, 1) := by decide +kernel
theorem dX3_multiply_40 : decode cX3_multiply 40 = .ok (.putfield 34, 3) := by decide +kernel
theorem dX3_multiply_43 : decode cX3_multiply 43 = .ok (.return_, 1) := by decide +kernel
theorem dX3_duplicate_0 : decode cX3_duplicate 0 = .ok (.aload_n 0, 1) := by decide +kernel
theorem dX3_duplicate_1 : decode cX3_duplicate 1 = .ok (.getfield 34, 3) := by decide +kernel
theorem dX3_duplicate_4 : decode cX3_duplicate 4 = .ok (.iconst 1, 1) := by decide +kernel
theorem dX3_duplicate_5 : decode cX3_duplicate 5 = .ok (.if_icmp .lt 42, 3) := by decide +kernel
theorem dX3_duplicate_8 : decode cX3_duplicate 8 = .ok (.aload_n 0, 1) := by decide +kernel
theorem dX3_duplicate_9 : decode cX3_duplicate 9 = .ok (.getfield 34, 3) := by decide +kernel
theorem dX3_duplicate_12 : decode cX3_duplicate 12 = .ok (.bipush 20, 2) := by decide +kernel
theorem dX3_duplicate_14 : decode cX3_duplicate 14 = .ok (.if_icmp .ge 33, 3) := by decide +kernel
theorem dX3_duplicate_17 : decode cX3_duplicate 17 = .ok (.aload_n 0, 1) := by decide +kernel
theorem dX3_duplicate_18 : decode cX3_duplicate 18 = .ok (.getfield 9, 3) := by decide +kernel
theorem dX3_duplicate_21 : decode cX3_duplicate 21 = .ok (.aload_n 0, 1) := by decide +kernel
theorem dX3_duplicate_22 : decode cX3_duplicate 22 = .ok (.getfield 34, 3) := by decide +kernel
theorem dX3_duplicate_25 : decode cX3_duplicate 25 = .ok (.aload_n 0, 1) := by decide +kernel
theorem dX3_duplicate_26 : decode cX3_duplicate 26 = .ok (.getfield 9, 3) := by decide +kernel
theorem dX3_duplicate_29 : decode cX3_duplicate 29 = .ok (.aload_n 0, 1) := by decide +kernel
theorem dX3_duplicate_30 : decode cX3_duplicate 30 = .ok (.getfield 34, 3) := by decide +kernel
theorem dX3_duplicate_33 : decode cX3_duplicate 33 = .ok (.iconst 1, 1) := by decide +kernel
theorem dX3_duplicate_34 : decode cX3_duplicate 34 = .ok (.isub, 1) := by decide +kernel
theorem dX3_duplicate_35 : decode cX3_duplicate 35 = .ok (.iaload, 1) := by decide +kernel
theorem dX3_duplicate_36 : decode cX3_duplicate 36 = .ok (.iastore, 1) := by decide +kernel
theorem dX3_duplicate_37 : decode cX3_duplicate 37 = .ok (.aload_n 0, 1) := by decide +kernel
theorem dX3_duplicate_38 : decode cX3_duplicate 38 = .ok (.dup, 1) := by decide +kernel
theorem dX3_duplicate_39 : decode cX3_duplicate 39 = .ok (.getfield 34, 3) := by decide +kernel
theorem dX3_duplicate_42 : decode cX3_duplicate 42 = .ok (.iconst 1, 1) := by decide +kernel
theorem dX3_duplicate_43 : decode cX3_duplicate 43 = .ok (.iadd, 1) := by decide +kernel
theorem dX3_duplicate_44 : decode cX3_duplicate 44 = .ok (.putfield 34, 3) := by decide +kernel
theorem dX3_duplicate_47 : decode cX3_duplicate 47 = .ok (.return_, 1) := by decide +kernel
theorem dX3_drop_0 : decode cX3_drop 0 = .ok (.aload_n 0, 1) := by decide +kernel
theorem dX3_drop_1 : decode cX3_drop 1 = .ok (.getfield 34, 3) := by decide +kernel
theorem dX3_drop_4 : decode cX3_drop 4 = .ok (.iconst 1, 1) := by decide +kernel
theorem dX3_drop_5 : decode cX3_drop 5 = .ok (.if_icmp .lt 13, 3) := by decide +kernel
theorem dX3_drop_8 : decode cX3_drop 8 = .ok (.aload_n 0, 1) := by decide +kernel
theorem dX3_drop_9 : decode cX3_drop 9 = .ok (.dup, 1) := by decide +kernel
theorem dX3_drop_10 : decode cX3_drop 10 = .ok (.getfield 34, 3) := by decide +kernel
theorem dX3_drop_13 : decode cX3_drop 13 = .ok (.iconst 1, 1) := by decide +kernel
theorem dX3_drop_14 : decode cX3_drop 14 = .ok (.isub, 1) := by decide +kernel
theorem dX3_drop_15 : decode cX3_drop 15 = .ok (.putfield 34, 3) := by decide +kernel
theorem dX3_drop_18 : decode cX3_drop 18 = .ok (.return_, 1) := by decide +kernel
theorem dX3_swap_0 : decode cX3_swap 0 = .ok (.aload_n 0, 1) := by decide +kernel
theorem dX3_swap_1 : decode cX3_swap 1 = .ok (.getfield 34, 3) := by decide +kernel
theorem dX3_swap_4 : decode cX3_swap 4 = .ok (.iconst 2, 1) := by decide +kernel
theorem dX3_swap_5 : decode cX3_swap 5 = .ok (.if_icmp .lt 49, 3) := by decide +kernel
theorem dX3_swap_8 : decode cX3_swap 8 = .ok (.aload_n 0, 1) := by decide +kernel
theorem dX3_swap_9 : decode cX3_swap 9 = .ok (.getfield 9, 3) := by decide +kernel
theorem dX3_swap_12 : decode cX3_swap 12 = .ok (.aload_n 0, 1) := by decide +kernel
theorem dX3_swap_13 : decode cX3_swap 13 = .ok (.getfield 34, 3) := by decide +kernel
theorem dX3_swap_16 : decode cX3_swap 16 = .ok (.iconst 1, 1) := by decide +kernel
theorem dX3_swap_17 : decode cX3_swap 17 = .ok (.isub, 1) := by decide +kernel
theorem dX3_swap_18 : decode cX3_swap 18 = .ok (.iaload, 1) := by decide +kernel
theorem dX3_swap_19 : decode cX3_swap 19 = .ok (.istore_n 1, 1) := by decide +kernel
theorem dX3_swap_20 : decode cX3_swap 20 = .ok (.aload_n 0, 1) := by decide +kernel
theorem dX3_swap_21 : decode cX3_swap 21 = .ok (.getfield 9, 3) := by decide +kernel
theorem dX3_swap_24 : decode cX3_swap 24 = .ok (.aload_n 0, 1) := by decide +kernel
theorem dX3_swap_25 : decode cX3_swap 25 = .ok (.getfield 34, 3) := by decide +kernel
theorem dX3_swap_28 : decode cX3_swap 28 = .ok (.iconst 1, 1) := by decide +kernel
theorem dX3_swap_29 : decode cX3_swap 29 = .ok (.isub, 1) := by decide +kernel
theorem dX3_swap_30 : decode cX3_swap 30 = .ok (.aload_n 0, 1) := by decide +kernel
theorem dX3_swap_31 : decode cX3_swap 31 = .ok (.getfield 9, 3) := by decide +kernel
theorem dX3_swap_34 : decode cX3_swap 34 = .ok (.aload_n 0, 1) := by decide +kernel
theorem dX3_swap_35 : decode cX3_swap 35 = .ok (.getfield 34, 3) := by decide +kernel
theorem dX3_swap_38 : decode cX3_swap 38 = .ok (.iconst 2, 1) := by decide +kernel
theorem dX3_swap_39 : decode cX3_swap 39 = .ok (.isub, 1) := by decide +kernel
theorem dX3_swap_40 : decode cX3_swap 40 = .ok (.iaload, 1) := by decide +kernel
theorem dX3_swap_41 : decode cX3_swap 41 = .ok (.iastore, 1) := by decide +kernel
theorem dX3_swap_42 : decode cX3_swap 42 = .ok (.aload_n 0, 1) := by decide +kernel
theorem dX3_swap_43 : decode cX3_swap 43 = .ok (.getfield 9, 3) := by decide +kernel
theorem dX3_swap_46 : decode cX3_swap 46 = .ok (.aload_n 0, 1) := by decide +kernel
theorem dX3_swap_47 : decode cX3_swap 47 = .ok (.getfield 34, 3) := by decide +kernel
theorem dX3_swap_50 : decode cX3_swap 50 = .ok (.iconst 2, 1) := by decide +kernel
theorem dX3_swap_51 : decode cX3_swap 51 = .ok (.isub, 1) := by decide +kernel
theorem dX3_swap_52 : decode cX3_swap 52 = .ok (.iload_n 1, 1) := by decide +kernel
theorem dX3_swap_53 : decode cX3_swap 53 = .ok (.iastore, 1) := by decide +kernel
theorem dX3_swap_54 : decode cX3_swap 54 = .ok (.return_, 1) := by decide +kernel
theorem dX4_init_0 : decode cX4_init 0 = .ok (.aload_n 0, 1) := by decide +kernel
theorem dX4_init_1 : decode cX4_init 1 = .ok (.invokespecial 3, 3) := by decide +kernel
theorem dX4_init_4 : decode cX4_init 4 = .ok (.aload_n 0, 1) := by decide +kernel
theorem dX4_init_5 : decode cX4_init 5 = .ok (.new 9, 3) := by decide +kernel
theorem dX4_init_8 : decode cX4_init 8 = .ok (.dup, 1) := by decide +kernel
theorem dX4_init_9 : decode cX4_init 9 = .ok (.invokespecial 11, 3) := by decide +kernel
theorem dX4_init_12 : decode cX4_init 12 = .ok (.putfield 12, 3) := by decide +kernel
theorem dX4_init_15 : decode cX4_init 15 = .ok (.aload_n 0, 1) := by decide +kernel
theorem dX4_init_16 : decode cX4_init 16 = .ok (.new 18, 3) := by decide +kernel
theorem dX4_init_19 : decode cX4_init 19 = .ok (.dup, 1) := by decide +kernel
theorem dX4_init_20 : decode cX4_init 20 = .ok (.invokespecial 20, 3) := by decide +kernel
theorem dX4_init_23 : decode cX4_init 23 = .ok (.putfield 21, 3) := by decide +kernel
theorem dX4_init_26 : decode cX4_init 26 = .ok (.aload_n 0, 1) := by decide +kernel
theorem dX4_init_27 : decode cX4_init 27 = .ok (.new 25, 3) := by decide +kernel
theorem dX4_init_30 : decode cX4_init 30 = .ok (.dup, 1) := by decide +kernel
theorem dX4_init_31 : decode cX4_init 31 = .ok (.invokespecial 27, 3) := by decide +kernel
theorem dX4_init_34 : decode cX4_init 34 = .ok (.putfield 28, 3) := by decide +kernel
theorem dX4_init_37 : decode cX4_init 37 = .ok (.aload_n 0, 1) := by decide +kernel
theorem dX4_init_38 : decode cX4_init 38 = .ok (.iconst 0, 1) := by decide +kernel
theorem dX4_init_39 : decode cX4_init 39 = .ok (.putfield 32, 3) := by decide +kernel
theorem dX4_init_42 : decode cX4_init 42 = .ok (.aload_n 0, 1) := by decide +kernel
theorem dX4_init_43 : decode cX4_init 43 = .ok (.iconst 0, 1) := by decide +kernel
theorem dX4_init_44 : decode cX4_init 44 = .ok (.putfield 36, 3) := by decide +kernel
theorem dX4_init_47 : decode cX4_init 47 = .ok (.aload_n 0, 1) := by decide +kernel
theorem dX4_init_48 : decode cX4_init 48 = .ok (.iconst (-1), 1) := by decide +kernel
theorem dX4_init_49 : decode cX4_init 49 = .ok (.putfield 39, 3) := by decide +kernel
theorem dX4_init_52 : decode cX4_init 52 = .ok (.aload_n 0, 1) := by decide +kernel
theorem dX4_init_53 : decode cX4_init 53 = .ok (.iload_n 1, 1) := by decide +kernel
theorem dX4_init_54 : decode cX4_init 54 = .ok (.putfield 42, 3) := by decide +kernel
theorem dX4_init_57 : decode cX4_init 57 = .ok (.aload_n 0, 1) := by decide +kernel
theorem dX4_init_58 : decode cX4_init 58 = .ok (.iload_n 2, 1) := by decide +kernel
theorem dX4_init_59 : decode cX4_init 59 = .ok (.putfield 45, 3) := by decide +kernel
theorem dX4_init_62 : decode cX4_init 62 = .ok (.aload_n 0, 1) := by decide +kernel
theorem dX4_init_63 : decode cX4_init 63 = .ok (.aload_n 3, 1) := by decide +kernel
theorem dX4_init_64 : decode cX4_init 64 = .ok (.putfield 48, 3) := by decide +kernel
theorem dX4_init_67 : decode cX4_init 67 = .ok (.aload_n 0, 1) := by decide +kernel
theorem dX4_init_68 : decode cX4_init 68 = .ok (.aload 4, 2) := by decide +kernel
theorem dX4_init_70 : decode cX4_init 70 = .ok (.putfield 52, 3) := by decide +kernel
theorem dX4_init_73 : decode cX4_init 73 = .ok (.aload_n 0, 1) := by decide +kernel
theorem dX4_init_74 : decode cX4_init 74 = .ok (.iload_n 2, 1) := by decide +kernel
theorem dX4_init_75 : decode cX4_init 75 = .ok (.newarray .int, 2) := by decide +kernel
theorem dX4_init_77 : decode cX4_init 77 = .ok (.putfield 56, 3) := by decide +kernel
theorem dX4_init_80 : decode cX4_init 80 = .ok (.aload_n 0, 1) := by decide +kernel
theorem dX4_init_81 : decode cX4_init 81 = .ok (.iconst 1, 1) := by decide +kernel
theorem dX4_init_82 : decode cX4_init 82 = .ok (.iload_n 2, 1) := by decide +kernel
theorem dX4_init_83 : decode cX4_init 83 = .ok (.ishl, 1) := by decide +kernel
theorem dX4_init_84 : decode cX4_init 84 = .ok (.iconst 1, 1) := by decide +kernel
theorem dX4_init_85 : decode cX4_init 85 = .ok (.isub, 1) := by decide +kernel
theorem dX4_init_86 : decode cX4_init 86 = .ok (.putfield 60, 3) := by decide +kernel
theorem dX4_init_89 : decode cX4_init 89 = .ok (.return_, 1) := by decide +kernel
theorem dX4_tell_0 : decode cX4_tell 0 = .ok (.iload_n 1, 1) := by decide +kernel
theorem dX4_tell_1 : decode cX4_tell 1 = .ok (.tableswitch 148 0 11 #[63, 68, 73, 78, 83, 88, 93, 98, 106, 111, 116, 129], 63) := by decide +kernel
theorem dX4_tell_64 : decode cX4_tell 64 = .ok (.aload_n 0, 1) := by decide +kernel
theorem dX4_tell_65 : decode cX4_tell 65 = .ok (.getfield 32, 3) := by decide +kernel
theorem dX4_tell_68 : decode cX4_tell 68 = .ok (.ireturn, 1) := by decide +kernel
theorem dX4_tell_69 : decode cX4_tell 69 = .ok (.aload_n 0, 1) := by decide +kernel
theorem dX4_tell_70 : decode cX4_tell 70 = .ok (.getfield 36, 3) := by decide +kernel
theorem dX4_tell_73 : decode cX4_tell 73 = .ok (.ireturn, 1) := by decide +kernel
theorem dX4_tell_74 : decode cX4_tell 74 = .ok (.aload_n 0, 1) := by decide +kernel
theorem dX4_tell_75 : decode cX4_tell 75 = .ok (.getfield 63, 3) := by decide +kernel
theorem dX4_tell_78 : decode cX4_tell 78 = .ok (.ireturn, 1) := by decide +kernel
theorem dX4_tell_79 : decode cX4_tell 79 = .ok (.aload_n 0, 1) := by decide +kernel
theorem dX4_tell_80 : decode cX4_tell 80 = .ok (.getfield 60, 3) := by decide +kernel
theorem dX4_tell_83 : decode cX4_tell 83 = .ok (.ireturn, 1) := by decide +kernel
theorem dX4_tell_84 : decode cX4_tell 84 = .ok (.aload_n 0, 1) := by decide +kernel
theorem dX4_tell_85 : decode cX4_tell 85 = .ok (.invokevirtual 66, 3) := by decide +kernel
theorem dX4_tell_88 : decode cX4_tell 88 = .ok (.ireturn, 1) := by decide +kernel
theorem dX4_tell_89 : decode cX4_tell 89 = .ok (.aload_n 0, 1) := by decide +kernel
theorem dX4_tell_90 : decode cX4_tell 90 = .ok (.getfield 70, 3) := by decide +kernel
theorem dX4_tell_93 : decode cX4_tell 93 = .ok (.ireturn, 1) := by decide +kernel
theorem dX4_tell_94 : decode cX4_tell 94 = .ok (.aload_n 0, 1) := by decide +kernel
theorem dX4_tell_95 : decode cX4_tell 95 = .ok (.getfield 73, 3) := by decide +kernel
theorem dX4_tell_98 : decode cX4_tell 98 = .ok (.ireturn, 1) := by decide +kernel
theorem dX4_tell_99 : decode cX4_tell 99 = .ok (.aload_n 0, 1) := by decide +kernel
theorem dX4_tell_100 : decode cX4_tell 100 = .ok (.getfield 12, 3) := by decide +kernel
theorem dX4_tell_103 : decode cX4_tell 103 = .ok (.getfield 76, 3) := by decide +kernel
theorem dX4_tell_106 : decode cX4_tell 106 = .ok (.ireturn, 1) := by decide +kernel
theorem dX4_tell_107 : decode cX4_tell 107 = .ok (.aload_n 0, 1) := by decide +kernel
theorem dX4_tell_108 : decode cX4_tell 108 = .ok (.getfield 79, 3) := by decide +kernel
theorem dX4_tell_111 : decode cX4_tell 111 = .ok (.ireturn, 1) := by decide +kernel
theorem dX4_tell_112 : decode cX4_tell 112 = .ok (.aload_n 0, 1) := by decide +kernel
theorem dX4_tell_113 : decode cX4_tell 113 = .ok (.getfield 82, 3) := by decide +kernel
theorem dX4_tell_116 : decode cX4_tell 116 = .ok (.ireturn, 1) := by decide +kernel
theorem dX4_tell_117 : decode cX4_tell 117 = .ok (.aload_n 0, 1) := by decide +kernel
theorem dX4_tell_118 : decode cX4_tell 118 = .ok (.invokevirtual 85, 3) := by decide +kernel
theorem dX4_tell_121 : decode cX4_tell 121 = .ok (.ifCond .eq 7, 3) := by decide +kernel
theorem dX4_tell_124 : decode cX4_tell 124 = .ok (.iconst 1, 1) := by decide +kernel
theorem dX4_tell_125 : decode cX4_tell 125 = .ok (.goto 4, 3) := by decide +kernel
theorem dX4_tell_128 : decode cX4_tell 128 = .ok (.iconst 0, 1) := by decide +kernel
theorem dX4_tell_129 : decode cX4_tell 129 = .ok (.ireturn, 1) := by decide +kernel
theorem dX4_tell_130 : decode cX4_tell 130 = .ok (.aload_n 0, 1) := by decide +kernel
theorem dX4_tell_131 : decode cX4_tell 131 = .ok (.invokevirtual 89, 3) := by decide +kernel
theorem dX4_tell_134 : decode cX4_tell 134 = .ok (.ifCond .eq 13, 3) := by decide +kernel
theorem dX4_tell_137 : decode cX4_tell 137 = .ok (.aload_n 0, 1) := by decide +kernel
theorem dX4_tell_138 : decode cX4_tell 138 = .ok (.getfield 28, 3) := by decide +kernel
theorem dX4_tell_141 : decode cX4_tell 141 = .ok (.getfield 92, 3) := by decide +kernel
theorem dX4_tell_144 : decode cX4_tell 144 = .ok (.goto 4, 3) := by decide +kernel
theorem dX4_tell_147 : decode cX4_tell 147 = .ok (.iconst 0, 1) := by decide +kernel
theorem dX4_tell_148 : decode cX4_tell 148 = .ok (.ireturn, 1) := by decide +kernel
theorem dX4_tell_149 : decode cX4_tell 149 = .ok (.iconst (-1), 1) := by decide +kernel
theorem dX4_tell_150 : decode cX4_tell 150 = .ok (.ireturn, 1) := by decide +kernel
theorem dX4_isLive_0 : decode cX4_isLive 0 = .ok (.aload_n 0, 1) := by decide +kernel
theorem dX4_isLive_1 : decode cX4_isLive 1 = .ok (.getfield 32, 3) := by decide +kernel
theorem dX4_isLive_4 : decode cX4_isLive 4 = .ok (.ifCond .ne 7, 3) := by decide +kernel
theorem dX4_isLive_7 : decode cX4_isLive 7 = .ok (.iconst 1, 1) := by decide +kernel
theorem dX4_isLive_8 : decode cX4_isLive 8 = .ok (.goto 4, 3) := by decide +kernel
theorem dX4_isLive_11 : decode cX4_isLive 11 = .ok (.iconst 0, 1) := by decide +kernel
theorem dX4_isLive_12 : decode cX4_isLive 12 = .ok (.ireturn, 1) := by decide +kernel
theorem dX4_isBlocked_0 : decode cX4_isBlocked 0 = .ok (.aload_n 0, 1) := by decide +kernel
theorem dX4_isBlocked_1 : decode cX4_isBlocked 1 = .ok (.getfield 70, 3) := by decide +kernel
theorem dX4_isBlocked_4 : decode cX4_isBlocked 4 = .ok (.aload_n 0, 1) := by decide +kernel
theorem dX4_isBlocked_5 : decode cX4_isBlocked 5 = .ok (.getfield 63, 3) := by decide +kernel
theorem dX4_isBlocked_8 : decode cX4_isBlocked 8 = .ok (.if_icmp .eq 7, 3) := by decide +kernel
theorem dX4_isBlocked_11 : decode cX4_isBlocked 11 = .ok (.iconst 1, 1) := by decide +kernel
theorem dX4_isBlocked_12 : decode cX4_isBlocked 12 = .ok (.goto 4, 3) := by decide +kernel
theorem dX4_isBlocked_15 : decode cX4_isBlocked 15 = .ok (.iconst 0, 1) := by decide +kernel
theorem dX4_isBlocked_16 : decode cX4_isBlocked 16 = .ok (.ireturn, 1) := by decide +kernel
theorem dX4_isChanging_0 : decode cX4_isChanging 0 = .ok (.aload_n 0, 1) := by decide +kernel
theorem dX4_isChanging_1 : decode cX4_isChanging 1 = .ok (.getfield 36, 3) := by decide +kernel
theorem dX4_isChanging_4 : decode cX4_isChanging 4 = .ok (.iconst 3, 1) := by decide +kernel
theorem dX4_isChanging_5 : decode cX4_isChanging 5 = .ok (.if_icmp .eq 11, 3) := by decide +kernel
theorem dX4_isChanging_8 : decode cX4_isChanging 8 = .ok (.aload_n 0, 1) := by decide +kernel
theorem dX4_isChanging_9 : decode cX4_isChanging 9 = .ok (.getfield 36, 3) := by decide +kernel
theorem dX4_isChanging_12 : decode cX4_isChanging 12 = .ok (.iconst 4, 1) := by decide +kernel
theorem dX4_isChanging_13 : decode cX4_isChanging 13 = .ok (.if_icmp .ne 7, 3) := by decide +kernel
theorem dX4_isChanging_16 : decode cX4_isChanging 16 = .ok (.iconst 1, 1) := by decide +kernel
theorem dX4_isChanging_17 : decode cX4_isChanging 17 = .ok (.goto 4, 3) := by decide +kernel
theorem dX4_isChanging_20 : decode cX4_isChanging 20 = .ok (.iconst 0, 1) := by decide +kernel
theorem dX4_isChanging_21 : decode cX4_isChanging 21 = .ok (.ireturn, 1) := by decide +kernel
theorem dX4_leader_0 : decode cX4_leader 0 = .ok (.aload_n 0, 1) := by decide +kernel
theorem dX4_leader_1 : decode cX4_leader 1 = .ok (.getfield 45, 3) := by decide +kernel
theorem dX4_leader_4 : decode cX4_leader 4 = .ok (.iconst 1, 1) := by decide +kernel
theorem dX4_leader_5 : decode cX4_leader 5 = .ok (.isub, 1) := by decide +kernel
theorem dX4_leader_6 : decode cX4_leader 6 = .ok (.istore_n 1, 1) := by decide +kernel
theorem dX4_leader_7 : decode cX4_leader 7 = .ok (.iload_n 1, 1) := by decide +kernel
theorem dX4_leader_8 : decode cX4_leader 8 = .ok (.ifCond .le 22, 3) := by decide +kernel
theorem dX4_leader_11 : decode cX4_leader 11 = .ok (.aload_n 0, 1) := by decide +kernel
theorem dX4_leader_12 : decode cX4_leader 12 = .ok (.getfield 60, 3) := by decide +kernel
theorem dX4_leader_15 : decode cX4_leader 15 = .ok (.iload_n 1, 1) := by decide +kernel
theorem dX4_leader_16 : decode cX4_leader 16 = .ok (.invokestatic 93, 3) := by decide +kernel
theorem dX4_leader_19 : decode cX4_leader 19 = .ok (.ifCond .eq 5, 3) := by decide +kernel
theorem dX4_leader_22 : decode cX4_leader 22 = .ok (.iload_n 1, 1) := by decide +kernel
theorem dX4_leader_23 : decode cX4_leader 23 = .ok (.ireturn, 1) := by decide +kernel
theorem dX4_leader_24 : decode cX4_leader 24 = .ok (.iinc 1 (-1), 3) := by decide +kernel
theorem dX4_leader_27 : decode cX4_leader 27 = .ok (.goto (-20), 3) := by decide +kernel
theorem dX4_leader_30 : decode cX4_leader 30 = .ok (.iconst 0, 1) := by decide +kernel
theorem dX4_leader_31 : decode cX4_leader 31 = .ok (.ireturn, 1) := by decide +kernel
theorem dX4_leadsUnblocked_0 : decode cX4_leadsUnblocked 0 = .ok (.aload_n 0, 1) := by decide +kernel
theorem dX4_leadsUnblocked_1 : decode cX4_leadsUnblocked 1 = .ok (.invokevirtual 66, 3) := by decide +kernel
theorem dX4_leadsUnblocked_4 : decode cX4_leadsUnblocked 4 = .ok (.aload_n 0, 1) := by decide +kernel
theorem dX4_leadsUnblocked_5 : decode cX4_leadsUnblocked 5 = .ok (.getfield 42, 3) := by decide +kernel
theorem dX4_leadsUnblocked_8 : decode cX4_leadsUnblocked 8 = .ok (.if_icmp .ne 14, 3) := by decide +kernel
theorem dX4_leadsUnblocked_11 : decode cX4_leadsUnblocked 11 = .ok (.aload_n 0, 1) := by decide +kernel
theorem dX4_leadsUnblocked_12 : decode cX4_leadsUnblocked 12 = .ok (.invokevirtual 85, 3) := by decide +kernel
theorem dX4_leadsUnblocked_15 : decode cX4_leadsUnblocked 15 = .ok (.ifCond .ne 7, 3) := by decide +kernel
theorem dX4_leadsUnblocked_18 : decode cX4_leadsUnblocked 18 = .ok (.iconst 1, 1) := by decide +kernel
theorem dX4_leadsUnblocked_19 : decode cX4_leadsUnblocked 19 = .ok (.goto 4, 3) := by decide +kernel
theorem dX4_leadsUnblocked_22 : decode cX4_leadsUnblocked 22 = .ok (.iconst 0, 1) := by decide +kernel
theorem dX4_leadsUnblocked_23 : decode cX4_leadsUnblocked 23 = .ok (.ireturn, 1) := by decide +kernel
theorem dX4_areMost_0 : decode cX4_areMost 0 = .ok (.iload_n 1, 1) := by decide +kernel
theorem dX4_areMost_1 : decode cX4_areMost 1 = .ok (.invokestatic 97, 3) := by decide +kernel
theorem dX4_areMost_4 : decode cX4_areMost 4 = .ok (.iconst 2, 1) := by decide +kernel
theorem dX4_areMost_5 : decode cX4_areMost 5 = .ok (.imul, 1) := by decide +kernel
theorem dX4_areMost_6 : decode cX4_areMost 6 = .ok (.aload_n 0, 1) := by decide +kernel
theorem dX4_areMost_7 : decode cX4_areMost 7 = .ok (.getfield 45, 3) := by decide +kernel
theorem dX4_areMost_10 : decode cX4_areMost 10 = .ok (.if_icmp .le 7, 3) := by decide +kernel
theorem dX4_areMost_13 : decode cX4_areMost 13 = .ok (.iconst 1, 1) := by decide +kernel
theorem dX4_areMost_14 : decode cX4_areMost 14 = .ok (.goto 4, 3) := by decide +kernel
theorem dX4_areMost_17 : decode cX4_areMost 17 = .ok (.iconst 0, 1) := by decide +kernel
theorem dX4_areMost_18 : decode cX4_areMost 18 = .ok (.ireturn, 1) := by decide +kernel
theorem dX4_others_0 : decode cX4_others 0 = .ok (.aload_n 0, 1) := by decide +kernel
theorem dX4_others_1 : decode cX4_others 1 = .ok (.getfield 60, 3) := by decide +kernel
theorem dX4_others_4 : decode cX4_others 4 = .ok (.aload_n 0, 1) := by decide +kernel
theorem dX4_others_5 : decode cX4_others 5 = .ok (.getfield 42, 3) := by decide +kernel
theorem dX4_others_8 : decode cX4_others 8 = .ok (.invokestatic 103, 3) := by decide +kernel
theorem dX4_others_11 : decode cX4_others 11 = .ok (.ireturn, 1) := by decide +kernel
theorem dX4_reply_0 : decode cX4_reply 0 = .ok (.aload_n 0, 1) := by decide +kernel
theorem dX4_reply_1 : decode cX4_reply 1 = .ok (.getfield 48, 3) := by decide +kernel
theorem dX4_reply_4 : decode cX4_reply 4 = .ok (.aload_n 0, 1) := by decide +kernel
theorem dX4_reply_5 : decode cX4_reply 5 = .ok (.getfield 42, 3) := by decide +kernel
theorem dX4_reply_8 : decode cX4_reply 8 = .ok (.iconst 1, 1) := by decide +kernel
theorem dX4_reply_9 : decode cX4_reply 9 = .ok (.iload_n 1, 1) := by decide +kernel
theorem dX4_reply_10 : decode cX4_reply 10 = .ok (.ishl, 1) := by decide +kernel
theorem dX4_reply_11 : decode cX4_reply 11 = .ok (.iload_n 2, 1) := by decide +kernel
theorem dX4_reply_12 : decode cX4_reply 12 = .ok (.iload_n 3, 1) := by decide +kernel
theorem dX4_reply_13 : decode cX4_reply 13 = .ok (.iload 4, 2) := by decide +kernel
theorem dX4_reply_15 : decode cX4_reply 15 = .ok (.getstatic 107, 3) := by decide +kernel
theorem dX4_reply_18 : decode cX4_reply 18 = .ok (.invokevirtual 110, 3) := by decide +kernel
theorem dX4_reply_21 : decode cX4_reply 21 = .ok (.return_, 1) := by decide +kernel
theorem dX4_accept_0 : decode cX4_accept 0 = .ok (.aload_n 0, 1) := by decide +kernel
theorem dX4_accept_1 : decode cX4_accept 1 = .ok (.invokevirtual 85, 3) := by decide +kernel
theorem dX4_accept_4 : decode cX4_accept 4 = .ok (.ifCond .eq 5, 3) := by decide +kernel
theorem dX4_accept_7 : decode cX4_accept 7 = .ok (.iconst 2, 1) := by decide +kernel
theorem dX4_accept_8 : decode cX4_accept 8 = .ok (.ireturn, 1) := by decide +kernel
theorem dX4_accept_9 : decode cX4_accept 9 = .ok (.aload_n 0, 1) := by decide +kernel
theorem dX4_accept_10 : decode cX4_accept 10 = .ok (.invokevirtual 66, 3) := by decide +kernel
theorem dX4_accept_13 : decode cX4_accept 13 = .ok (.aload_n 0, 1) := by decide +kernel
theorem dX4_accept_14 : decode cX4_accept 14 = .ok (.getfield 42, 3) := by decide +kernel
theorem dX4_accept_17 : decode cX4_accept 17 = .ok (.if_icmp .eq 32, 3) := by decide +kernel
theorem dX4_accept_20 : decode cX4_accept 20 = .ok (.aload_n 0, 1) := by decide +kernel
theorem dX4_accept_21 : decode cX4_accept 21 = .ok (.getfield 48, 3) := by decide +kernel
theorem dX4_accept_24 : decode cX4_accept 24 = .ok (.aload_n 0, 1) := by decide +kernel
theorem dX4_accept_25 : decode cX4_accept 25 = .ok (.getfield 42, 3) := by decide +kernel
theorem dX4_accept_28 : decode cX4_accept 28 = .ok (.iconst 1, 1) := by decide +kernel
theorem dX4_accept_29 : decode cX4_accept 29 = .ok (.aload_n 0, 1) := by decide +kernel
theorem dX4_accept_30 : decode cX4_accept 30 = .ok (.invokevirtual 66, 3) := by decide +kernel
theorem dX4_accept_33 : decode cX4_accept 33 = .ok (.ishl, 1) := by decide +kernel
theorem dX4_accept_34 : decode cX4_accept 34 = .ok (.iconst 1, 1) := by decide +kernel
theorem dX4_accept_35 : decode cX4_accept 35 = .ok (.iconst 0, 1) := by decide +kernel
theorem dX4_accept_36 : decode cX4_accept 36 = .ok (.iconst 0, 1) := by decide +kernel
theorem dX4_accept_37 : decode cX4_accept 37 = .ok (.iconst 1, 1) := by decide +kernel
theorem dX4_accept_38 : decode cX4_accept 38 = .ok (.newarray .int, 2) := by decide +kernel
theorem dX4_accept_40 : decode cX4_accept 40 = .ok (.dup, 1) := by decide +kernel
theorem dX4_accept_41 : decode cX4_accept 41 = .ok (.iconst 0, 1) := by decide +kernel
theorem dX4_accept_42 : decode cX4_accept 42 = .ok (.iload_n 1, 1) := by decide +kernel
theorem dX4_accept_43 : decode cX4_accept 43 = .ok (.iastore, 1) := by decide +kernel
theorem dX4_accept_44 : decode cX4_accept 44 = .ok (.invokevirtual 110, 3) := by decide +kernel
theorem dX4_accept_47 : decode cX4_accept 47 = .ok (.iconst 1, 1) := by decide +kernel
theorem dX4_accept_48 : decode cX4_accept 48 = .ok (.ireturn, 1) := by decide +kernel
theorem dX4_accept_49 : decode cX4_accept 49 = .ok (.aload_n 0, 1) := by decide +kernel
theorem dX4_accept_50 : decode cX4_accept 50 = .ok (.getfield 12, 3) := by decide +kernel
theorem dX4_accept_53 : decode cX4_accept 53 = .ok (.invokevirtual 116, 3) := by decide +kernel
theorem dX4_accept_56 : decode cX4_accept 56 = .ok (.ifCond .eq 5, 3) := by decide +kernel
theorem dX4_accept_59 : decode cX4_accept 59 = .ok (.iconst 3, 1) := by decide +kernel
theorem dX4_accept_60 : decode cX4_accept 60 = .ok (.ireturn, 1) := by decide +kernel
theorem dX4_accept_61 : decode cX4_accept 61 = .ok (.aload_n 0, 1) := by decide +kernel
theorem dX4_accept_62 : decode cX4_accept 62 = .ok (.iload_n 1, 1) := by decide +kernel
theorem dX4_accept_63 : decode cX4_accept 63 = .ok (.invokevirtual 119, 3) := by decide +kernel
theorem dX4_accept_66 : decode cX4_accept 66 = .ok (.aload_n 0, 1) := by decide +kernel
theorem dX4_accept_67 : decode cX4_accept 67 = .ok (.invokevirtual 123, 3) := by decide +kernel
theorem dX4_accept_70 : decode cX4_accept 70 = .ok (.iconst 1, 1) := by decide +kernel
theorem dX4_accept_71 : decode cX4_accept 71 = .ok (.ireturn, 1) := by decide +kernel
theorem dX4_putInOrder_0 : decode cX4_putInOrder 0 = .ok (.aload_n 0, 1) := by decide +kernel
theorem dX4_putInOrder_1 : decode cX4_putInOrder 1 = .ok (.getfield 12, 3) := by decide +kernel
theorem dX4_putInOrder_4 : decode cX4_putInOrder 4 = .ok (.getfield 76, 3) := by decide +kernel
theorem dX4_putInOrder_7 : decode cX4_putInOrder 7 = .ok (.istore_n 2, 1) := by decide +kernel
theorem dX4_putInOrder_8 : decode cX4_putInOrder 8 = .ok (.aload_n 0, 1) := by decide +kernel
theorem dX4_putInOrder_9 : decode cX4_putInOrder 9 = .ok (.getfield 12, 3) := by decide +kernel
theorem dX4_putInOrder_12 : decode cX4_putInOrder 12 = .ok (.iload_n 1, 1) := by decide +kernel
theorem dX4_putInOrder_13 : decode cX4_putInOrder 13 = .ok (.invokevirtual 126, 3) := by decide +kernel
theorem dX4_putInOrder_16 : decode cX4_putInOrder 16 = .ok (.aload_n 0, 1) := by decide +kernel
theorem dX4_putInOrder_17 : decode cX4_putInOrder 17 = .ok (.getfield 48, 3) := by decide +kernel
theorem dX4_putInOrder_20 : decode cX4_putInOrder 20 = .ok (.aload_n 0, 1) := by decide +kernel
theorem dX4_putInOrder_21 : decode cX4_putInOrder 21 = .ok (.getfield 42, 3) := by decide +kernel
theorem dX4_putInOrder_24 : decode cX4_putInOrder 24 = .ok (.aload_n 0, 1) := by decide +kernel
theorem dX4_putInOrder_25 : decode cX4_putInOrder 25 = .ok (.invokevirtual 129, 3) := by decide +kernel
theorem dX4_putInOrder_28 : decode cX4_putInOrder 28 = .ok (.iconst 2, 1) := by decide +kernel
theorem dX4_putInOrder_29 : decode cX4_putInOrder 29 = .ok (.aload_n 0, 1) := by decide +kernel
theorem dX4_putInOrder_30 : decode cX4_putInOrder 30 = .ok (.getfield 63, 3) := by decide +kernel
theorem dX4_putInOrder_33 : decode cX4_putInOrder 33 = .ok (.iload_n 2, 1) := by decide +kernel
theorem dX4_putInOrder_34 : decode cX4_putInOrder 34 = .ok (.iconst 1, 1) := by decide +kernel
theorem dX4_putInOrder_35 : decode cX4_putInOrder 35 = .ok (.newarray .int, 2) := by decide +kernel
theorem dX4_putInOrder_37 : decode cX4_putInOrder 37 = .ok (.dup, 1) := by decide +kernel
theorem dX4_putInOrder_38 : decode cX4_putInOrder 38 = .ok (.iconst 0, 1) := by decide +kernel
theorem dX4_putInOrder_39 : decode cX4_putInOrder 39 = .ok (.iload_n 1, 1) := by decide +kernel
theorem dX4_putInOrder_40 : decode cX4_putInOrder 40 = .ok (.iastore, 1) := by decide +kernel
theorem dX4_putInOrder_41 : decode cX4_putInOrder 41 = .ok (.invokevirtual 110, 3) := by decide +kernel
theorem dX4_putInOrder_44 : decode cX4_putInOrder 44 = .ok (.return_, 1) := by decide +kernel
theorem dX4_carryOutWhatMostHold_0 : decode cX4_carryOutWhatMostHold 0 = .ok (.aload_n 0, 1) := by decide +kernel
theorem dX4_carryOutWhatMostHold_1 : decode cX4_carryOutWhatMostHold 1 = .ok (.invokevirtual 132, 3) := by decide +kernel
theorem dX4_carryOutWhatMostHold_4 : decode cX4_carryOutWhatMostHold 4 = .ok (.istore_n 1, 1) := by decide +kernel
theorem dX4_carryOutWhatMostHold_5 : decode cX4_carryOutWhatMostHold 5 = .ok (.iload_n 1, 1) := by decide +kernel
theorem dX4_carryOutWhatMostHold_6 : decode cX4_carryOutWhatMostHold 6 = .ok (.aload_n 0, 1) := by decide +kernel
theorem dX4_carryOutWhatMostHold_7 : decode cX4_carryOutWhatMostHold 7 = .ok (.getfield 79, 3) := by decide +kernel
theorem dX4_carryOutWhatMostHold_10 : decode cX4_carryOutWhatMostHold 10 = .ok (.if_icmp .le 32, 3) := by decide +kernel
theorem dX4_carryOutWhatMostHold_13 : decode cX4_carryOutWhatMostHold 13 = .ok (.aload_n 0, 1) := by decide +kernel
theorem dX4_carryOutWhatMostHold_14 : decode cX4_carryOutWhatMostHold 14 = .ok (.iload_n 1, 1) := by decide +kernel
theorem dX4_carryOutWhatMostHold_15 : decode cX4_carryOutWhatMostHold 15 = .ok (.invokevirtual 135, 3) := by decide +kernel
theorem dX4_carryOutWhatMostHold_18 : decode cX4_carryOutWhatMostHold 18 = .ok (.aload_n 0, 1) := by decide +kernel
theorem dX4_carryOutWhatMostHold_19 : decode cX4_carryOutWhatMostHold 19 = .ok (.getfield 48, 3) := by decide +kernel
theorem dX4_carryOutWhatMostHold_22 : decode cX4_carryOutWhatMostHold 22 = .ok (.aload_n 0, 1) := by decide +kernel
theorem dX4_carryOutWhatMostHold_23 : decode cX4_carryOutWhatMostHold 23 = .ok (.getfield 42, 3) := by decide +kernel
theorem dX4_carryOutWhatMostHold_26 : decode cX4_carryOutWhatMostHold 26 = .ok (.aload_n 0, 1) := by decide +kernel
theorem dX4_carryOutWhatMostHold_27 : decode cX4_carryOutWhatMostHold 27 = .ok (.invokevirtual 129, 3) := by decide +kernel
theorem dX4_carryOutWhatMostHold_30 : decode cX4_carryOutWhatMostHold 30 = .ok (.iconst 4, 1) := by decide +kernel
theorem dX4_carryOutWhatMostHold_31 : decode cX4_carryOutWhatMostHold 31 = .ok (.aload_n 0, 1) := by decide +kernel
theorem dX4_carryOutWhatMostHold_32 : decode cX4_carryOutWhatMostHold 32 = .ok (.getfield 63, 3) := by decide +kernel
theorem dX4_carryOutWhatMostHold_35 : decode cX4_carryOutWhatMostHold 35 = .ok (.iload_n 1, 1) := by decide +kernel
theorem dX4_carryOutWhatMostHold_36 : decode cX4_carryOutWhatMostHold 36 = .ok (.getstatic 107, 3) := by decide +kernel
theorem dX4_carryOutWhatMostHold_39 : decode cX4_carryOutWhatMostHold 39 = .ok (.invokevirtual 110, 3) := by decide +kernel
theorem dX4_carryOutWhatMostHold_42 : decode cX4_carryOutWhatMostHold 42 = .ok (.return_, 1) := by decide +kernel
theorem dX4_heldByMost_0 : decode cX4_heldByMost 0 = .ok (.aload_n 0, 1) := by decide +kernel
theorem dX4_heldByMost_1 : decode cX4_heldByMost 1 = .ok (.getfield 12, 3) := by decide +kernel
theorem dX4_heldByMost_4 : decode cX4_heldByMost 4 = .ok (.getfield 76, 3) := by decide +kernel
theorem dX4_heldByMost_7 : decode cX4_heldByMost 7 = .ok (.istore_n 1, 1) := by decide +kernel
theorem dX4_heldByMost_8 : decode cX4_heldByMost 8 = .ok (.iload_n 1, 1) := by decide +kernel
theorem dX4_heldByMost_9 : decode cX4_heldByMost 9 = .ok (.ifCond .le 23, 3) := by decide +kernel
theorem dX4_heldByMost_12 : decode cX4_heldByMost 12 = .ok (.aload_n 0, 1) := by decide +kernel
theorem dX4_heldByMost_13 : decode cX4_heldByMost 13 = .ok (.aload_n 0, 1) := by decide +kernel
theorem dX4_heldByMost_14 : decode cX4_heldByMost 14 = .ok (.iload_n 1, 1) := by decide +kernel
theorem dX4_heldByMost_15 : decode cX4_heldByMost 15 = .ok (.invokevirtual 138, 3) := by decide +kernel
theorem dX4_heldByMost_18 : decode cX4_heldByMost 18 = .ok (.invokevirtual 141, 3) := by decide +kernel
theorem dX4_heldByMost_21 : decode cX4_heldByMost 21 = .ok (.ifCond .eq 5, 3) := by decide +kernel
theorem dX4_heldByMost_24 : decode cX4_heldByMost 24 = .ok (.iload_n 1, 1) := by decide +kernel
theorem dX4_heldByMost_25 : decode cX4_heldByMost 25 = .ok (.ireturn, 1) := by decide +kernel
theorem dX4_heldByMost_26 : decode cX4_heldByMost 26 = .ok (.iinc 1 (-1), 3) := by decide +kernel
theorem dX4_heldByMost_29 : decode cX4_heldByMost 29 = .ok (.goto (-21), 3) := by decide +kernel
theorem dX4_heldByMost_32 : decode cX4_heldByMost 32 = .ok (.iconst 0, 1) := by decide +kernel
theorem dX4_heldByMost_33 : decode cX4_heldByMost 33 = .ok (.ireturn, 1) := by decide +kernel
theorem dX4_holdersOf_0 : decode cX4_holdersOf 0 = .ok (.iconst 0, 1) := by decide +kernel
theorem dX4_holdersOf_1 : decode cX4_holdersOf 1 = .ok (.istore_n 2, 1) := by decide +kernel
theorem dX4_holdersOf_2 : decode cX4_holdersOf 2 = .ok (.iconst 0, 1) := by decide +kernel
theorem dX4_holdersOf_3 : decode cX4_holdersOf 3 = .ok (.istore_n 3, 1) := by decide +kernel
theorem dX4_holdersOf_4 : decode cX4_holdersOf 4 = .ok (.iload_n 3, 1) := by decide +kernel
theorem dX4_holdersOf_5 : decode cX4_holdersOf 5 = .ok (.aload_n 0, 1) := by decide +kernel
theorem dX4_holdersOf_6 : decode cX4_holdersOf 6 = .ok (.getfield 45, 3) := by decide +kernel
theorem dX4_holdersOf_9 : decode cX4_holdersOf 9 = .ok (.if_icmp .ge 58, 3) := by decide +kernel
theorem dX4_holdersOf_12 : decode cX4_holdersOf 12 = .ok (.iload_n 3, 1) := by decide +kernel
theorem dX4_holdersOf_13 : decode cX4_holdersOf 13 = .ok (.aload_n 0, 1) := by decide +kernel
theorem dX4_holdersOf_14 : decode cX4_holdersOf 14 = .ok (.getfield 42, 3) := by decide +kernel
theorem dX4_holdersOf_17 : decode cX4_holdersOf 17 = .ok (.if_icmp .ne 13, 3) := by decide +kernel
theorem dX4_holdersOf_20 : decode cX4_holdersOf 20 = .ok (.aload_n 0, 1) := by decide +kernel
theorem dX4_holdersOf_21 : decode cX4_holdersOf 21 = .ok (.getfield 12, 3) := by decide +kernel
theorem dX4_holdersOf_24 : decode cX4_holdersOf 24 = .ok (.getfield 76, 3) := by decide +kernel
theorem dX4_holdersOf_27 : decode cX4_holdersOf 27 = .ok (.goto 9, 3) := by decide +kernel
theorem dX4_holdersOf_30 : decode cX4_holdersOf 30 = .ok (.aload_n 0, 1) := by decide +kernel
theorem dX4_holdersOf_31 : decode cX4_holdersOf 31 = .ok (.getfield 56, 3) := by decide +kernel
theorem dX4_holdersOf_34 : decode cX4_holdersOf 34 = .ok (.iload_n 3, 1) := by decide +kernel
theorem dX4_holdersOf_35 : decode cX4_holdersOf 35 = .ok (.iaload, 1) := by decide +kernel
theorem dX4_holdersOf_36 : decode cX4_holdersOf 36 = .ok (.istore 4, 2) := by decide +kernel
theorem dX4_holdersOf_38 : decode cX4_holdersOf 38 = .ok (.aload_n 0, 1) := by decide +kernel
theorem dX4_holdersOf_39 : decode cX4_holdersOf 39 = .ok (.getfield 60, 3) := by decide +kernel
theorem dX4_holdersOf_42 : decode cX4_holdersOf 42 = .ok (.iload_n 3, 1) := by decide +kernel
theorem dX4_holdersOf_43 : decode cX4_holdersOf 43 = .ok (.invokestatic 93, 3) := by decide +kernel
theorem dX4_holdersOf_46 : decode cX4_holdersOf 46 = .ok (.ifCond .eq 15, 3) := by decide +kernel
theorem dX4_holdersOf_49 : decode cX4_holdersOf 49 = .ok (.iload 4, 2) := by decide +kernel
theorem dX4_holdersOf_51 : decode cX4_holdersOf 51 = .ok (.iload_n 1, 1) := by decide +kernel
theorem dX4_holdersOf_52 : decode cX4_holdersOf 52 = .ok (.if_icmp .lt 9, 3) := by decide +kernel
theorem dX4_holdersOf_55 : decode cX4_holdersOf 55 = .ok (.iload_n 2, 1) := by decide +kernel
theorem dX4_holdersOf_56 : decode cX4_holdersOf 56 = .ok (.iconst 1, 1) := by decide +kernel
theorem dX4_holdersOf_57 : decode cX4_holdersOf 57 = .ok (.iload_n 3, 1) := by decide +kernel
theorem dX4_holdersOf_58 : decode cX4_holdersOf 58 = .ok (.ishl, 1) := by decide +kernel
theorem dX4_holdersOf_59 : decode cX4_holdersOf 59 = .ok (.ior, 1) := by decide +kernel
theorem dX4_holdersOf_60 : decode cX4_holdersOf 60 = .ok (.istore_n 2, 1) := by decide +kernel
theorem dX4_holdersOf_61 : decode cX4_holdersOf 61 = .ok (.iinc 3 1, 3) := by decide +kernel
theorem dX4_holdersOf_64 : decode cX4_holdersOf 64 = .ok (.goto (-60), 3) := by decide +kernel
theorem dX4_holdersOf_67 : decode cX4_holdersOf 67 = .ok (.iload_n 2, 1) := by decide +kernel
theorem dX4_holdersOf_68 : decode cX4_holdersOf 68 = .ok (.ireturn, 1) := by decide +kernel
theorem dX4_carryOutUpTo_0 : decode cX4_carryOutUpTo 0 = .ok (.iload_n 1, 1) := by decide +kernel
theorem dX4_carryOutUpTo_1 : decode cX4_carryOutUpTo 1 = .ok (.aload_n 0, 1) := by decide +kernel
theorem dX4_carryOutUpTo_2 : decode cX4_carryOutUpTo 2 = .ok (.getfield 12, 3) := by decide +kernel
theorem dX4_carryOutUpTo_5 : decode cX4_carryOutUpTo 5 = .ok (.getfield 76, 3) := by decide +kernel
theorem dX4_carryOutUpTo_8 : decode cX4_carryOutUpTo 8 = .ok (.invokestatic 145, 3) := by decide +kernel
theorem dX4_carryOutUpTo_11 : decode cX4_carryOutUpTo 11 = .ok (.istore_n 2, 1) := by decide +kernel
theorem dX4_carryOutUpTo_12 : decode cX4_carryOutUpTo 12 = .ok (.aload_n 0, 1) := by decide +kernel
theorem dX4_carryOutUpTo_13 : decode cX4_carryOutUpTo 13 = .ok (.getfield 79, 3) := by decide +kernel
theorem dX4_carryOutUpTo_16 : decode cX4_carryOutUpTo 16 = .ok (.istore_n 3, 1) := by decide +kernel
theorem dX4_carryOutUpTo_17 : decode cX4_carryOutUpTo 17 = .ok (.iload_n 3, 1) := by decide +kernel
theorem dX4_carryOutUpTo_18 : decode cX4_carryOutUpTo 18 = .ok (.iload_n 2, 1) := by decide +kernel
theorem dX4_carryOutUpTo_19 : decode cX4_carryOutUpTo 19 = .ok (.if_icmp .ge 38, 3) := by decide +kernel
theorem dX4_carryOutUpTo_22 : decode cX4_carryOutUpTo 22 = .ok (.aload_n 0, 1) := by decide +kernel
theorem dX4_carryOutUpTo_23 : decode cX4_carryOutUpTo 23 = .ok (.getfield 21, 3) := by decide +kernel
theorem dX4_carryOutUpTo_26 : decode cX4_carryOutUpTo 26 = .ok (.aload_n 0, 1) := by decide +kernel
theorem dX4_carryOutUpTo_27 : decode cX4_carryOutUpTo 27 = .ok (.getfield 12, 3) := by decide +kernel
theorem dX4_carryOutUpTo_30 : decode cX4_carryOutUpTo 30 = .ok (.getfield 150, 3) := by decide +kernel
theorem dX4_carryOutUpTo_33 : decode cX4_carryOutUpTo 33 = .ok (.iload_n 3, 1) := by decide +kernel
theorem dX4_carryOutUpTo_34 : decode cX4_carryOutUpTo 34 = .ok (.iaload, 1) := by decide +kernel
theorem dX4_carryOutUpTo_35 : decode cX4_carryOutUpTo 35 = .ok (.invokevirtual 153, 3) := by decide +kernel
theorem dX4_carryOutUpTo_38 : decode cX4_carryOutUpTo 38 = .ok (.aload_n 0, 1) := by decide +kernel
theorem dX4_carryOutUpTo_39 : decode cX4_carryOutUpTo 39 = .ok (.getfield 52, 3) := by decide +kernel
theorem dX4_carryOutUpTo_42 : decode cX4_carryOutUpTo 42 = .ok (.dup, 1) := by decide +kernel
theorem dX4_carryOutUpTo_43 : decode cX4_carryOutUpTo 43 = .ok (.getfield 156, 3) := by decide +kernel
theorem dX4_carryOutUpTo_46 : decode cX4_carryOutUpTo 46 = .ok (.iconst 1, 1) := by decide +kernel
theorem dX4_carryOutUpTo_47 : decode cX4_carryOutUpTo 47 = .ok (.iadd, 1) := by decide +kernel
theorem dX4_carryOutUpTo_48 : decode cX4_carryOutUpTo 48 = .ok (.putfield 156, 3) := by decide +kernel
theorem dX4_carryOutUpTo_51 : decode cX4_carryOutUpTo 51 = .ok (.iinc 3 1, 3) := by decide +kernel
theorem dX4_carryOutUpTo_54 : decode cX4_carryOutUpTo 54 = .ok (.goto (-37), 3) := by decide +kernel
theorem dX4_carryOutUpTo_57 : decode cX4_carryOutUpTo 57 = .ok (.aload_n 0, 1) := by decide +kernel
theorem dX4_carryOutUpTo_58 : decode cX4_carryOutUpTo 58 = .ok (.aload_n 0, 1) := by decide +kernel
theorem dX4_carryOutUpTo_59 : decode cX4_carryOutUpTo 59 = .ok (.getfield 79, 3) := by decide +kernel
theorem dX4_carryOutUpTo_62 : decode cX4_carryOutUpTo 62 = .ok (.iload_n 2, 1) := by decide +kernel
theorem dX4_carryOutUpTo_63 : decode cX4_carryOutUpTo 63 = .ok (.invokestatic 159, 3) := by decide +kernel
theorem dX4_carryOutUpTo_66 : decode cX4_carryOutUpTo 66 = .ok (.putfield 79, 3) := by decide +kernel
theorem dX4_carryOutUpTo_69 : decode cX4_carryOutUpTo 69 = .ok (.return_, 1) := by decide +kernel
theorem dX4_receive_0 : decode cX4_receive 0 = .ok (.aload_n 2, 1) := by decide +kernel
theorem dX4_receive_1 : decode cX4_receive 1 = .ok (.getfield 162, 3) := by decide +kernel
theorem dX4_receive_4 : decode cX4_receive 4 = .ok (.tableswitch 165 1 12 #[64, 72, 81, 90, 98, 106, 113, 122, 131, 140, 149, 157], 64) := by decide +kernel
theorem dX4_receive_68 : decode cX4_receive 68 = .ok (.aload_n 0, 1) := by decide +kernel
theorem dX4_receive_69 : decode cX4_receive 69 = .ok (.aload_n 2, 1) := by decide +kernel
theorem dX4_receive_70 : decode cX4_receive 70 = .ok (.invokevirtual 167, 3) := by decide +kernel
theorem dX4_receive_73 : decode cX4_receive 73 = .ok (.goto 96, 3) := by decide +kernel
theorem dX4_receive_76 : decode cX4_receive 76 = .ok (.aload_n 0, 1) := by decide +kernel
theorem dX4_receive_77 : decode cX4_receive 77 = .ok (.iload_n 1, 1) := by decide +kernel
theorem dX4_receive_78 : decode cX4_receive 78 = .ok (.aload_n 2, 1) := by decide +kernel
theorem dX4_receive_79 : decode cX4_receive 79 = .ok (.invokevirtual 171, 3) := by decide +kernel
theorem dX4_receive_82 : decode cX4_receive 82 = .ok (.goto 87, 3) := by decide +kernel
theorem dX4_receive_85 : decode cX4_receive 85 = .ok (.aload_n 0, 1) := by decide +kernel
theorem dX4_receive_86 : decode cX4_receive 86 = .ok (.iload_n 1, 1) := by decide +kernel
theorem dX4_receive_87 : decode cX4_receive 87 = .ok (.aload_n 2, 1) := by decide +kernel
theorem dX4_receive_88 : decode cX4_receive 88 = .ok (.invokevirtual 175, 3) := by decide +kernel
theorem dX4_receive_91 : decode cX4_receive 91 = .ok (.goto 78, 3) := by decide +kernel
theorem dX4_receive_94 : decode cX4_receive 94 = .ok (.aload_n 0, 1) := by decide +kernel
theorem dX4_receive_95 : decode cX4_receive 95 = .ok (.aload_n 2, 1) := by decide +kernel
theorem dX4_receive_96 : decode cX4_receive 96 = .ok (.invokevirtual 178, 3) := by decide +kernel
theorem dX4_receive_99 : decode cX4_receive 99 = .ok (.goto 70, 3) := by decide +kernel
theorem dX4_receive_102 : decode cX4_receive 102 = .ok (.aload_n 0, 1) := by decide +kernel
theorem dX4_receive_103 : decode cX4_receive 103 = .ok (.iload_n 1, 1) := by decide +kernel
theorem dX4_receive_104 : decode cX4_receive 104 = .ok (.invokevirtual 181, 3) := by decide +kernel
theorem dX4_receive_107 : decode cX4_receive 107 = .ok (.goto 62, 3) := by decide +kernel
theorem dX4_receive_110 : decode cX4_receive 110 = .ok (.aload_n 0, 1) := by decide +kernel
theorem dX4_receive_111 : decode cX4_receive 111 = .ok (.invokevirtual 184, 3) := by decide +kernel
theorem dX4_receive_114 : decode cX4_receive 114 = .ok (.goto 55, 3) := by decide +kernel
theorem dX4_receive_117 : decode cX4_receive 117 = .ok (.aload_n 0, 1) := by decide +kernel
theorem dX4_receive_118 : decode cX4_receive 118 = .ok (.iload_n 1, 1) := by decide +kernel
theorem dX4_receive_119 : decode cX4_receive 119 = .ok (.aload_n 2, 1) := by decide +kernel
theorem dX4_receive_120 : decode cX4_receive 120 = .ok (.invokevirtual 187, 3) := by decide +kernel
theorem dX4_receive_123 : decode cX4_receive 123 = .ok (.goto 46, 3) := by decide +kernel
theorem dX4_receive_126 : decode cX4_receive 126 = .ok (.aload_n 0, 1) := by decide +kernel
theorem dX4_receive_127 : decode cX4_receive 127 = .ok (.iload_n 1, 1) := by decide +kernel
theorem dX4_receive_128 : decode cX4_receive 128 = .ok (.aload_n 2, 1) := by decide +kernel
theorem dX4_receive_129 : decode cX4_receive 129 = .ok (.invokevirtual 190, 3) := by decide +kernel
theorem dX4_receive_132 : decode cX4_receive 132 = .ok (.goto 37, 3) := by decide +kernel
theorem dX4_receive_135 : decode cX4_receive 135 = .ok (.aload_n 0, 1) := by decide +kernel
theorem dX4_receive_136 : decode cX4_receive 136 = .ok (.iload_n 1, 1) := by decide +kernel
theorem dX4_receive_137 : decode cX4_receive 137 = .ok (.aload_n 2, 1) := by decide +kernel
theorem dX4_receive_138 : decode cX4_receive 138 = .ok (.invokevirtual 193, 3) := by decide +kernel
theorem dX4_receive_141 : decode cX4_receive 141 = .ok (.goto 28, 3) := by decide +kernel
theorem dX4_receive_144 : decode cX4_receive 144 = .ok (.aload_n 0, 1) := by decide +kernel
theorem dX4_receive_145 : decode cX4_receive 145 = .ok (.iload_n 1, 1) := by decide +kernel
theorem dX4_receive_146 : decode cX4_receive 146 = .ok (.aload_n 2, 1) := by decide +kernel
theorem dX4_receive_147 : decode cX4_receive 147 = .ok (.invokevirtual 196, 3) := by decide +kernel
theorem dX4_receive_150 : decode cX4_receive 150 = .ok (.goto 19, 3) := by decide +kernel
theorem dX4_receive_153 : decode cX4_receive 153 = .ok (.aload_n 0, 1) := by decide +kernel
theorem dX4_receive_154 : decode cX4_receive 154 = .ok (.aload_n 2, 1) := by decide +kernel
theorem dX4_receive_155 : decode cX4_receive 155 = .ok (.invokevirtual 199, 3) := by decide +kernel
theorem dX4_receive_158 : decode cX4_receive 158 = .ok (.goto 11, 3) := by decide +kernel
theorem dX4_receive_161 : decode cX4_receive 161 = .ok (.aload_n 0, 1) := by decide +kernel
theorem dX4_receive_162 : decode cX4_receive 162 = .ok (.iconst 2, 1) := by decide +kernel
theorem dX4_receive_163 : decode cX4_receive 163 = .ok (.putfield 32, 3) := by decide +kernel
theorem dX4_receive_166 : decode cX4_receive 166 = .ok (.goto 3, 3) := by decide +kernel
theorem dX4_receive_169 : decode cX4_receive 169 = .ok (.return_, 1) := by decide +kernel
theorem dX4_onPass_0 : decode cX4_onPass 0 = .ok (.aload_n 0, 1) := by decide +kernel
theorem dX4_onPass_1 : decode cX4_onPass 1 = .ok (.invokevirtual 202, 3) := by decide +kernel
theorem dX4_onPass_4 : decode cX4_onPass 4 = .ok (.ifCond .eq 28, 3) := by decide +kernel
theorem dX4_onPass_7 : decode cX4_onPass 7 = .ok (.aload_n 0, 1) := by decide +kernel
theorem dX4_onPass_8 : decode cX4_onPass 8 = .ok (.getfield 12, 3) := by decide +kernel
theorem dX4_onPass_11 : decode cX4_onPass 11 = .ok (.invokevirtual 116, 3) := by decide +kernel
theorem dX4_onPass_14 : decode cX4_onPass 14 = .ok (.ifCond .ne 18, 3) := by decide +kernel
theorem dX4_onPass_17 : decode cX4_onPass 17 = .ok (.aload_n 0, 1) := by decide +kernel
theorem dX4_onPass_18 : decode cX4_onPass 18 = .ok (.aload_n 1, 1) := by decide +kernel
theorem dX4_onPass_19 : decode cX4_onPass 19 = .ok (.invokevirtual 205, 3) := by decide +kernel
theorem dX4_onPass_22 : decode cX4_onPass 22 = .ok (.invokevirtual 119, 3) := by decide +kernel
theorem dX4_onPass_25 : decode cX4_onPass 25 = .ok (.aload_n 0, 1) := by decide +kernel
theorem dX4_onPass_26 : decode cX4_onPass 26 = .ok (.invokevirtual 123, 3) := by decide +kernel
theorem dX4_onPass_29 : decode cX4_onPass 29 = .ok (.goto 16, 3) := by decide +kernel
theorem dX4_onPass_32 : decode cX4_onPass 32 = .ok (.aload_n 0, 1) := by decide +kernel
theorem dX4_onPass_33 : decode cX4_onPass 33 = .ok (.getfield 52, 3) := by decide +kernel
theorem dX4_onPass_36 : decode cX4_onPass 36 = .ok (.dup, 1) := by decide +kernel
theorem dX4_onPass_37 : decode cX4_onPass 37 = .ok (.getfield 208, 3) := by decide +kernel
theorem dX4_onPass_40 : decode cX4_onPass 40 = .ok (.iconst 1, 1) := by decide +kernel
theorem dX4_onPass_41 : decode cX4_onPass 41 = .ok (.iadd, 1) := by decide +kernel
theorem dX4_onPass_42 : decode cX4_onPass 42 = .ok (.putfield 208, 3) := by decide +kernel
theorem dX4_onPass_45 : decode cX4_onPass 45 = .ok (.return_, 1) := by decide +kernel
theorem dX4_onOrder_0 : decode cX4_onOrder 0 = .ok (.aload_n 0, 1) := by decide +kernel
theorem dX4_onOrder_1 : decode cX4_onOrder 1 = .ok (.getfield 12, 3) := by decide +kernel
theorem dX4_onOrder_4 : decode cX4_onOrder 4 = .ok (.getfield 76, 3) := by decide +kernel
theorem dX4_onOrder_7 : decode cX4_onOrder 7 = .ok (.aload_n 2, 1) := by decide +kernel
theorem dX4_onOrder_8 : decode cX4_onOrder 8 = .ok (.getfield 211, 3) := by decide +kernel
theorem dX4_onOrder_11 : decode cX4_onOrder 11 = .ok (.if_icmp .ne 17, 3) := by decide +kernel
theorem dX4_onOrder_14 : decode cX4_onOrder 14 = .ok (.aload_n 0, 1) := by decide +kernel
theorem dX4_onOrder_15 : decode cX4_onOrder 15 = .ok (.getfield 12, 3) := by decide +kernel
theorem dX4_onOrder_18 : decode cX4_onOrder 18 = .ok (.invokevirtual 116, 3) := by decide +kernel
theorem dX4_onOrder_21 : decode cX4_onOrder 21 = .ok (.ifCond .ne 7, 3) := by decide +kernel
theorem dX4_onOrder_24 : decode cX4_onOrder 24 = .ok (.iconst 1, 1) := by decide +kernel
theorem dX4_onOrder_25 : decode cX4_onOrder 25 = .ok (.goto 4, 3) := by decide +kernel
theorem dX4_onOrder_28 : decode cX4_onOrder 28 = .ok (.iconst 0, 1) := by decide +kernel
theorem dX4_onOrder_29 : decode cX4_onOrder 29 = .ok (.istore_n 3, 1) := by decide +kernel
theorem dX4_onOrder_30 : decode cX4_onOrder 30 = .ok (.aload_n 2, 1) := by decide +kernel
theorem dX4_onOrder_31 : decode cX4_onOrder 31 = .ok (.getfield 214, 3) := by decide +kernel
theorem dX4_onOrder_34 : decode cX4_onOrder 34 = .ok (.aload_n 0, 1) := by decide +kernel
theorem dX4_onOrder_35 : decode cX4_onOrder 35 = .ok (.getfield 63, 3) := by decide +kernel
theorem dX4_onOrder_38 : decode cX4_onOrder 38 = .ok (.if_icmp .ne 42, 3) := by decide +kernel
theorem dX4_onOrder_41 : decode cX4_onOrder 41 = .ok (.aload_n 0, 1) := by decide +kernel
theorem dX4_onOrder_42 : decode cX4_onOrder 42 = .ok (.invokevirtual 85, 3) := by decide +kernel
theorem dX4_onOrder_45 : decode cX4_onOrder 45 = .ok (.ifCond .ne 35, 3) := by decide +kernel
theorem dX4_onOrder_48 : decode cX4_onOrder 48 = .ok (.iload_n 3, 1) := by decide +kernel
theorem dX4_onOrder_49 : decode cX4_onOrder 49 = .ok (.ifCond .eq 31, 3) := by decide +kernel
theorem dX4_onOrder_52 : decode cX4_onOrder 52 = .ok (.aload_n 0, 1) := by decide +kernel
theorem dX4_onOrder_53 : decode cX4_onOrder 53 = .ok (.getfield 12, 3) := by decide +kernel
theorem dX4_onOrder_56 : decode cX4_onOrder 56 = .ok (.aload_n 2, 1) := by decide +kernel
theorem dX4_onOrder_57 : decode cX4_onOrder 57 = .ok (.invokevirtual 205, 3) := by decide +kernel
theorem dX4_onOrder_60 : decode cX4_onOrder 60 = .ok (.invokevirtual 126, 3) := by decide +kernel
theorem dX4_onOrder_63 : decode cX4_onOrder 63 = .ok (.aload_n 0, 1) := by decide +kernel
theorem dX4_onOrder_64 : decode cX4_onOrder 64 = .ok (.iload_n 1, 1) := by decide +kernel
theorem dX4_onOrder_65 : decode cX4_onOrder 65 = .ok (.iconst 3, 1) := by decide +kernel
theorem dX4_onOrder_66 : decode cX4_onOrder 66 = .ok (.aload_n 0, 1) := by decide +kernel
theorem dX4_onOrder_67 : decode cX4_onOrder 67 = .ok (.getfield 63, 3) := by decide +kernel
theorem dX4_onOrder_70 : decode cX4_onOrder 70 = .ok (.aload_n 0, 1) := by decide +kernel
theorem dX4_onOrder_71 : decode cX4_onOrder 71 = .ok (.getfield 12, 3) := by decide +kernel
theorem dX4_onOrder_74 : decode cX4_onOrder 74 = .ok (.getfield 76, 3) := by decide +kernel
theorem dX4_onOrder_77 : decode cX4_onOrder 77 = .ok (.invokevirtual 217, 3) := by decide +kernel
theorem dX4_onOrder_80 : decode cX4_onOrder 80 = .ok (.return_, 1) := by decide +kernel
theorem dX4_onHeld_0 : decode cX4_onHeld 0 = .ok (.iload_n 1, 1) := by decide +kernel
theorem dX4_onHeld_1 : decode cX4_onHeld 1 = .ok (.ifCond .lt 16, 3) := by decide +kernel
theorem dX4_onHeld_4 : decode cX4_onHeld 4 = .ok (.iload_n 1, 1) := by decide +kernel
theorem dX4_onHeld_5 : decode cX4_onHeld 5 = .ok (.aload_n 0, 1) := by decide +kernel
theorem dX4_onHeld_6 : decode cX4_onHeld 6 = .ok (.getfield 56, 3) := by decide +kernel
theorem dX4_onHeld_9 : decode cX4_onHeld 9 = .ok (.arraylength, 1) := by decide +kernel
theorem dX4_onHeld_10 : decode cX4_onHeld 10 = .ok (.if_icmp .ge 7, 3) := by decide +kernel
theorem dX4_onHeld_13 : decode cX4_onHeld 13 = .ok (.iconst 1, 1) := by decide +kernel
theorem dX4_onHeld_14 : decode cX4_onHeld 14 = .ok (.goto 4, 3) := by decide +kernel
theorem dX4_onHeld_17 : decode cX4_onHeld 17 = .ok (.iconst 0, 1) := by decide +kernel
theorem dX4_onHeld_18 : decode cX4_onHeld 18 = .ok (.istore_n 3, 1) := by decide +kernel
theorem dX4_onHeld_19 : decode cX4_onHeld 19 = .ok (.aload_n 2, 1) := by decide +kernel
theorem dX4_onHeld_20 : decode cX4_onHeld 20 = .ok (.getfield 214, 3) := by decide +kernel
theorem dX4_onHeld_23 : decode cX4_onHeld 23 = .ok (.aload_n 0, 1) := by decide +kernel
theorem dX4_onHeld_24 : decode cX4_onHeld 24 = .ok (.getfield 63, 3) := by decide +kernel
theorem dX4_onHeld_27 : decode cX4_onHeld 27 = .ok (.if_icmp .ne 37, 3) := by decide +kernel
theorem dX4_onHeld_30 : decode cX4_onHeld 30 = .ok (.aload_n 0, 1) := by decide +kernel
theorem dX4_onHeld_31 : decode cX4_onHeld 31 = .ok (.invokevirtual 202, 3) := by decide +kernel
theorem dX4_onHeld_34 : decode cX4_onHeld 34 = .ok (.ifCond .eq 30, 3) := by decide +kernel
theorem dX4_onHeld_37 : decode cX4_onHeld 37 = .ok (.iload_n 3, 1) := by decide +kernel
theorem dX4_onHeld_38 : decode cX4_onHeld 38 = .ok (.ifCond .eq 26, 3) := by decide +kernel
theorem dX4_onHeld_41 : decode cX4_onHeld 41 = .ok (.aload_n 0, 1) := by decide +kernel
theorem dX4_onHeld_42 : decode cX4_onHeld 42 = .ok (.getfield 56, 3) := by decide +kernel
theorem dX4_onHeld_45 : decode cX4_onHeld 45 = .ok (.iload_n 1, 1) := by decide +kernel
theorem dX4_onHeld_46 : decode cX4_onHeld 46 = .ok (.aload_n 0, 1) := by decide +kernel
theorem dX4_onHeld_47 : decode cX4_onHeld 47 = .ok (.getfield 56, 3) := by decide +kernel
theorem dX4_onHeld_50 : decode cX4_onHeld 50 = .ok (.iload_n 1, 1) := by decide +kernel
theorem dX4_onHeld_51 : decode cX4_onHeld 51 = .ok (.iaload, 1) := by decide +kernel
theorem dX4_onHeld_52 : decode cX4_onHeld 52 = .ok (.aload_n 2, 1) := by decide +kernel
theorem dX4_onHeld_53 : decode cX4_onHeld 53 = .ok (.getfield 211, 3) := by decide +kernel
theorem dX4_onHeld_56 : decode cX4_onHeld 56 = .ok (.invokestatic 159, 3) := by decide +kernel
theorem dX4_onHeld_59 : decode cX4_onHeld 59 = .ok (.iastore, 1) := by decide +kernel
theorem dX4_onHeld_60 : decode cX4_onHeld 60 = .ok (.aload_n 0, 1) := by decide +kernel
theorem dX4_onHeld_61 : decode cX4_onHeld 61 = .ok (.invokevirtual 123, 3) := by decide +kernel
theorem dX4_onHeld_64 : decode cX4_onHeld 64 = .ok (.return_, 1) := by decide +kernel
theorem dX4_onDo_0 : decode cX4_onDo 0 = .ok (.aload_n 1, 1) := by decide +kernel
theorem dX4_onDo_1 : decode cX4_onDo 1 = .ok (.getfield 214, 3) := by decide +kernel
theorem dX4_onDo_4 : decode cX4_onDo 4 = .ok (.aload_n 0, 1) := by decide +kernel
theorem dX4_onDo_5 : decode cX4_onDo 5 = .ok (.getfield 63, 3) := by decide +kernel
theorem dX4_onDo_8 : decode cX4_onDo 8 = .ok (.if_icmp .ne 18, 3) := by decide +kernel
theorem dX4_onDo_11 : decode cX4_onDo 11 = .ok (.aload_n 0, 1) := by decide +kernel
theorem dX4_onDo_12 : decode cX4_onDo 12 = .ok (.invokevirtual 85, 3) := by decide +kernel
theorem dX4_onDo_15 : decode cX4_onDo 15 = .ok (.ifCond .ne 11, 3) := by decide +kernel
theorem dX4_onDo_18 : decode cX4_onDo 18 = .ok (.aload_n 0, 1) := by decide +kernel
theorem dX4_onDo_19 : decode cX4_onDo 19 = .ok (.aload_n 1, 1) := by decide +kernel
theorem dX4_onDo_20 : decode cX4_onDo 20 = .ok (.getfield 211, 3) := by decide +kernel
theorem dX4_onDo_23 : decode cX4_onDo 23 = .ok (.invokevirtual 135, 3) := by decide +kernel
theorem dX4_onDo_26 : decode cX4_onDo 26 = .ok (.return_, 1) := by decide +kernel
theorem dX4_onElect_0 : decode cX4_onElect 0 = .ok (.iload_n 1, 1) := by decide +kernel
theorem dX4_onElect_1 : decode cX4_onElect 1 = .ok (.aload_n 0, 1) := by decide +kernel
theorem dX4_onElect_2 : decode cX4_onElect 2 = .ok (.getfield 42, 3) := by decide +kernel
theorem dX4_onElect_5 : decode cX4_onElect 5 = .ok (.if_icmp .ge 23, 3) := by decide +kernel
theorem dX4_onElect_8 : decode cX4_onElect 8 = .ok (.aload_n 0, 1) := by decide +kernel
theorem dX4_onElect_9 : decode cX4_onElect 9 = .ok (.iload_n 1, 1) := by decide +kernel
theorem dX4_onElect_10 : decode cX4_onElect 10 = .ok (.bipush 6, 2) := by decide +kernel
theorem dX4_onElect_12 : decode cX4_onElect 12 = .ok (.iconst 0, 1) := by decide +kernel
theorem dX4_onElect_13 : decode cX4_onElect 13 = .ok (.iconst 0, 1) := by decide +kernel
theorem dX4_onElect_14 : decode cX4_onElect 14 = .ok (.invokevirtual 217, 3) := by decide +kernel
theorem dX4_onElect_17 : decode cX4_onElect 17 = .ok (.aload_n 0, 1) := by decide +kernel
theorem dX4_onElect_18 : decode cX4_onElect 18 = .ok (.getfield 36, 3) := by decide +kernel
theorem dX4_onElect_21 : decode cX4_onElect 21 = .ok (.ifCond .ne 7, 3) := by decide +kernel
theorem dX4_onElect_24 : decode cX4_onElect 24 = .ok (.aload_n 0, 1) := by decide +kernel
theorem dX4_onElect_25 : decode cX4_onElect 25 = .ok (.invokevirtual 221, 3) := by decide +kernel
theorem dX4_onElect_28 : decode cX4_onElect 28 = .ok (.return_, 1) := by decide +kernel
theorem dX4_onWait_0 : decode cX4_onWait 0 = .ok (.aload_n 0, 1) := by decide +kernel
theorem dX4_onWait_1 : decode cX4_onWait 1 = .ok (.getfield 36, 3) := by decide +kernel
theorem dX4_onWait_4 : decode cX4_onWait 4 = .ok (.iconst 1, 1) := by decide +kernel
theorem dX4_onWait_5 : decode cX4_onWait 5 = .ok (.if_icmp .ne 8, 3) := by decide +kernel
theorem dX4_onWait_8 : decode cX4_onWait 8 = .ok (.aload_n 0, 1) := by decide +kernel
theorem dX4_onWait_9 : decode cX4_onWait 9 = .ok (.iconst 2, 1) := by decide +kernel
theorem dX4_onWait_10 : decode cX4_onWait 10 = .ok (.putfield 36, 3) := by decide +kernel
theorem dX4_onWait_13 : decode cX4_onWait 13 = .ok (.return_, 1) := by decide +kernel
theorem dX4_onFlush_0 : decode cX4_onFlush 0 = .ok (.aload_n 2, 1) := by decide +kernel
theorem dX4_onFlush_1 : decode cX4_onFlush 1 = .ok (.getfield 214, 3) := by decide +kernel
theorem dX4_onFlush_4 : decode cX4_onFlush 4 = .ok (.aload_n 0, 1) := by decide +kernel
theorem dX4_onFlush_5 : decode cX4_onFlush 5 = .ok (.getfield 70, 3) := by decide +kernel
theorem dX4_onFlush_8 : decode cX4_onFlush 8 = .ok (.if_icmp .le 52, 3) := by decide +kernel
theorem dX4_onFlush_11 : decode cX4_onFlush 11 = .ok (.aload_n 0, 1) := by decide +kernel
theorem dX4_onFlush_12 : decode cX4_onFlush 12 = .ok (.aload_n 2, 1) := by decide +kernel
theorem dX4_onFlush_13 : decode cX4_onFlush 13 = .ok (.getfield 214, 3) := by decide +kernel
theorem dX4_onFlush_16 : decode cX4_onFlush 16 = .ok (.putfield 70, 3) := by decide +kernel
theorem dX4_onFlush_19 : decode cX4_onFlush 19 = .ok (.aload_n 0, 1) := by decide +kernel
theorem dX4_onFlush_20 : decode cX4_onFlush 20 = .ok (.iload_n 1, 1) := by decide +kernel
theorem dX4_onFlush_21 : decode cX4_onFlush 21 = .ok (.putfield 39, 3) := by decide +kernel
theorem dX4_onFlush_24 : decode cX4_onFlush 24 = .ok (.aload_n 0, 1) := by decide +kernel
theorem dX4_onFlush_25 : decode cX4_onFlush 25 = .ok (.iconst 0, 1) := by decide +kernel
theorem dX4_onFlush_26 : decode cX4_onFlush 26 = .ok (.putfield 36, 3) := by decide +kernel
theorem dX4_onFlush_29 : decode cX4_onFlush 29 = .ok (.aload_n 0, 1) := by decide +kernel
theorem dX4_onFlush_30 : decode cX4_onFlush 30 = .ok (.getfield 48, 3) := by decide +kernel
theorem dX4_onFlush_33 : decode cX4_onFlush 33 = .ok (.aload_n 0, 1) := by decide +kernel
theorem dX4_onFlush_34 : decode cX4_onFlush 34 = .ok (.getfield 42, 3) := by decide +kernel
theorem dX4_onFlush_37 : decode cX4_onFlush 37 = .ok (.iconst 1, 1) := by decide +kernel
theorem dX4_onFlush_38 : decode cX4_onFlush 38 = .ok (.iload_n 1, 1) := by decide +kernel
theorem dX4_onFlush_39 : decode cX4_onFlush 39 = .ok (.ishl, 1) := by decide +kernel
theorem dX4_onFlush_40 : decode cX4_onFlush 40 = .ok (.bipush 8, 2) := by decide +kernel
theorem dX4_onFlush_42 : decode cX4_onFlush 42 = .ok (.aload_n 0, 1) := by decide +kernel
theorem dX4_onFlush_43 : decode cX4_onFlush 43 = .ok (.getfield 70, 3) := by decide +kernel
theorem dX4_onFlush_46 : decode cX4_onFlush 46 = .ok (.aload_n 0, 1) := by decide +kernel
theorem dX4_onFlush_47 : decode cX4_onFlush 47 = .ok (.getfield 82, 3) := by decide +kernel
theorem dX4_onFlush_50 : decode cX4_onFlush 50 = .ok (.aload_n 0, 1) := by decide +kernel
theorem dX4_onFlush_51 : decode cX4_onFlush 51 = .ok (.getfield 12, 3) := by decide +kernel
theorem dX4_onFlush_54 : decode cX4_onFlush 54 = .ok (.invokevirtual 224, 3) := by decide +kernel
theorem dX4_onFlush_57 : decode cX4_onFlush 57 = .ok (.invokevirtual 110, 3) := by decide +kernel
theorem dX4_onFlush_60 : decode cX4_onFlush 60 = .ok (.return_, 1) := by decide +kernel
theorem dX4_onFlushed_0 : decode cX4_onFlushed 0 = .ok (.aload_n 0, 1) := by decide +kernel
theorem dX4_onFlushed_1 : decode cX4_onFlushed 1 = .ok (.getfield 36, 3) := by decide +kernel
theorem dX4_onFlushed_4 : decode cX4_onFlushed 4 = .ok (.iconst 3, 1) := by decide +kernel
theorem dX4_onFlushed_5 : decode cX4_onFlushed 5 = .ok (.if_icmp .ne 38, 3) := by decide +kernel
theorem dX4_onFlushed_8 : decode cX4_onFlushed 8 = .ok (.aload_n 2, 1) := by decide +kernel
theorem dX4_onFlushed_9 : decode cX4_onFlushed 9 = .ok (.getfield 214, 3) := by decide +kernel
theorem dX4_onFlushed_12 : decode cX4_onFlushed 12 = .ok (.aload_n 0, 1) := by decide +kernel
theorem dX4_onFlushed_13 : decode cX4_onFlushed 13 = .ok (.getfield 70, 3) := by decide +kernel
theorem dX4_onFlushed_16 : decode cX4_onFlushed 16 = .ok (.if_icmp .ne 27, 3) := by decide +kernel
theorem dX4_onFlushed_19 : decode cX4_onFlushed 19 = .ok (.aload_n 0, 1) := by decide +kernel
theorem dX4_onFlushed_20 : decode cX4_onFlushed 20 = .ok (.getfield 28, 3) := by decide +kernel
theorem dX4_onFlushed_23 : decode cX4_onFlushed 23 = .ok (.iload_n 1, 1) := by decide +kernel
theorem dX4_onFlushed_24 : decode cX4_onFlushed 24 = .ok (.aload_n 2, 1) := by decide +kernel
theorem dX4_onFlushed_25 : decode cX4_onFlushed 25 = .ok (.getfield 211, 3) := by decide +kernel
theorem dX4_onFlushed_28 : decode cX4_onFlushed 28 = .ok (.aload_n 2, 1) := by decide +kernel
theorem dX4_onFlushed_29 : decode cX4_onFlushed 29 = .ok (.getfield 228, 3) := by decide +kernel
theorem dX4_onFlushed_32 : decode cX4_onFlushed 32 = .ok (.invokevirtual 229, 3) := by decide +kernel
theorem dX4_onFlushed_35 : decode cX4_onFlushed 35 = .ok (.aload_n 0, 1) := by decide +kernel
theorem dX4_onFlushed_36 : decode cX4_onFlushed 36 = .ok (.getfield 28, 3) := by decide +kernel
theorem dX4_onFlushed_39 : decode cX4_onFlushed 39 = .ok (.iload_n 1, 1) := by decide +kernel
theorem dX4_onFlushed_40 : decode cX4_onFlushed 40 = .ok (.invokevirtual 233, 3) := by decide +kernel
theorem dX4_onFlushed_43 : decode cX4_onFlushed 43 = .ok (.return_, 1) := by decide +kernel
theorem dX4_onSync_0 : decode cX4_onSync 0 = .ok (.aload_n 2, 1) := by decide +kernel
theorem dX4_onSync_1 : decode cX4_onSync 1 = .ok (.getfield 214, 3) := by decide +kernel
theorem dX4_onSync_4 : decode cX4_onSync 4 = .ok (.aload_n 0, 1) := by decide +kernel
theorem dX4_onSync_5 : decode cX4_onSync 5 = .ok (.getfield 70, 3) := by decide +kernel
theorem dX4_onSync_8 : decode cX4_onSync 8 = .ok (.if_icmp .ne 34, 3) := by decide +kernel
theorem dX4_onSync_11 : decode cX4_onSync 11 = .ok (.aload_n 0, 1) := by decide +kernel
theorem dX4_onSync_12 : decode cX4_onSync 12 = .ok (.getfield 12, 3) := by decide +kernel
theorem dX4_onSync_15 : decode cX4_onSync 15 = .ok (.aload_n 2, 1) := by decide +kernel
theorem dX4_onSync_16 : decode cX4_onSync 16 = .ok (.getfield 228, 3) := by decide +kernel
theorem dX4_onSync_19 : decode cX4_onSync 19 = .ok (.invokevirtual 236, 3) := by decide +kernel
theorem dX4_onSync_22 : decode cX4_onSync 22 = .ok (.aload_n 0, 1) := by decide +kernel
theorem dX4_onSync_23 : decode cX4_onSync 23 = .ok (.aload_n 0, 1) := by decide +kernel
theorem dX4_onSync_24 : decode cX4_onSync 24 = .ok (.getfield 70, 3) := by decide +kernel
theorem dX4_onSync_27 : decode cX4_onSync 27 = .ok (.putfield 82, 3) := by decide +kernel
theorem dX4_onSync_30 : decode cX4_onSync 30 = .ok (.aload_n 0, 1) := by decide +kernel
theorem dX4_onSync_31 : decode cX4_onSync 31 = .ok (.iload_n 1, 1) := by decide +kernel
theorem dX4_onSync_32 : decode cX4_onSync 32 = .ok (.bipush 10, 2) := by decide +kernel
theorem dX4_onSync_34 : decode cX4_onSync 34 = .ok (.aload_n 0, 1) := by decide +kernel
theorem dX4_onSync_35 : decode cX4_onSync 35 = .ok (.getfield 70, 3) := by decide +kernel
theorem dX4_onSync_38 : decode cX4_onSync 38 = .ok (.iconst 0, 1) := by decide +kernel
theorem dX4_onSync_39 : decode cX4_onSync 39 = .ok (.invokevirtual 217, 3) := by decide +kernel
theorem dX4_onSync_42 : decode cX4_onSync 42 = .ok (.return_, 1) := by decide +kernel
theorem dX4_onSynced_0 : decode cX4_onSynced 0 = .ok (.aload_n 0, 1) := by decide +kernel
theorem dX4_onSynced_1 : decode cX4_onSynced 1 = .ok (.getfield 36, 3) := by decide +kernel
theorem dX4_onSynced_4 : decode cX4_onSynced 4 = .ok (.iconst 4, 1) := by decide +kernel
theorem dX4_onSynced_5 : decode cX4_onSynced 5 = .ok (.if_icmp .ne 22, 3) := by decide +kernel
theorem dX4_onSynced_8 : decode cX4_onSynced 8 = .ok (.aload_n 2, 1) := by decide +kernel
theorem dX4_onSynced_9 : decode cX4_onSynced 9 = .ok (.getfield 214, 3) := by decide +kernel
theorem dX4_onSynced_12 : decode cX4_onSynced 12 = .ok (.aload_n 0, 1) := by decide +kernel
theorem dX4_onSynced_13 : decode cX4_onSynced 13 = .ok (.getfield 70, 3) := by decide +kernel
theorem dX4_onSynced_16 : decode cX4_onSynced 16 = .ok (.if_icmp .ne 11, 3) := by decide +kernel
theorem dX4_onSynced_19 : decode cX4_onSynced 19 = .ok (.aload_n 0, 1) := by decide +kernel
theorem dX4_onSynced_20 : decode cX4_onSynced 20 = .ok (.getfield 28, 3) := by decide +kernel
theorem dX4_onSynced_23 : decode cX4_onSynced 23 = .ok (.iload_n 1, 1) := by decide +kernel
theorem dX4_onSynced_24 : decode cX4_onSynced 24 = .ok (.invokevirtual 233, 3) := by decide +kernel
theorem dX4_onSynced_27 : decode cX4_onSynced 27 = .ok (.return_, 1) := by decide +kernel
theorem dX4_onBegin_0 : decode cX4_onBegin 0 = .ok (.aload_n 1, 1) := by decide +kernel
theorem dX4_onBegin_1 : decode cX4_onBegin 1 = .ok (.getfield 214, 3) := by decide +kernel
theorem dX4_onBegin_4 : decode cX4_onBegin 4 = .ok (.aload_n 0, 1) := by decide +kernel
theorem dX4_onBegin_5 : decode cX4_onBegin 5 = .ok (.getfield 70, 3) := by decide +kernel
theorem dX4_onBegin_8 : decode cX4_onBegin 8 = .ok (.if_icmp .ne 11, 3) := by decide +kernel
theorem dX4_onBegin_11 : decode cX4_onBegin 11 = .ok (.aload_n 0, 1) := by decide +kernel
theorem dX4_onBegin_12 : decode cX4_onBegin 12 = .ok (.aload_n 1, 1) := by decide +kernel
theorem dX4_onBegin_13 : decode cX4_onBegin 13 = .ok (.getfield 211, 3) := by decide +kernel
theorem dX4_onBegin_16 : decode cX4_onBegin 16 = .ok (.invokevirtual 240, 3) := by decide +kernel
theorem dX4_onBegin_19 : decode cX4_onBegin 19 = .ok (.return_, 1) := by decide +kernel
theorem dX4_goOn_0 : decode cX4_goOn 0 = .ok (.aload_n 0, 1) := by decide +kernel
theorem dX4_goOn_1 : decode cX4_goOn 1 = .ok (.getfield 36, 3) := by decide +kernel
theorem dX4_goOn_4 : decode cX4_goOn 4 = .ok (.iconst 3, 1) := by decide +kernel
theorem dX4_goOn_5 : decode cX4_goOn 5 = .ok (.if_icmp .ne 17, 3) := by decide +kernel
theorem dX4_goOn_8 : decode cX4_goOn 8 = .ok (.aload_n 0, 1) := by decide +kernel
theorem dX4_goOn_9 : decode cX4_goOn 9 = .ok (.getfield 28, 3) := by decide +kernel
theorem dX4_goOn_12 : decode cX4_goOn 12 = .ok (.getfield 243, 3) := by decide +kernel
theorem dX4_goOn_15 : decode cX4_goOn 15 = .ok (.ifCond .ne 7, 3) := by decide +kernel
theorem dX4_goOn_18 : decode cX4_goOn 18 = .ok (.aload_n 0, 1) := by decide +kernel
theorem dX4_goOn_19 : decode cX4_goOn 19 = .ok (.invokevirtual 246, 3) := by decide +kernel
theorem dX4_goOn_22 : decode cX4_goOn 22 = .ok (.aload_n 0, 1) := by decide +kernel
theorem dX4_goOn_23 : decode cX4_goOn 23 = .ok (.getfield 36, 3) := by decide +kernel
theorem dX4_goOn_26 : decode cX4_goOn 26 = .ok (.iconst 4, 1) := by decide +kernel
theorem dX4_goOn_27 : decode cX4_goOn 27 = .ok (.if_icmp .ne 17, 3) := by decide +kernel
theorem dX4_goOn_30 : decode cX4_goOn 30 = .ok (.aload_n 0, 1) := by decide +kernel
theorem dX4_goOn_31 : decode cX4_goOn 31 = .ok (.getfield 28, 3) := by decide +kernel
theorem dX4_goOn_34 : decode cX4_goOn 34 = .ok (.getfield 243, 3) := by decide +kernel
theorem dX4_goOn_37 : decode cX4_goOn 37 = .ok (.ifCond .ne 7, 3) := by decide +kernel
theorem dX4_goOn_40 : decode cX4_goOn 40 = .ok (.aload_n 0, 1) := by decide +kernel
theorem dX4_goOn_41 : decode cX4_goOn 41 = .ok (.invokevirtual 249, 3) := by decide +kernel
theorem dX4_goOn_44 : decode cX4_goOn 44 = .ok (.return_, 1) := by decide +kernel
theorem dX4_giveBest_0 : decode cX4_giveBest 0 = .ok (.aload_n 0, 1) := by decide +kernel
theorem dX4_giveBest_1 : decode cX4_giveBest 1 = .ok (.getfield 12, 3) := by decide +kernel
theorem dX4_giveBest_4 : decode cX4_giveBest 4 = .ok (.aload_n 0, 1) := by decide +kernel
theorem dX4_giveBest_5 : decode cX4_giveBest 5 = .ok (.getfield 28, 3) := by decide +kernel
theorem dX4_giveBest_8 : decode cX4_giveBest 8 = .ok (.getfield 252, 3) := by decide +kernel
theorem dX4_giveBest_11 : decode cX4_giveBest 11 = .ok (.invokevirtual 236, 3) := by decide +kernel
theorem dX4_giveBest_14 : decode cX4_giveBest 14 = .ok (.aload_n 0, 1) := by decide +kernel
theorem dX4_giveBest_15 : decode cX4_giveBest 15 = .ok (.aload_n 0, 1) := by decide +kernel
theorem dX4_giveBest_16 : decode cX4_giveBest 16 = .ok (.getfield 70, 3) := by decide +kernel
theorem dX4_giveBest_19 : decode cX4_giveBest 19 = .ok (.putfield 82, 3) := by decide +kernel
theorem dX4_giveBest_22 : decode cX4_giveBest 22 = .ok (.aload_n 0, 1) := by decide +kernel
theorem dX4_giveBest_23 : decode cX4_giveBest 23 = .ok (.iconst 4, 1) := by decide +kernel
theorem dX4_giveBest_24 : decode cX4_giveBest 24 = .ok (.putfield 36, 3) := by decide +kernel
theorem dX4_giveBest_27 : decode cX4_giveBest 27 = .ok (.aload_n 0, 1) := by decide +kernel
theorem dX4_giveBest_28 : decode cX4_giveBest 28 = .ok (.getfield 28, 3) := by decide +kernel
theorem dX4_giveBest_31 : decode cX4_giveBest 31 = .ok (.aload_n 0, 1) := by decide +kernel
theorem dX4_giveBest_32 : decode cX4_giveBest 32 = .ok (.getfield 28, 3) := by decide +kernel
theorem dX4_giveBest_35 : decode cX4_giveBest 35 = .ok (.getfield 92, 3) := by decide +kernel
theorem dX4_giveBest_38 : decode cX4_giveBest 38 = .ok (.aload_n 0, 1) := by decide +kernel
theorem dX4_giveBest_39 : decode cX4_giveBest 39 = .ok (.getfield 42, 3) := by decide +kernel
theorem dX4_giveBest_42 : decode cX4_giveBest 42 = .ok (.invokestatic 103, 3) := by decide +kernel
theorem dX4_giveBest_45 : decode cX4_giveBest 45 = .ok (.putfield 243, 3) := by decide +kernel
theorem dX4_giveBest_48 : decode cX4_giveBest 48 = .ok (.aload_n 0, 1) := by decide +kernel
theorem dX4_giveBest_49 : decode cX4_giveBest 49 = .ok (.getfield 48, 3) := by decide +kernel
theorem dX4_giveBest_52 : decode cX4_giveBest 52 = .ok (.aload_n 0, 1) := by decide +kernel
theorem dX4_giveBest_53 : decode cX4_giveBest 53 = .ok (.getfield 42, 3) := by decide +kernel
theorem dX4_giveBest_56 : decode cX4_giveBest 56 = .ok (.aload_n 0, 1) := by decide +kernel
theorem dX4_giveBest_57 : decode cX4_giveBest 57 = .ok (.getfield 28, 3) := by decide +kernel
theorem dX4_giveBest_60 : decode cX4_giveBest 60 = .ok (.getfield 243, 3) := by decide +kernel
theorem dX4_giveBest_63 : decode cX4_giveBest 63 = .ok (.bipush 9, 2) := by decide +kernel
theorem dX4_giveBest_65 : decode cX4_giveBest 65 = .ok (.aload_n 0, 1) := by decide +kernel
theorem dX4_giveBest_66 : decode cX4_giveBest 66 = .ok (.getfield 70, 3) := by decide +kernel
theorem dX4_giveBest_69 : decode cX4_giveBest 69 = .ok (.iconst 0, 1) := by decide +kernel
theorem dX4_giveBest_70 : decode cX4_giveBest 70 = .ok (.aload_n 0, 1) := by decide +kernel
theorem dX4_giveBest_71 : decode cX4_giveBest 71 = .ok (.getfield 28, 3) := by decide +kernel
theorem dX4_giveBest_74 : decode cX4_giveBest 74 = .ok (.getfield 252, 3) := by decide +kernel
theorem dX4_giveBest_77 : decode cX4_giveBest 77 = .ok (.invokevirtual 110, 3) := by decide +kernel
theorem dX4_giveBest_80 : decode cX4_giveBest 80 = .ok (.return_, 1) := by decide +kernel
theorem dX4_beginAnew_0 : decode cX4_beginAnew 0 = .ok (.aload_n 0, 1) := by decide +kernel
theorem dX4_beginAnew_1 : decode cX4_beginAnew 1 = .ok (.getfield 48, 3) := by decide +kernel
theorem dX4_beginAnew_4 : decode cX4_beginAnew 4 = .ok (.aload_n 0, 1) := by decide +kernel
theorem dX4_beginAnew_5 : decode cX4_beginAnew 5 = .ok (.getfield 42, 3) := by decide +kernel
theorem dX4_beginAnew_8 : decode cX4_beginAnew 8 = .ok (.aload_n 0, 1) := by decide +kernel
theorem dX4_beginAnew_9 : decode cX4_beginAnew 9 = .ok (.getfield 28, 3) := by decide +kernel
theorem dX4_beginAnew_12 : decode cX4_beginAnew 12 = .ok (.getfield 92, 3) := by decide +kernel
theorem dX4_beginAnew_15 : decode cX4_beginAnew 15 = .ok (.aload_n 0, 1) := by decide +kernel
theorem dX4_beginAnew_16 : decode cX4_beginAnew 16 = .ok (.getfield 42, 3) := by decide +kernel
theorem dX4_beginAnew_19 : decode cX4_beginAnew 19 = .ok (.invokestatic 103, 3) := by decide +kernel
theorem dX4_beginAnew_22 : decode cX4_beginAnew 22 = .ok (.bipush 11, 2) := by decide +kernel
theorem dX4_beginAnew_24 : decode cX4_beginAnew 24 = .ok (.aload_n 0, 1) := by decide +kernel
theorem dX4_beginAnew_25 : decode cX4_beginAnew 25 = .ok (.getfield 70, 3) := by decide +kernel
theorem dX4_beginAnew_28 : decode cX4_beginAnew 28 = .ok (.aload_n 0, 1) := by decide +kernel
theorem dX4_beginAnew_29 : decode cX4_beginAnew 29 = .ok (.getfield 28, 3) := by decide +kernel
theorem dX4_beginAnew_32 : decode cX4_beginAnew 32 = .ok (.getfield 92, 3) := by decide +kernel
theorem dX4_beginAnew_35 : decode cX4_beginAnew 35 = .ok (.getstatic 107, 3) := by decide +kernel
theorem dX4_beginAnew_38 : decode cX4_beginAnew 38 = .ok (.invokevirtual 110, 3) := by decide +kernel
theorem dX4_beginAnew_41 : decode cX4_beginAnew 41 = .ok (.aload_n 0, 1) := by decide +kernel
theorem dX4_beginAnew_42 : decode cX4_beginAnew 42 = .ok (.getfield 48, 3) := by decide +kernel
theorem dX4_beginAnew_45 : decode cX4_beginAnew 45 = .ok (.aload_n 0, 1) := by decide +kernel
theorem dX4_beginAnew_46 : decode cX4_beginAnew 46 = .ok (.getfield 42, 3) := by decide +kernel
theorem dX4_beginAnew_49 : decode cX4_beginAnew 49 = .ok (.aload_n 0, 1) := by decide +kernel
theorem dX4_beginAnew_50 : decode cX4_beginAnew 50 = .ok (.getfield 60, 3) := by decide +kernel
theorem dX4_beginAnew_53 : decode cX4_beginAnew 53 = .ok (.aload_n 0, 1) := by decide +kernel
theorem dX4_beginAnew_54 : decode cX4_beginAnew 54 = .ok (.getfield 28, 3) := by decide +kernel
theorem dX4_beginAnew_57 : decode cX4_beginAnew 57 = .ok (.getfield 92, 3) := by decide +kernel
theorem dX4_beginAnew_60 : decode cX4_beginAnew 60 = .ok (.iconst (-1), 1) := by decide +kernel
theorem dX4_beginAnew_61 : decode cX4_beginAnew 61 = .ok (.ixor, 1) := by decide +kernel
theorem dX4_beginAnew_62 : decode cX4_beginAnew 62 = .ok (.iand, 1) := by decide +kernel
theorem dX4_beginAnew_63 : decode cX4_beginAnew 63 = .ok (.bipush 12, 2) := by decide +kernel
theorem dX4_beginAnew_65 : decode cX4_beginAnew 65 = .ok (.iconst 0, 1) := by decide +kernel
theorem dX4_beginAnew_66 : decode cX4_beginAnew 66 = .ok (.iconst 0, 1) := by decide +kernel
theorem dX4_beginAnew_67 : decode cX4_beginAnew 67 = .ok (.getstatic 107, 3) := by decide +kernel
theorem dX4_beginAnew_70 : decode cX4_beginAnew 70 = .ok (.invokevirtual 110, 3) := by decide +kernel
theorem dX4_beginAnew_73 : decode cX4_beginAnew 73 = .ok (.aload_n 0, 1) := by decide +kernel
theorem dX4_beginAnew_74 : decode cX4_beginAnew 74 = .ok (.aload_n 0, 1) := by decide +kernel
theorem dX4_beginAnew_75 : decode cX4_beginAnew 75 = .ok (.getfield 28, 3) := by decide +kernel
theorem dX4_beginAnew_78 : decode cX4_beginAnew 78 = .ok (.getfield 92, 3) := by decide +kernel
theorem dX4_beginAnew_81 : decode cX4_beginAnew 81 = .ok (.invokevirtual 240, 3) := by decide +kernel
theorem dX4_beginAnew_84 : decode cX4_beginAnew 84 = .ok (.return_, 1) := by decide +kernel
theorem dX4_begin_0 : decode cX4_begin 0 = .ok (.aload_n 0, 1) := by decide +kernel
theorem dX4_begin_1 : decode cX4_begin 1 = .ok (.aload_n 0, 1) := by decide +kernel
theorem dX4_begin_2 : decode cX4_begin 2 = .ok (.getfield 70, 3) := by decide +kernel
theorem dX4_begin_5 : decode cX4_begin 5 = .ok (.putfield 63, 3) := by decide +kernel
theorem dX4_begin_8 : decode cX4_begin 8 = .ok (.aload_n 0, 1) := by decide +kernel
theorem dX4_begin_9 : decode cX4_begin 9 = .ok (.iload_n 1, 1) := by decide +kernel
theorem dX4_begin_10 : decode cX4_begin 10 = .ok (.putfield 60, 3) := by decide +kernel
theorem dX4_begin_13 : decode cX4_begin 13 = .ok (.aload_n 0, 1) := by decide +kernel
theorem dX4_begin_14 : decode cX4_begin 14 = .ok (.iconst 0, 1) := by decide +kernel
theorem dX4_begin_15 : decode cX4_begin 15 = .ok (.putfield 36, 3) := by decide +kernel
theorem dX4_begin_18 : decode cX4_begin 18 = .ok (.aload_n 0, 1) := by decide +kernel
theorem dX4_begin_19 : decode cX4_begin 19 = .ok (.getfield 56, 3) := by decide +kernel
theorem dX4_begin_22 : decode cX4_begin 22 = .ok (.aload_n 0, 1) := by decide +kernel
theorem dX4_begin_23 : decode cX4_begin 23 = .ok (.getfield 12, 3) := by decide +kernel
theorem dX4_begin_26 : decode cX4_begin 26 = .ok (.getfield 76, 3) := by decide +kernel
theorem dX4_begin_29 : decode cX4_begin 29 = .ok (.invokestatic 255, 3) := by decide +kernel
theorem dX4_begin_32 : decode cX4_begin 32 = .ok (.aload_n 0, 1) := by decide +kernel
theorem dX4_begin_33 : decode cX4_begin 33 = .ok (.aload_n 0, 1) := by decide +kernel
theorem dX4_begin_34 : decode cX4_begin 34 = .ok (.getfield 12, 3) := by decide +kernel
theorem dX4_begin_37 : decode cX4_begin 37 = .ok (.getfield 76, 3) := by decide +kernel
theorem dX4_begin_40 : decode cX4_begin 40 = .ok (.invokevirtual 135, 3) := by decide +kernel
theorem dX4_begin_43 : decode cX4_begin 43 = .ok (.aload_n 0, 1) := by decide +kernel
theorem dX4_begin_44 : decode cX4_begin 44 = .ok (.getfield 52, 3) := by decide +kernel
theorem dX4_begin_47 : decode cX4_begin 47 = .ok (.dup, 1) := by decide +kernel
theorem dX4_begin_48 : decode cX4_begin 48 = .ok (.getfield 261, 3) := by decide +kernel
theorem dX4_begin_51 : decode cX4_begin 51 = .ok (.iconst 1, 1) := by decide +kernel
theorem dX4_begin_52 : decode cX4_begin 52 = .ok (.iadd, 1) := by decide +kernel
theorem dX4_begin_53 : decode cX4_begin 53 = .ok (.putfield 261, 3) := by decide +kernel
theorem dX4_begin_56 : decode cX4_begin 56 = .ok (.return_, 1) := by decide +kernel
theorem dX4_ask_0 : decode cX4_ask 0 = .ok (.aload_n 0, 1) := by decide +kernel
theorem dX4_ask_1 : decode cX4_ask 1 = .ok (.iconst 1, 1) := by decide +kernel
theorem dX4_ask_2 : decode cX4_ask 2 = .ok (.putfield 36, 3) := by decide +kernel
theorem dX4_ask_5 : decode cX4_ask 5 = .ok (.aload_n 0, 1) := by decide +kernel
theorem dX4_ask_6 : decode cX4_ask 6 = .ok (.getfield 60, 3) := by decide +kernel
theorem dX4_ask_9 : decode cX4_ask 9 = .ok (.aload_n 0, 1) := by decide +kernel
theorem dX4_ask_10 : decode cX4_ask 10 = .ok (.getfield 73, 3) := by decide +kernel
theorem dX4_ask_13 : decode cX4_ask 13 = .ok (.iconst (-1), 1) := by decide +kernel
theorem dX4_ask_14 : decode cX4_ask 14 = .ok (.ixor, 1) := by decide +kernel
theorem dX4_ask_15 : decode cX4_ask 15 = .ok (.iand, 1) := by decide +kernel
theorem dX4_ask_16 : decode cX4_ask 16 = .ok (.aload_n 0, 1) := by decide +kernel
theorem dX4_ask_17 : decode cX4_ask 17 = .ok (.getfield 42, 3) := by decide +kernel
theorem dX4_ask_20 : decode cX4_ask 20 = .ok (.invokestatic 264, 3) := by decide +kernel
theorem dX4_ask_23 : decode cX4_ask 23 = .ok (.istore_n 1, 1) := by decide +kernel
theorem dX4_ask_24 : decode cX4_ask 24 = .ok (.iload_n 1, 1) := by decide +kernel
theorem dX4_ask_25 : decode cX4_ask 25 = .ok (.ifCond .ne 10, 3) := by decide +kernel
theorem dX4_ask_28 : decode cX4_ask 28 = .ok (.aload_n 0, 1) := by decide +kernel
theorem dX4_ask_29 : decode cX4_ask 29 = .ok (.invokevirtual 267, 3) := by decide +kernel
theorem dX4_ask_32 : decode cX4_ask 32 = .ok (.goto 21, 3) := by decide +kernel
theorem dX4_ask_35 : decode cX4_ask 35 = .ok (.aload_n 0, 1) := by decide +kernel
theorem dX4_ask_36 : decode cX4_ask 36 = .ok (.getfield 48, 3) := by decide +kernel
theorem dX4_ask_39 : decode cX4_ask 39 = .ok (.aload_n 0, 1) := by decide +kernel
theorem dX4_ask_40 : decode cX4_ask 40 = .ok (.getfield 42, 3) := by decide +kernel
theorem dX4_ask_43 : decode cX4_ask 43 = .ok (.iload_n 1, 1) := by decide +kernel
theorem dX4_ask_44 : decode cX4_ask 44 = .ok (.iconst 5, 1) := by decide +kernel
theorem dX4_ask_45 : decode cX4_ask 45 = .ok (.iconst 0, 1) := by decide +kernel
theorem dX4_ask_46 : decode cX4_ask 46 = .ok (.iconst 0, 1) := by decide +kernel
theorem dX4_ask_47 : decode cX4_ask 47 = .ok (.getstatic 107, 3) := by decide +kernel
theorem dX4_ask_50 : decode cX4_ask 50 = .ok (.invokevirtual 110, 3) := by decide +kernel
theorem dX4_ask_53 : decode cX4_ask 53 = .ok (.return_, 1) := by decide +kernel
theorem dX4_flush_0 : decode cX4_flush 0 = .ok (.aload_n 0, 1) := by decide +kernel
theorem dX4_flush_1 : decode cX4_flush 1 = .ok (.getfield 60, 3) := by decide +kernel
theorem dX4_flush_4 : decode cX4_flush 4 = .ok (.aload_n 0, 1) := by decide +kernel
theorem dX4_flush_5 : decode cX4_flush 5 = .ok (.getfield 73, 3) := by decide +kernel
theorem dX4_flush_8 : decode cX4_flush 8 = .ok (.iconst (-1), 1) := by decide +kernel
theorem dX4_flush_9 : decode cX4_flush 9 = .ok (.ixor, 1) := by decide +kernel
theorem dX4_flush_10 : decode cX4_flush 10 = .ok (.iand, 1) := by decide +kernel
theorem dX4_flush_11 : decode cX4_flush 11 = .ok (.istore_n 1, 1) := by decide +kernel
theorem dX4_flush_12 : decode cX4_flush 12 = .ok (.aload_n 0, 1) := by decide +kernel
theorem dX4_flush_13 : decode cX4_flush 13 = .ok (.iload_n 1, 1) := by decide +kernel
theorem dX4_flush_14 : decode cX4_flush 14 = .ok (.invokevirtual 141, 3) := by decide +kernel
theorem dX4_flush_17 : decode cX4_flush 17 = .ok (.ifCond .ne 9, 3) := by decide +kernel
theorem dX4_flush_20 : decode cX4_flush 20 = .ok (.aload_n 0, 1) := by decide +kernel
theorem dX4_flush_21 : decode cX4_flush 21 = .ok (.iconst 0, 1) := by decide +kernel
theorem dX4_flush_22 : decode cX4_flush 22 = .ok (.putfield 36, 3) := by decide +kernel
theorem dX4_flush_25 : decode cX4_flush 25 = .ok (.return_, 1) := by decide +kernel
theorem dX4_flush_26 : decode cX4_flush 26 = .ok (.aload_n 0, 1) := by decide +kernel
theorem dX4_flush_27 : decode cX4_flush 27 = .ok (.aload_n 0, 1) := by decide +kernel
theorem dX4_flush_28 : decode cX4_flush 28 = .ok (.invokevirtual 270, 3) := by decide +kernel
theorem dX4_flush_31 : decode cX4_flush 31 = .ok (.putfield 70, 3) := by decide +kernel
theorem dX4_flush_34 : decode cX4_flush 34 = .ok (.aload_n 0, 1) := by decide +kernel
theorem dX4_flush_35 : decode cX4_flush 35 = .ok (.iconst 3, 1) := by decide +kernel
theorem dX4_flush_36 : decode cX4_flush 36 = .ok (.putfield 36, 3) := by decide +kernel
theorem dX4_flush_39 : decode cX4_flush 39 = .ok (.aload_n 0, 1) := by decide +kernel
theorem dX4_flush_40 : decode cX4_flush 40 = .ok (.getfield 52, 3) := by decide +kernel
theorem dX4_flush_43 : decode cX4_flush 43 = .ok (.dup, 1) := by decide +kernel
theorem dX4_flush_44 : decode cX4_flush 44 = .ok (.getfield 273, 3) := by decide +kernel
theorem dX4_flush_47 : decode cX4_flush 47 = .ok (.iconst 1, 1) := by decide +kernel
theorem dX4_flush_48 : decode cX4_flush 48 = .ok (.iadd, 1) := by decide +kernel
theorem dX4_flush_49 : decode cX4_flush 49 = .ok (.putfield 273, 3) := by decide +kernel
theorem dX4_flush_52 : decode cX4_flush 52 = .ok (.aload_n 0, 1) := by decide +kernel
theorem dX4_flush_53 : decode cX4_flush 53 = .ok (.getfield 28, 3) := by decide +kernel
theorem dX4_flush_56 : decode cX4_flush 56 = .ok (.iload_n 1, 1) := by decide +kernel
theorem dX4_flush_57 : decode cX4_flush 57 = .ok (.aload_n 0, 1) := by decide +kernel
theorem dX4_flush_58 : decode cX4_flush 58 = .ok (.getfield 42, 3) := by decide +kernel
theorem dX4_flush_61 : decode cX4_flush 61 = .ok (.aload_n 0, 1) := by decide +kernel
theorem dX4_flush_62 : decode cX4_flush 62 = .ok (.getfield 82, 3) := by decide +kernel
theorem dX4_flush_65 : decode cX4_flush 65 = .ok (.aload_n 0, 1) := by decide +kernel
theorem dX4_flush_66 : decode cX4_flush 66 = .ok (.getfield 12, 3) := by decide +kernel
theorem dX4_flush_69 : decode cX4_flush 69 = .ok (.invokevirtual 224, 3) := by decide +kernel
theorem dX4_flush_72 : decode cX4_flush 72 = .ok (.invokevirtual 276, 3) := by decide +kernel
theorem dX4_flush_75 : decode cX4_flush 75 = .ok (.aload_n 0, 1) := by decide +kernel
theorem dX4_flush_76 : decode cX4_flush 76 = .ok (.getfield 48, 3) := by decide +kernel
theorem dX4_flush_79 : decode cX4_flush 79 = .ok (.aload_n 0, 1) := by decide +kernel
theorem dX4_flush_80 : decode cX4_flush 80 = .ok (.getfield 42, 3) := by decide +kernel
theorem dX4_flush_83 : decode cX4_flush 83 = .ok (.aload_n 0, 1) := by decide +kernel
theorem dX4_flush_84 : decode cX4_flush 84 = .ok (.getfield 28, 3) := by decide +kernel
theorem dX4_flush_87 : decode cX4_flush 87 = .ok (.getfield 243, 3) := by decide +kernel
theorem dX4_flush_90 : decode cX4_flush 90 = .ok (.bipush 7, 2) := by decide +kernel
theorem dX4_flush_92 : decode cX4_flush 92 = .ok (.aload_n 0, 1) := by decide +kernel
theorem dX4_flush_93 : decode cX4_flush 93 = .ok (.getfield 70, 3) := by decide +kernel
theorem dX4_flush_96 : decode cX4_flush 96 = .ok (.iload_n 1, 1) := by decide +kernel
theorem dX4_flush_97 : decode cX4_flush 97 = .ok (.getstatic 107, 3) := by decide +kernel
theorem dX4_flush_100 : decode cX4_flush 100 = .ok (.invokevirtual 110, 3) := by decide +kernel
theorem dX4_flush_103 : decode cX4_flush 103 = .ok (.return_, 1) := by decide +kernel
theorem dX4_nextOwnNumber_0 : decode cX4_nextOwnNumber 0 = .ok (.aload_n 0, 1) := by decide +kernel
theorem dX4_nextOwnNumber_1 : decode cX4_nextOwnNumber 1 = .ok (.getfield 70, 3) := by decide +kernel
theorem dX4_nextOwnNumber_4 : decode cX4_nextOwnNumber 4 = .ok (.iconst 1, 1) := by decide +kernel
theorem dX4_nextOwnNumber_5 : decode cX4_nextOwnNumber 5 = .ok (.iadd, 1) := by decide +kernel
theorem dX4_nextOwnNumber_6 : decode cX4_nextOwnNumber 6 = .ok (.istore_n 1, 1) := by decide +kernel
theorem dX4_nextOwnNumber_7 : decode cX4_nextOwnNumber 7 = .ok (.iload_n 1, 1) := by decide +kernel
theorem dX4_nextOwnNumber_8 : decode cX4_nextOwnNumber 8 = .ok (.aload_n 0, 1) := by decide +kernel
theorem dX4_nextOwnNumber_9 : decode cX4_nextOwnNumber 9 = .ok (.getfield 42, 3) := by decide +kernel
theorem dX4_nextOwnNumber_12 : decode cX4_nextOwnNumber 12 = .ok (.iload_n 1, 1) := by decide +kernel
theorem dX4_nextOwnNumber_13 : decode cX4_nextOwnNumber 13 = .ok (.isub, 1) := by decide +kernel
theorem dX4_nextOwnNumber_14 : decode cX4_nextOwnNumber 14 = .ok (.aload_n 0, 1) := by decide +kernel
theorem dX4_nextOwnNumber_15 : decode cX4_nextOwnNumber 15 = .ok (.getfield 45, 3) := by decide +kernel
theorem dX4_nextOwnNumber_18 : decode cX4_nextOwnNumber 18 = .ok (.invokestatic 280, 3) := by decide +kernel
theorem dX4_nextOwnNumber_21 : decode cX4_nextOwnNumber 21 = .ok (.iadd, 1) := by decide +kernel
theorem dX4_nextOwnNumber_22 : decode cX4_nextOwnNumber 22 = .ok (.ireturn, 1) := by decide +kernel
theorem dX4_turnAgainst_0 : decode cX4_turnAgainst 0 = .ok (.aload_n 0, 1) := by decide +kernel
theorem dX4_turnAgainst_1 : decode cX4_turnAgainst 1 = .ok (.dup, 1) := by decide +kernel
theorem dX4_turnAgainst_2 : decode cX4_turnAgainst 2 = .ok (.getfield 73, 3) := by decide +kernel
theorem dX4_turnAgainst_5 : decode cX4_turnAgainst 5 = .ok (.iconst 1, 1) := by decide +kernel
theorem dX4_turnAgainst_6 : decode cX4_turnAgainst 6 = .ok (.iload_n 1, 1) := by decide +kernel
theorem dX4_turnAgainst_7 : decode cX4_turnAgainst 7 = .ok (.ishl, 1) := by decide +kernel
theorem dX4_turnAgainst_8 : decode cX4_turnAgainst 8 = .ok (.ior, 1) := by decide +kernel
theorem dX4_turnAgainst_9 : decode cX4_turnAgainst 9 = .ok (.putfield 73, 3) := by decide +kernel
theorem dX4_turnAgainst_12 : decode cX4_turnAgainst 12 = .ok (.aload_n 0, 1) := by decide +kernel
theorem dX4_turnAgainst_13 : decode cX4_turnAgainst 13 = .ok (.invokevirtual 89, 3) := by decide +kernel
theorem dX4_turnAgainst_16 : decode cX4_turnAgainst 16 = .ok (.ifCond .eq 21, 3) := by decide +kernel
theorem dX4_turnAgainst_19 : decode cX4_turnAgainst 19 = .ok (.aload_n 0, 1) := by decide +kernel
theorem dX4_turnAgainst_20 : decode cX4_turnAgainst 20 = .ok (.getfield 28, 3) := by decide +kernel
theorem dX4_turnAgainst_23 : decode cX4_turnAgainst 23 = .ok (.getfield 92, 3) := by decide +kernel
theorem dX4_turnAgainst_26 : decode cX4_turnAgainst 26 = .ok (.iload_n 1, 1) := by decide +kernel
theorem dX4_turnAgainst_27 : decode cX4_turnAgainst 27 = .ok (.invokestatic 93, 3) := by decide +kernel
theorem dX4_turnAgainst_30 : decode cX4_turnAgainst 30 = .ok (.ifCond .eq 7, 3) := by decide +kernel
theorem dX4_turnAgainst_33 : decode cX4_turnAgainst 33 = .ok (.iconst 1, 1) := by decide +kernel
theorem dX4_turnAgainst_34 : decode cX4_turnAgainst 34 = .ok (.goto 4, 3) := by decide +kernel
theorem dX4_turnAgainst_37 : decode cX4_turnAgainst 37 = .ok (.iconst 0, 1) := by decide +kernel
theorem dX4_turnAgainst_38 : decode cX4_turnAgainst 38 = .ok (.istore_n 2, 1) := by decide +kernel
theorem dX4_turnAgainst_39 : decode cX4_turnAgainst 39 = .ok (.iload_n 2, 1) := by decide +kernel
theorem dX4_turnAgainst_40 : decode cX4_turnAgainst 40 = .ok (.ifCond .ne 21, 3) := by decide +kernel
theorem dX4_turnAgainst_43 : decode cX4_turnAgainst 43 = .ok (.aload_n 0, 1) := by decide +kernel
theorem dX4_turnAgainst_44 : decode cX4_turnAgainst 44 = .ok (.invokevirtual 202, 3) := by decide +kernel
theorem dX4_turnAgainst_47 : decode cX4_turnAgainst 47 = .ok (.ifCond .eq 21, 3) := by decide +kernel
theorem dX4_turnAgainst_50 : decode cX4_turnAgainst 50 = .ok (.aload_n 0, 1) := by decide +kernel
theorem dX4_turnAgainst_51 : decode cX4_turnAgainst 51 = .ok (.getfield 60, 3) := by decide +kernel
theorem dX4_turnAgainst_54 : decode cX4_turnAgainst 54 = .ok (.iload_n 1, 1) := by decide +kernel
theorem dX4_turnAgainst_55 : decode cX4_turnAgainst 55 = .ok (.invokestatic 93, 3) := by decide +kernel
theorem dX4_turnAgainst_58 : decode cX4_turnAgainst 58 = .ok (.ifCond .eq 10, 3) := by decide +kernel
theorem dX4_turnAgainst_61 : decode cX4_turnAgainst 61 = .ok (.aload_n 0, 1) := by decide +kernel
theorem dX4_turnAgainst_62 : decode cX4_turnAgainst 62 = .ok (.invokevirtual 267, 3) := by decide +kernel
theorem dX4_turnAgainst_65 : decode cX4_turnAgainst 65 = .ok (.goto 30, 3) := by decide +kernel
theorem dX4_turnAgainst_68 : decode cX4_turnAgainst 68 = .ok (.aload_n 0, 1) := by decide +kernel
theorem dX4_turnAgainst_69 : decode cX4_turnAgainst 69 = .ok (.getfield 36, 3) := by decide +kernel
theorem dX4_turnAgainst_72 : decode cX4_turnAgainst 72 = .ok (.ifCond .ne 23, 3) := by decide +kernel
theorem dX4_turnAgainst_75 : decode cX4_turnAgainst 75 = .ok (.iload_n 1, 1) := by decide +kernel
theorem dX4_turnAgainst_76 : decode cX4_turnAgainst 76 = .ok (.aload_n 0, 1) := by decide +kernel
theorem dX4_turnAgainst_77 : decode cX4_turnAgainst 77 = .ok (.invokevirtual 66, 3) := by decide +kernel
theorem dX4_turnAgainst_80 : decode cX4_turnAgainst 80 = .ok (.if_icmp .eq 11, 3) := by decide +kernel
theorem dX4_turnAgainst_83 : decode cX4_turnAgainst 83 = .ok (.iload_n 1, 1) := by decide +kernel
theorem dX4_turnAgainst_84 : decode cX4_turnAgainst 84 = .ok (.aload_n 0, 1) := by decide +kernel
theorem dX4_turnAgainst_85 : decode cX4_turnAgainst 85 = .ok (.getfield 39, 3) := by decide +kernel
theorem dX4_turnAgainst_88 : decode cX4_turnAgainst 88 = .ok (.if_icmp .ne 7, 3) := by decide +kernel
theorem dX4_turnAgainst_91 : decode cX4_turnAgainst 91 = .ok (.aload_n 0, 1) := by decide +kernel
theorem dX4_turnAgainst_92 : decode cX4_turnAgainst 92 = .ok (.invokevirtual 221, 3) := by decide +kernel
theorem dX4_turnAgainst_95 : decode cX4_turnAgainst 95 = .ok (.return_, 1) := by decide +kernel
theorem dX4_losePatience_0 : decode cX4_losePatience 0 = .ok (.aload_n 0, 1) := by decide +kernel
theorem dX4_losePatience_1 : decode cX4_losePatience 1 = .ok (.getfield 36, 3) := by decide +kernel
theorem dX4_losePatience_4 : decode cX4_losePatience 4 = .ok (.iconst 2, 1) := by decide +kernel
theorem dX4_losePatience_5 : decode cX4_losePatience 5 = .ok (.if_icmp .ne 10, 3) := by decide +kernel
theorem dX4_losePatience_8 : decode cX4_losePatience 8 = .ok (.aload_n 0, 1) := by decide +kernel
theorem dX4_losePatience_9 : decode cX4_losePatience 9 = .ok (.invokevirtual 221, 3) := by decide +kernel
theorem dX4_losePatience_12 : decode cX4_losePatience 12 = .ok (.goto 14, 3) := by decide +kernel
theorem dX4_losePatience_15 : decode cX4_losePatience 15 = .ok (.aload_n 0, 1) := by decide +kernel
theorem dX4_losePatience_16 : decode cX4_losePatience 16 = .ok (.getfield 36, 3) := by decide +kernel
theorem dX4_losePatience_19 : decode cX4_losePatience 19 = .ok (.ifCond .eq 7, 3) := by decide +kernel
theorem dX4_losePatience_22 : decode cX4_losePatience 22 = .ok (.aload_n 0, 1) := by decide +kernel
theorem dX4_losePatience_23 : decode cX4_losePatience 23 = .ok (.invokevirtual 267, 3) := by decide +kernel
theorem dX4_losePatience_26 : decode cX4_losePatience 26 = .ok (.return_, 1) := by decide +kernel
theorem dX5_init_0 : decode cX5_init 0 = .ok (.aload_n 0, 1) := by decide +kernel
theorem dX5_init_1 : decode cX5_init 1 = .ok (.invokespecial 3, 3) := by decide +kernel
theorem dX5_init_4 : decode cX5_init 4 = .ok (.aload_n 0, 1) := by decide +kernel
theorem dX5_init_5 : decode cX5_init 5 = .ok (.iload_n 1, 1) := by decide +kernel
theorem dX5_init_6 : decode cX5_init 6 = .ok (.putfield 9, 3) := by decide +kernel
theorem dX5_init_9 : decode cX5_init 9 = .ok (.aload_n 0, 1) := by decide +kernel
theorem dX5_init_10 : decode cX5_init 10 = .ok (.aload_n 2, 1) := by decide +kernel
theorem dX5_init_11 : decode cX5_init 11 = .ok (.putfield 15, 3) := by decide +kernel
theorem dX5_init_14 : decode cX5_init 14 = .ok (.aload_n 0, 1) := by decide +kernel
theorem dX5_init_15 : decode cX5_init 15 = .ok (.iload_n 1, 1) := by decide +kernel
theorem dX5_init_16 : decode cX5_init 16 = .ok (.iload_n 1, 1) := by decide +kernel
theorem dX5_init_17 : decode cX5_init 17 = .ok (.imul, 1) := by decide +kernel
theorem dX5_init_18 : decode cX5_init 18 = .ok (.anewarray 19, 3) := by decide +kernel
theorem dX5_init_21 : decode cX5_init 21 = .ok (.putfield 21, 3) := by decide +kernel
theorem dX5_init_24 : decode cX5_init 24 = .ok (.iconst 0, 1) := by decide +kernel
theorem dX5_init_25 : decode cX5_init 25 = .ok (.istore_n 3, 1) := by decide +kernel
theorem dX5_init_26 : decode cX5_init 26 = .ok (.iload_n 3, 1) := by decide +kernel
theorem dX5_init_27 : decode cX5_init 27 = .ok (.aload_n 0, 1) := by decide +kernel
theorem dX5_init_28 : decode cX5_init 28 = .ok (.getfield 21, 3) := by decide +kernel
theorem dX5_init_31 : decode cX5_init 31 = .ok (.arraylength, 1) := by decide +kernel
theorem dX5_init_32 : decode cX5_init 32 = .ok (.if_icmp .ge 22, 3) := by decide +kernel
theorem dX5_init_35 : decode cX5_init 35 = .ok (.aload_n 0, 1) := by decide +kernel
theorem dX5_init_36 : decode cX5_init 36 = .ok (.getfield 21, 3) := by decide +kernel
theorem dX5_init_39 : decode cX5_init 39 = .ok (.iload_n 3, 1) := by decide +kernel
theorem dX5_init_40 : decode cX5_init 40 = .ok (.new 19, 3) := by decide +kernel
theorem dX5_init_43 : decode cX5_init 43 = .ok (.dup, 1) := by decide +kernel
theorem dX5_init_44 : decode cX5_init 44 = .ok (.invokespecial 25, 3) := by decide +kernel
theorem dX5_init_47 : decode cX5_init 47 = .ok (.aastore, 1) := by decide +kernel
theorem dX5_init_48 : decode cX5_init 48 = .ok (.iinc 3 1, 3) := by decide +kernel
theorem dX5_init_51 : decode cX5_init 51 = .ok (.goto (-25), 3) := by decide +kernel
theorem dX5_init_54 : decode cX5_init 54 = .ok (.return_, 1) := by decide +kernel
theorem dX5_between_0 : decode cX5_between 0 = .ok (.iload_n 1, 1) := by decide +kernel
theorem dX5_between_1 : decode cX5_between 1 = .ok (.ifCond .lt 27, 3) := by decide +kernel
theorem dX5_between_4 : decode cX5_between 4 = .ok (.iload_n 1, 1) := by decide +kernel
theorem dX5_between_5 : decode cX5_between 5 = .ok (.aload_n 0, 1) := by decide +kernel
theorem dX5_between_6 : decode cX5_between 6 = .ok (.getfield 9, 3) := by decide +kernel
theorem dX5_between_9 : decode cX5_between 9 = .ok (.if_icmp .ge 19, 3) := by decide +kernel
theorem dX5_between_12 : decode cX5_between 12 = .ok (.iload_n 2, 1) := by decide +kernel
theorem dX5_between_13 : decode cX5_between 13 = .ok (.ifCond .lt 15, 3) := by decide +kernel
theorem dX5_between_16 : decode cX5_between 16 = .ok (.iload_n 2, 1) := by decide +kernel
theorem dX5_between_17 : decode cX5_between 17 = .ok (.aload_n 0, 1) := by decide +kernel
theorem dX5_between_18 : decode cX5_between 18 = .ok (.getfield 9, 3) := by decide +kernel
theorem dX5_between_21 : decode cX5_between 21 = .ok (.if_icmp .ge 7, 3) := by decide +kernel
theorem dX5_between_24 : decode cX5_between 24 = .ok (.iconst 1, 1) := by decide +kernel
theorem dX5_between_25 : decode cX5_between 25 = .ok (.goto 4, 3) := by decide +kernel
theorem dX5_between_28 : decode cX5_between 28 = .ok (.iconst 0, 1) := by decide +kernel
theorem dX5_between_29 : decode cX5_between 29 = .ok (.istore_n 3, 1) := by decide +kernel
theorem dX5_between_30 : decode cX5_between 30 = .ok (.iload_n 3, 1) := by decide +kernel
theorem dX5_between_31 : decode cX5_between 31 = .ok (.ifCond .eq 19, 3) := by decide +kernel
theorem dX5_between_34 : decode cX5_between 34 = .ok (.aload_n 0, 1) := by decide +kernel
theorem dX5_between_35 : decode cX5_between 35 = .ok (.getfield 21, 3) := by decide +kernel
theorem dX5_between_38 : decode cX5_between 38 = .ok (.iload_n 1, 1) := by decide +kernel
theorem dX5_between_39 : decode cX5_between 39 = .ok (.aload_n 0, 1) := by decide +kernel
theorem dX5_between_40 : decode cX5_between 40 = .ok (.getfield 9, 3) := by decide +kernel
theorem dX5_between_43 : decode cX5_between 43 = .ok (.imul, 1) := by decide +kernel
theorem dX5_between_44 : decode cX5_between 44 = .ok (.iload_n 2, 1) := by decide +kernel
theorem dX5_between_45 : decode cX5_between 45 = .ok (.iadd, 1) := by decide +kernel
theorem dX5_between_46 : decode cX5_between 46 = .ok (.aaload, 1) := by decide +kernel
theorem dX5_between_47 : decode cX5_between 47 = .ok (.goto 4, 3) := by decide +kernel
theorem dX5_between_50 : decode cX5_between 50 = .ok (.aconst_null, 1) := by decide +kernel
theorem dX5_between_51 : decode cX5_between 51 = .ok (.areturn, 1) := by decide +kernel
theorem dX5_takeOldest_0 : decode cX5_takeOldest 0 = .ok (.aload_n 1, 1) := by decide +kernel
theorem dX5_takeOldest_1 : decode cX5_takeOldest 1 = .ok (.invokevirtual 26, 3) := by decide +kernel
theorem dX5_takeOldest_4 : decode cX5_takeOldest 4 = .ok (.astore_n 2, 1) := by decide +kernel
theorem dX5_takeOldest_5 : decode cX5_takeOldest 5 = .ok (.aload_n 2, 1) := by decide +kernel
theorem dX5_takeOldest_6 : decode cX5_takeOldest 6 = .ok (.ifnull 13, 3) := by decide +kernel
theorem dX5_takeOldest_9 : decode cX5_takeOldest 9 = .ok (.aload_n 0, 1) := by decide +kernel
theorem dX5_takeOldest_10 : decode cX5_takeOldest 10 = .ok (.dup, 1) := by decide +kernel
theorem dX5_takeOldest_11 : decode cX5_takeOldest 11 = .ok (.getfield 30, 3) := by decide +kernel
theorem dX5_takeOldest_14 : decode cX5_takeOldest 14 = .ok (.iconst 1, 1) := by decide +kernel
theorem dX5_takeOldest_15 : decode cX5_takeOldest 15 = .ok (.isub, 1) := by decide +kernel
theorem dX5_takeOldest_16 : decode cX5_takeOldest 16 = .ok (.putfield 30, 3) := by decide +kernel
theorem dX5_takeOldest_19 : decode cX5_takeOldest 19 = .ok (.aload_n 2, 1) := by decide +kernel
theorem dX5_takeOldest_20 : decode cX5_takeOldest 20 = .ok (.areturn, 1) := by decide +kernel
theorem dX5_send_0 : decode cX5_send 0 = .ok (.iconst 0, 1) := by decide +kernel
theorem dX5_send_1 : decode cX5_send 1 = .ok (.istore 7, 2) := by decide +kernel
theorem dX5_send_3 : decode cX5_send 3 = .ok (.iload 7, 2) := by decide +kernel
theorem dX5_send_5 : decode cX5_send 5 = .ok (.aload_n 0, 1) := by decide +kernel
theorem dX5_send_6 : decode cX5_send 6 = .ok (.getfield 9, 3) := by decide +kernel
theorem dX5_send_9 : decode cX5_send 9 = .ok (.if_icmp .ge 103, 3) := by decide +kernel
theorem dX5_send_12 : decode cX5_send 12 = .ok (.iload_n 2, 1) := by decide +kernel
theorem dX5_send_13 : decode cX5_send 13 = .ok (.iload 7, 2) := by decide +kernel
theorem dX5_send_15 : decode cX5_send 15 = .ok (.invokestatic 33, 3) := by decide +kernel
theorem dX5_send_18 : decode cX5_send 18 = .ok (.ifCond .ne 6, 3) := by decide +kernel
theorem dX5_send_21 : decode cX5_send 21 = .ok (.goto 85, 3) := by decide +kernel
theorem dX5_send_24 : decode cX5_send 24 = .ok (.aload_n 0, 1) := by decide +kernel
theorem dX5_send_25 : decode cX5_send 25 = .ok (.getfield 15, 3) := by decide +kernel
theorem dX5_send_28 : decode cX5_send 28 = .ok (.dup, 1) := by decide +kernel
theorem dX5_send_29 : decode cX5_send 29 = .ok (.getfield 37, 3) := by decide +kernel
theorem dX5_send_32 : decode cX5_send 32 = .ok (.iconst 1, 1) := by decide +kernel
theorem dX5_send_33 : decode cX5_send 33 = .ok (.iadd, 1) := by decide +kernel
theorem dX5_send_34 : decode cX5_send 34 = .ok (.putfield 37, 3) := by decide +kernel
theorem dX5_send_37 : decode cX5_send 37 = .ok (.aload_n 0, 1) := by decide +kernel
theorem dX5_send_38 : decode cX5_send 38 = .ok (.iload_n 1, 1) := by decide +kernel
theorem dX5_send_39 : decode cX5_send 39 = .ok (.iload 7, 2) := by decide +kernel
theorem dX5_send_41 : decode cX5_send 41 = .ok (.invokevirtual 42, 3) := by decide +kernel
theorem dX5_send_44 : decode cX5_send 44 = .ok (.astore 8, 2) := by decide +kernel
theorem dX5_send_46 : decode cX5_send 46 = .ok (.aload 8, 2) := by decide +kernel
theorem dX5_send_48 : decode cX5_send 48 = .ok (.ifnull 13, 3) := by decide +kernel
theorem dX5_send_51 : decode cX5_send 51 = .ok (.aload_n 0, 1) := by decide +kernel
theorem dX5_send_52 : decode cX5_send 52 = .ok (.getfield 30, 3) := by decide +kernel
theorem dX5_send_55 : decode cX5_send 55 = .ok (.sipush 500, 3) := by decide +kernel
theorem dX5_send_58 : decode cX5_send 58 = .ok (.if_icmp .lt 19, 3) := by decide +kernel
theorem dX5_send_61 : decode cX5_send 61 = .ok (.aload_n 0, 1) := by decide +kernel
theorem dX5_send_62 : decode cX5_send 62 = .ok (.getfield 15, 3) := by decide +kernel
theorem dX5_send_65 : decode cX5_send 65 = .ok (.dup, 1) := by decide +kernel
theorem dX5_send_66 : decode cX5_send 66 = .ok (.getfield 46, 3) := by decide +kernel
theorem dX5_send_69 : decode cX5_send 69 = .ok (.iconst 1, 1) := by decide +kernel
theorem dX5_send_70 : decode cX5_send 70 = .ok (.iadd, 1) := by decide +kernel
theorem dX5_send_71 : decode cX5_send 71 = .ok (.putfield 46, 3) := by decide +kernel
theorem dX5_send_74 : decode cX5_send 74 = .ok (.goto 32, 3) := by decide +kernel
theorem dX5_send_77 : decode cX5_send 77 = .ok (.aload 8, 2) := by decide +kernel
theorem dX5_send_79 : decode cX5_send 79 = .ok (.new 49, 3) := by decide +kernel
theorem dX5_send_82 : decode cX5_send 82 = .ok (.dup, 1) := by decide +kernel
theorem dX5_send_83 : decode cX5_send 83 = .ok (.iload_n 3, 1) := by decide +kernel
theorem dX5_send_84 : decode cX5_send 84 = .ok (.iload 4, 2) := by decide +kernel
theorem dX5_send_86 : decode cX5_send 86 = .ok (.iload 5, 2) := by decide +kernel
theorem dX5_send_88 : decode cX5_send 88 = .ok (.aload 6, 2) := by decide +kernel
theorem dX5_send_90 : decode cX5_send 90 = .ok (.invokespecial 51, 3) := by decide +kernel
theorem dX5_send_93 : decode cX5_send 93 = .ok (.invokevirtual 54, 3) := by decide +kernel
theorem dX5_send_96 : decode cX5_send 96 = .ok (.aload_n 0, 1) := by decide +kernel
theorem dX5_send_97 : decode cX5_send 97 = .ok (.dup, 1) := by decide +kernel
theorem dX5_send_98 : decode cX5_send 98 = .ok (.getfield 30, 3) := by decide +kernel
theorem dX5_send_101 : decode cX5_send 101 = .ok (.iconst 1, 1) := by decide +kernel
theorem dX5_send_102 : decode cX5_send 102 = .ok (.iadd, 1) := by decide +kernel
theorem dX5_send_103 : decode cX5_send 103 = .ok (.putfield 30, 3) := by decide +kernel
theorem dX5_send_106 : decode cX5_send 106 = .ok (.iinc 7 1, 3) := by decide +kernel
theorem dX5_send_109 : decode cX5_send 109 = .ok (.goto (-106), 3) := by decide +kernel
theorem dX5_send_112 : decode cX5_send 112 = .ok (.return_, 1) := by decide +kernel
theorem dX6_init_0 : decode cX6_init 0 = .ok (.aload_n 0, 1) := by decide +kernel
theorem dX6_init_1 : decode cX6_init 1 = .ok (.invokespecial 3, 3) := by decide +kernel
theorem dX6_init_4 : decode cX6_init 4 = .ok (.aload_n 0, 1) := by decide +kernel
theorem dX6_init_5 : decode cX6_init 5 = .ok (.bipush 60, 2) := by decide +kernel
theorem dX6_init_7 : decode cX6_init 7 = .ok (.newarray .int, 2) := by decide +kernel
theorem dX6_init_9 : decode cX6_init 9 = .ok (.putfield 9, 3) := by decide +kernel
theorem dX6_init_12 : decode cX6_init 12 = .ok (.return_, 1) := by decide +kernel
theorem dX6_isFull_0 : decode cX6_isFull 0 = .ok (.aload_n 0, 1) := by decide +kernel
theorem dX6_isFull_1 : decode cX6_isFull 1 = .ok (.getfield 15, 3) := by decide +kernel
theorem dX6_isFull_4 : decode cX6_isFull 4 = .ok (.bipush 60, 2) := by decide +kernel
theorem dX6_isFull_6 : decode cX6_isFull 6 = .ok (.if_icmp .lt 7, 3) := by decide +kernel
theorem dX6_isFull_9 : decode cX6_isFull 9 = .ok (.iconst 1, 1) := by decide +kernel
theorem dX6_isFull_10 : decode cX6_isFull 10 = .ok (.goto 4, 3) := by decide +kernel
theorem dX6_isFull_13 : decode cX6_isFull 13 = .ok (.iconst 0, 1) := by decide +kernel
theorem dX6_isFull_14 : decode cX6_isFull 14 = .ok (.ireturn, 1) := by decide +kernel
theorem dX6_add_0 : decode cX6_add 0 = .ok (.aload_n 0, 1) := by decide +kernel
theorem dX6_add_1 : decode cX6_add 1 = .ok (.invokevirtual 19, 3) := by decide +kernel
theorem dX6_add_4 : decode cX6_add 4 = .ok (.ifCond .ne 23, 3) := by decide +kernel
theorem dX6_add_7 : decode cX6_add 7 = .ok (.aload_n 0, 1) := by decide +kernel
theorem dX6_add_8 : decode cX6_add 8 = .ok (.getfield 9, 3) := by decide +kernel
theorem dX6_add_11 : decode cX6_add 11 = .ok (.aload_n 0, 1) := by decide +kernel
theorem dX6_add_12 : decode cX6_add 12 = .ok (.getfield 15, 3) := by decide +kernel
theorem dX6_add_15 : decode cX6_add 15 = .ok (.iload_n 1, 1) := by decide +kernel
theorem dX6_add_16 : decode cX6_add 16 = .ok (.iastore, 1) := by decide +kernel
theorem dX6_add_17 : decode cX6_add 17 = .ok (.aload_n 0, 1) := by decide +kernel
theorem dX6_add_18 : decode cX6_add 18 = .ok (.dup, 1) := by decide +kernel
theorem dX6_add_19 : decode cX6_add 19 = .ok (.getfield 15, 3) := by decide +kernel
theorem dX6_add_22 : decode cX6_add 22 = .ok (.iconst 1, 1) := by decide +kernel
theorem dX6_add_23 : decode cX6_add 23 = .ok (.iadd, 1) := by decide +kernel
theorem dX6_add_24 : decode cX6_add 24 = .ok (.putfield 15, 3) := by decide +kernel
theorem dX6_add_27 : decode cX6_add 27 = .ok (.return_, 1) := by decide +kernel
theorem dX6_copy_0 : decode cX6_copy 0 = .ok (.aload_n 0, 1) := by decide +kernel
theorem dX6_copy_1 : decode cX6_copy 1 = .ok (.getfield 9, 3) := by decide +kernel
theorem dX6_copy_4 : decode cX6_copy 4 = .ok (.aload_n 0, 1) := by decide +kernel
theorem dX6_copy_5 : decode cX6_copy 5 = .ok (.getfield 15, 3) := by decide +kernel
theorem dX6_copy_8 : decode cX6_copy 8 = .ok (.invokestatic 23, 3) := by decide +kernel
theorem dX6_copy_11 : decode cX6_copy 11 = .ok (.areturn, 1) := by decide +kernel
theorem dX6_become_0 : decode cX6_become 0 = .ok (.aload_n 0, 1) := by decide +kernel
theorem dX6_become_1 : decode cX6_become 1 = .ok (.aload_n 1, 1) := by decide +kernel
theorem dX6_become_2 : decode cX6_become 2 = .ok (.arraylength, 1) := by decide +kernel
theorem dX6_become_3 : decode cX6_become 3 = .ok (.bipush 60, 2) := by decide +kernel
theorem dX6_become_5 : decode cX6_become 5 = .ok (.invokestatic 29, 3) := by decide +kernel
theorem dX6_become_8 : decode cX6_become 8 = .ok (.putfield 15, 3) := by decide +kernel
theorem dX6_become_11 : decode cX6_become 11 = .ok (.aload_n 1, 1) := by decide +kernel
theorem dX6_become_12 : decode cX6_become 12 = .ok (.iconst 0, 1) := by decide +kernel
theorem dX6_become_13 : decode cX6_become 13 = .ok (.aload_n 0, 1) := by decide +kernel
theorem dX6_become_14 : decode cX6_become 14 = .ok (.getfield 9, 3) := by decide +kernel
theorem dX6_become_17 : decode cX6_become 17 = .ok (.iconst 0, 1) := by decide +kernel
theorem dX6_become_18 : decode cX6_become 18 = .ok (.aload_n 0, 1) := by decide +kernel
end
section
theorem dX6_become_19 : decode cX6_become 19 = .ok (.getfield 15, 3) := by decide +kernel
theorem dX6_become_22 : decode cX6_become 22 = .ok (.invokestatic 35, 3) := by decide +kernel
theorem dX6_become_25 : decode cX6_become 25 = .ok (.return_, 1) := by decide +kernel
theorem dX7_init_0 : decode cX7_init 0 = .ok (.aload_n 0, 1) := by decide +kernel
theorem dX7_init_1 : decode cX7_init 1 = .ok (.invokespecial 3, 3) := by decide +kernel
theorem dX7_init_4 : decode cX7_init 4 = .ok (.return_, 1) := by decide +kernel
theorem dX7_tell_0 : decode cX7_tell 0 = .ok (.iload_n 1, 1) := by decide +kernel
theorem dX7_tell_1 : decode cX7_tell 1 = .ok (.tableswitch 60 0 4 #[35, 40, 45, 50, 55], 35) := by decide +kernel
theorem dX7_tell_36 : decode cX7_tell 36 = .ok (.aload_n 0, 1) := by decide +kernel
theorem dX7_tell_37 : decode cX7_tell 37 = .ok (.getfield 9, 3) := by decide +kernel
theorem dX7_tell_40 : decode cX7_tell 40 = .ok (.ireturn, 1) := by decide +kernel
theorem dX7_tell_41 : decode cX7_tell 41 = .ok (.aload_n 0, 1) := by decide +kernel
theorem dX7_tell_42 : decode cX7_tell 42 = .ok (.getfield 15, 3) := by decide +kernel
theorem dX7_tell_45 : decode cX7_tell 45 = .ok (.ireturn, 1) := by decide +kernel
theorem dX7_tell_46 : decode cX7_tell 46 = .ok (.aload_n 0, 1) := by decide +kernel
theorem dX7_tell_47 : decode cX7_tell 47 = .ok (.getfield 18, 3) := by decide +kernel
theorem dX7_tell_50 : decode cX7_tell 50 = .ok (.ireturn, 1) := by decide +kernel
theorem dX7_tell_51 : decode cX7_tell 51 = .ok (.aload_n 0, 1) := by decide +kernel
theorem dX7_tell_52 : decode cX7_tell 52 = .ok (.getfield 21, 3) := by decide +kernel
theorem dX7_tell_55 : decode cX7_tell 55 = .ok (.ireturn, 1) := by decide +kernel
theorem dX7_tell_56 : decode cX7_tell 56 = .ok (.aload_n 0, 1) := by decide +kernel
theorem dX7_tell_57 : decode cX7_tell 57 = .ok (.getfield 24, 3) := by decide +kernel
theorem dX7_tell_60 : decode cX7_tell 60 = .ok (.ireturn, 1) := by decide +kernel
theorem dX7_tell_61 : decode cX7_tell 61 = .ok (.iconst (-1), 1) := by decide +kernel
theorem dX7_tell_62 : decode cX7_tell 62 = .ok (.ireturn, 1) := by decide +kernel
theorem dX8_init_0 : decode cX8_init 0 = .ok (.aload_n 0, 1) := by decide +kernel
theorem dX8_init_1 : decode cX8_init 1 = .ok (.invokespecial 3, 3) := by decide +kernel
theorem dX8_init_4 : decode cX8_init 4 = .ok (.iload_n 1, 1) := by decide +kernel
theorem dX8_init_5 : decode cX8_init 5 = .ok (.iconst 2, 1) := by decide +kernel
theorem dX8_init_6 : decode cX8_init 6 = .ok (.if_icmp .lt 13, 3) := by decide +kernel
theorem dX8_init_9 : decode cX8_init 9 = .ok (.iload_n 1, 1) := by decide +kernel
theorem dX8_init_10 : decode cX8_init 10 = .ok (.bipush 7, 2) := by decide +kernel
theorem dX8_init_12 : decode cX8_init 12 = .ok (.if_icmp .gt 7, 3) := by decide +kernel
theorem dX8_init_15 : decode cX8_init 15 = .ok (.iload_n 1, 1) := by decide +kernel
theorem dX8_init_16 : decode cX8_init 16 = .ok (.goto 4, 3) := by decide +kernel
theorem dX8_init_19 : decode cX8_init 19 = .ok (.iconst 3, 1) := by decide +kernel
theorem dX8_init_20 : decode cX8_init 20 = .ok (.istore_n 2, 1) := by decide +kernel
theorem dX8_init_21 : decode cX8_init 21 = .ok (.aload_n 0, 1) := by decide +kernel
theorem dX8_init_22 : decode cX8_init 22 = .ok (.new 9, 3) := by decide +kernel
theorem dX8_init_25 : decode cX8_init 25 = .ok (.dup, 1) := by decide +kernel
theorem dX8_init_26 : decode cX8_init 26 = .ok (.invokespecial 11, 3) := by decide +kernel
theorem dX8_init_29 : decode cX8_init 29 = .ok (.putfield 12, 3) := by decide +kernel
theorem dX8_init_32 : decode cX8_init 32 = .ok (.aload_n 0, 1) := by decide +kernel
theorem dX8_init_33 : decode cX8_init 33 = .ok (.new 16, 3) := by decide +kernel
theorem dX8_init_36 : decode cX8_init 36 = .ok (.dup, 1) := by decide +kernel
theorem dX8_init_37 : decode cX8_init 37 = .ok (.iload_n 2, 1) := by decide +kernel
theorem dX8_init_38 : decode cX8_init 38 = .ok (.aload_n 0, 1) := by decide +kernel
theorem dX8_init_39 : decode cX8_init 39 = .ok (.getfield 12, 3) := by decide +kernel
theorem dX8_init_42 : decode cX8_init 42 = .ok (.invokespecial 18, 3) := by decide +kernel
theorem dX8_init_45 : decode cX8_init 45 = .ok (.putfield 21, 3) := by decide +kernel
theorem dX8_init_48 : decode cX8_init 48 = .ok (.aload_n 0, 1) := by decide +kernel
theorem dX8_init_49 : decode cX8_init 49 = .ok (.iload_n 2, 1) := by decide +kernel
theorem dX8_init_50 : decode cX8_init 50 = .ok (.anewarray 25, 3) := by decide +kernel
theorem dX8_init_53 : decode cX8_init 53 = .ok (.putfield 27, 3) := by decide +kernel
theorem dX8_init_56 : decode cX8_init 56 = .ok (.iconst 0, 1) := by decide +kernel
theorem dX8_init_57 : decode cX8_init 57 = .ok (.istore_n 3, 1) := by decide +kernel
theorem dX8_init_58 : decode cX8_init 58 = .ok (.iload_n 3, 1) := by decide +kernel
theorem dX8_init_59 : decode cX8_init 59 = .ok (.iload_n 2, 1) := by decide +kernel
theorem dX8_init_60 : decode cX8_init 60 = .ok (.if_icmp .ge 32, 3) := by decide +kernel
theorem dX8_init_63 : decode cX8_init 63 = .ok (.aload_n 0, 1) := by decide +kernel
theorem dX8_init_64 : decode cX8_init 64 = .ok (.getfield 27, 3) := by decide +kernel
theorem dX8_init_67 : decode cX8_init 67 = .ok (.iload_n 3, 1) := by decide +kernel
theorem dX8_init_68 : decode cX8_init 68 = .ok (.new 25, 3) := by decide +kernel
theorem dX8_init_71 : decode cX8_init 71 = .ok (.dup, 1) := by decide +kernel
theorem dX8_init_72 : decode cX8_init 72 = .ok (.iload_n 3, 1) := by decide +kernel
theorem dX8_init_73 : decode cX8_init 73 = .ok (.iload_n 2, 1) := by decide +kernel
theorem dX8_init_74 : decode cX8_init 74 = .ok (.aload_n 0, 1) := by decide +kernel
theorem dX8_init_75 : decode cX8_init 75 = .ok (.getfield 21, 3) := by decide +kernel
theorem dX8_init_78 : decode cX8_init 78 = .ok (.aload_n 0, 1) := by decide +kernel
theorem dX8_init_79 : decode cX8_init 79 = .ok (.getfield 12, 3) := by decide +kernel
theorem dX8_init_82 : decode cX8_init 82 = .ok (.invokespecial 31, 3) := by decide +kernel
theorem dX8_init_85 : decode cX8_init 85 = .ok (.aastore, 1) := by decide +kernel
theorem dX8_init_86 : decode cX8_init 86 = .ok (.iinc 3 1, 3) := by decide +kernel
theorem dX8_init_89 : decode cX8_init 89 = .ok (.goto (-31), 3) := by decide +kernel
theorem dX8_init_92 : decode cX8_init 92 = .ok (.return_, 1) := by decide +kernel
theorem dX8_submit_0 : decode cX8_submit 0 = .ok (.aload_n 0, 1) := by decide +kernel
theorem dX8_submit_1 : decode cX8_submit 1 = .ok (.iload_n 1, 1) := by decide +kernel
theorem dX8_submit_2 : decode cX8_submit 2 = .ok (.invokevirtual 34, 3) := by decide +kernel
theorem dX8_submit_5 : decode cX8_submit 5 = .ok (.astore_n 3, 1) := by decide +kernel
theorem dX8_submit_6 : decode cX8_submit 6 = .ok (.aload_n 3, 1) := by decide +kernel
theorem dX8_submit_7 : decode cX8_submit 7 = .ok (.ifnull 10, 3) := by decide +kernel
theorem dX8_submit_10 : decode cX8_submit 10 = .ok (.iload_n 2, 1) := by decide +kernel
theorem dX8_submit_11 : decode cX8_submit 11 = .ok (.invokestatic 38, 3) := by decide +kernel
theorem dX8_submit_14 : decode cX8_submit 14 = .ok (.ifCond .ne 5, 3) := by decide +kernel
theorem dX8_submit_17 : decode cX8_submit 17 = .ok (.iconst (-1), 1) := by decide +kernel
theorem dX8_submit_18 : decode cX8_submit 18 = .ok (.ireturn, 1) := by decide +kernel
theorem dX8_submit_19 : decode cX8_submit 19 = .ok (.aload_n 3, 1) := by decide +kernel
theorem dX8_submit_20 : decode cX8_submit 20 = .ok (.invokevirtual 42, 3) := by decide +kernel
theorem dX8_submit_23 : decode cX8_submit 23 = .ok (.ifCond .eq 11, 3) := by decide +kernel
theorem dX8_submit_26 : decode cX8_submit 26 = .ok (.aload_n 3, 1) := by decide +kernel
theorem dX8_submit_27 : decode cX8_submit 27 = .ok (.iload_n 2, 1) := by decide +kernel
theorem dX8_submit_28 : decode cX8_submit 28 = .ok (.invokevirtual 46, 3) := by decide +kernel
theorem dX8_submit_31 : decode cX8_submit 31 = .ok (.goto 4, 3) := by decide +kernel
theorem dX8_submit_34 : decode cX8_submit 34 = .ok (.iconst 0, 1) := by decide +kernel
theorem dX8_submit_35 : decode cX8_submit 35 = .ok (.ireturn, 1) := by decide +kernel
theorem dX8_deliver_0 : decode cX8_deliver 0 = .ok (.aload_n 0, 1) := by decide +kernel
theorem dX8_deliver_1 : decode cX8_deliver 1 = .ok (.iload_n 2, 1) := by decide +kernel
theorem dX8_deliver_2 : decode cX8_deliver 2 = .ok (.invokevirtual 34, 3) := by decide +kernel
theorem dX8_deliver_5 : decode cX8_deliver 5 = .ok (.astore_n 3, 1) := by decide +kernel
theorem dX8_deliver_6 : decode cX8_deliver 6 = .ok (.aload_n 0, 1) := by decide +kernel
theorem dX8_deliver_7 : decode cX8_deliver 7 = .ok (.getfield 21, 3) := by decide +kernel
theorem dX8_deliver_10 : decode cX8_deliver 10 = .ok (.iload_n 1, 1) := by decide +kernel
theorem dX8_deliver_11 : decode cX8_deliver 11 = .ok (.iload_n 2, 1) := by decide +kernel
theorem dX8_deliver_12 : decode cX8_deliver 12 = .ok (.invokevirtual 50, 3) := by decide +kernel
theorem dX8_deliver_15 : decode cX8_deliver 15 = .ok (.astore 4, 2) := by decide +kernel
theorem dX8_deliver_17 : decode cX8_deliver 17 = .ok (.aload_n 3, 1) := by decide +kernel
theorem dX8_deliver_18 : decode cX8_deliver 18 = .ok (.ifnull 8, 3) := by decide +kernel
theorem dX8_deliver_21 : decode cX8_deliver 21 = .ok (.aload 4, 2) := by decide +kernel
theorem dX8_deliver_23 : decode cX8_deliver 23 = .ok (.ifnonnull 5, 3) := by decide +kernel
theorem dX8_deliver_26 : decode cX8_deliver 26 = .ok (.iconst (-1), 1) := by decide +kernel
theorem dX8_deliver_27 : decode cX8_deliver 27 = .ok (.ireturn, 1) := by decide +kernel
theorem dX8_deliver_28 : decode cX8_deliver 28 = .ok (.aload_n 0, 1) := by decide +kernel
theorem dX8_deliver_29 : decode cX8_deliver 29 = .ok (.getfield 21, 3) := by decide +kernel
theorem dX8_deliver_32 : decode cX8_deliver 32 = .ok (.aload 4, 2) := by decide +kernel
theorem dX8_deliver_34 : decode cX8_deliver 34 = .ok (.invokevirtual 54, 3) := by decide +kernel
theorem dX8_deliver_37 : decode cX8_deliver 37 = .ok (.astore 5, 2) := by decide +kernel
theorem dX8_deliver_39 : decode cX8_deliver 39 = .ok (.aload 5, 2) := by decide +kernel
theorem dX8_deliver_41 : decode cX8_deliver 41 = .ok (.ifnonnull 5, 3) := by decide +kernel
theorem dX8_deliver_44 : decode cX8_deliver 44 = .ok (.iconst 0, 1) := by decide +kernel
theorem dX8_deliver_45 : decode cX8_deliver 45 = .ok (.ireturn, 1) := by decide +kernel
theorem dX8_deliver_46 : decode cX8_deliver 46 = .ok (.aload_n 3, 1) := by decide +kernel
theorem dX8_deliver_47 : decode cX8_deliver 47 = .ok (.invokevirtual 42, 3) := by decide +kernel
theorem dX8_deliver_50 : decode cX8_deliver 50 = .ok (.ifCond .ne 25, 3) := by decide +kernel
theorem dX8_deliver_53 : decode cX8_deliver 53 = .ok (.aload_n 0, 1) := by decide +kernel
theorem dX8_deliver_54 : decode cX8_deliver 54 = .ok (.getfield 12, 3) := by decide +kernel
theorem dX8_deliver_57 : decode cX8_deliver 57 = .ok (.dup, 1) := by decide +kernel
theorem dX8_deliver_58 : decode cX8_deliver 58 = .ok (.getfield 58, 3) := by decide +kernel
theorem dX8_deliver_61 : decode cX8_deliver 61 = .ok (.iconst 1, 1) := by decide +kernel
theorem dX8_deliver_62 : decode cX8_deliver 62 = .ok (.iadd, 1) := by decide +kernel
theorem dX8_deliver_63 : decode cX8_deliver 63 = .ok (.putfield 58, 3) := by decide +kernel
theorem dX8_deliver_66 : decode cX8_deliver 66 = .ok (.bipush 20, 2) := by decide +kernel
theorem dX8_deliver_68 : decode cX8_deliver 68 = .ok (.aload 5, 2) := by decide +kernel
theorem dX8_deliver_70 : decode cX8_deliver 70 = .ok (.getfield 62, 3) := by decide +kernel
theorem dX8_deliver_73 : decode cX8_deliver 73 = .ok (.iadd, 1) := by decide +kernel
theorem dX8_deliver_74 : decode cX8_deliver 74 = .ok (.ireturn, 1) := by decide +kernel
theorem dX8_deliver_75 : decode cX8_deliver 75 = .ok (.aload_n 3, 1) := by decide +kernel
theorem dX8_deliver_76 : decode cX8_deliver 76 = .ok (.iload_n 1, 1) := by decide +kernel
theorem dX8_deliver_77 : decode cX8_deliver 77 = .ok (.aload 5, 2) := by decide +kernel
theorem dX8_deliver_79 : decode cX8_deliver 79 = .ok (.invokevirtual 67, 3) := by decide +kernel
theorem dX8_deliver_82 : decode cX8_deliver 82 = .ok (.aload_n 3, 1) := by decide +kernel
theorem dX8_deliver_83 : decode cX8_deliver 83 = .ok (.invokevirtual 71, 3) := by decide +kernel
theorem dX8_deliver_86 : decode cX8_deliver 86 = .ok (.aload 5, 2) := by decide +kernel
theorem dX8_deliver_88 : decode cX8_deliver 88 = .ok (.getfield 62, 3) := by decide +kernel
theorem dX8_deliver_91 : decode cX8_deliver 91 = .ok (.ireturn, 1) := by decide +kernel
theorem dX8_suspect_0 : decode cX8_suspect 0 = .ok (.aload_n 0, 1) := by decide +kernel
theorem dX8_suspect_1 : decode cX8_suspect 1 = .ok (.iload_n 1, 1) := by decide +kernel
theorem dX8_suspect_2 : decode cX8_suspect 2 = .ok (.invokevirtual 34, 3) := by decide +kernel
theorem dX8_suspect_5 : decode cX8_suspect 5 = .ok (.astore_n 3, 1) := by decide +kernel
theorem dX8_suspect_6 : decode cX8_suspect 6 = .ok (.aload_n 3, 1) := by decide +kernel
theorem dX8_suspect_7 : decode cX8_suspect 7 = .ok (.ifnull 11, 3) := by decide +kernel
theorem dX8_suspect_10 : decode cX8_suspect 10 = .ok (.aload_n 0, 1) := by decide +kernel
theorem dX8_suspect_11 : decode cX8_suspect 11 = .ok (.iload_n 2, 1) := by decide +kernel
theorem dX8_suspect_12 : decode cX8_suspect 12 = .ok (.invokevirtual 34, 3) := by decide +kernel
theorem dX8_suspect_15 : decode cX8_suspect 15 = .ok (.ifnonnull 5, 3) := by decide +kernel
theorem dX8_suspect_18 : decode cX8_suspect 18 = .ok (.iconst (-1), 1) := by decide +kernel
theorem dX8_suspect_19 : decode cX8_suspect 19 = .ok (.ireturn, 1) := by decide +kernel
theorem dX8_suspect_20 : decode cX8_suspect 20 = .ok (.iload_n 1, 1) := by decide +kernel
theorem dX8_suspect_21 : decode cX8_suspect 21 = .ok (.iload_n 2, 1) := by decide +kernel
theorem dX8_suspect_22 : decode cX8_suspect 22 = .ok (.if_icmp .eq 21, 3) := by decide +kernel
theorem dX8_suspect_25 : decode cX8_suspect 25 = .ok (.aload_n 3, 1) := by decide +kernel
theorem dX8_suspect_26 : decode cX8_suspect 26 = .ok (.invokevirtual 42, 3) := by decide +kernel
theorem dX8_suspect_29 : decode cX8_suspect 29 = .ok (.ifCond .eq 14, 3) := by decide +kernel
theorem dX8_suspect_32 : decode cX8_suspect 32 = .ok (.aload_n 3, 1) := by decide +kernel
theorem dX8_suspect_33 : decode cX8_suspect 33 = .ok (.getfield 74, 3) := by decide +kernel
theorem dX8_suspect_36 : decode cX8_suspect 36 = .ok (.iload_n 2, 1) := by decide +kernel
theorem dX8_suspect_37 : decode cX8_suspect 37 = .ok (.invokestatic 77, 3) := by decide +kernel
theorem dX8_suspect_40 : decode cX8_suspect 40 = .ok (.ifCond .eq 5, 3) := by decide +kernel
theorem dX8_suspect_43 : decode cX8_suspect 43 = .ok (.iconst 0, 1) := by decide +kernel
theorem dX8_suspect_44 : decode cX8_suspect 44 = .ok (.ireturn, 1) := by decide +kernel
theorem dX8_suspect_45 : decode cX8_suspect 45 = .ok (.aload_n 3, 1) := by decide +kernel
theorem dX8_suspect_46 : decode cX8_suspect 46 = .ok (.iload_n 2, 1) := by decide +kernel
theorem dX8_suspect_47 : decode cX8_suspect 47 = .ok (.invokevirtual 81, 3) := by decide +kernel
theorem dX8_suspect_50 : decode cX8_suspect 50 = .ok (.aload_n 3, 1) := by decide +kernel
theorem dX8_suspect_51 : decode cX8_suspect 51 = .ok (.invokevirtual 71, 3) := by decide +kernel
theorem dX8_suspect_54 : decode cX8_suspect 54 = .ok (.iconst 1, 1) := by decide +kernel
theorem dX8_suspect_55 : decode cX8_suspect 55 = .ok (.ireturn, 1) := by decide +kernel
theorem dX8_crash_0 : decode cX8_crash 0 = .ok (.aload_n 0, 1) := by decide +kernel
theorem dX8_crash_1 : decode cX8_crash 1 = .ok (.iload_n 1, 1) := by decide +kernel
theorem dX8_crash_2 : decode cX8_crash 2 = .ok (.invokevirtual 34, 3) := by decide +kernel
theorem dX8_crash_5 : decode cX8_crash 5 = .ok (.astore_n 2, 1) := by decide +kernel
theorem dX8_crash_6 : decode cX8_crash 6 = .ok (.aload_n 2, 1) := by decide +kernel
theorem dX8_crash_7 : decode cX8_crash 7 = .ok (.ifnull 10, 3) := by decide +kernel
theorem dX8_crash_10 : decode cX8_crash 10 = .ok (.aload_n 2, 1) := by decide +kernel
theorem dX8_crash_11 : decode cX8_crash 11 = .ok (.invokevirtual 42, 3) := by decide +kernel
theorem dX8_crash_14 : decode cX8_crash 14 = .ok (.ifCond .ne 5, 3) := by decide +kernel
theorem dX8_crash_17 : decode cX8_crash 17 = .ok (.iconst 0, 1) := by decide +kernel
theorem dX8_crash_18 : decode cX8_crash 18 = .ok (.ireturn, 1) := by decide +kernel
theorem dX8_crash_19 : decode cX8_crash 19 = .ok (.aload_n 2, 1) := by decide +kernel
theorem dX8_crash_20 : decode cX8_crash 20 = .ok (.iconst 1, 1) := by decide +kernel
theorem dX8_crash_21 : decode cX8_crash 21 = .ok (.putfield 85, 3) := by decide +kernel
theorem dX8_crash_24 : decode cX8_crash 24 = .ok (.iconst 1, 1) := by decide +kernel
theorem dX8_crash_25 : decode cX8_crash 25 = .ok (.ireturn, 1) := by decide +kernel
theorem dX8_timeout_0 : decode cX8_timeout 0 = .ok (.aload_n 0, 1) := by decide +kernel
theorem dX8_timeout_1 : decode cX8_timeout 1 = .ok (.iload_n 1, 1) := by decide +kernel
theorem dX8_timeout_2 : decode cX8_timeout 2 = .ok (.invokevirtual 34, 3) := by decide +kernel
theorem dX8_timeout_5 : decode cX8_timeout 5 = .ok (.astore_n 2, 1) := by decide +kernel
theorem dX8_timeout_6 : decode cX8_timeout 6 = .ok (.aload_n 2, 1) := by decide +kernel
theorem dX8_timeout_7 : decode cX8_timeout 7 = .ok (.ifnonnull 5, 3) := by decide +kernel
theorem dX8_timeout_10 : decode cX8_timeout 10 = .ok (.iconst (-1), 1) := by decide +kernel
theorem dX8_timeout_11 : decode cX8_timeout 11 = .ok (.ireturn, 1) := by decide +kernel
theorem dX8_timeout_12 : decode cX8_timeout 12 = .ok (.aload_n 2, 1) := by decide +kernel
theorem dX8_timeout_13 : decode cX8_timeout 13 = .ok (.invokevirtual 42, 3) := by decide +kernel
theorem dX8_timeout_16 : decode cX8_timeout 16 = .ok (.ifCond .eq 10, 3) := by decide +kernel
theorem dX8_timeout_19 : decode cX8_timeout 19 = .ok (.aload_n 2, 1) := by decide +kernel
theorem dX8_timeout_20 : decode cX8_timeout 20 = .ok (.getfield 88, 3) := by decide +kernel
theorem dX8_timeout_23 : decode cX8_timeout 23 = .ok (.ifCond .ne 5, 3) := by decide +kernel
theorem dX8_timeout_26 : decode cX8_timeout 26 = .ok (.iconst 0, 1) := by decide +kernel
theorem dX8_timeout_27 : decode cX8_timeout 27 = .ok (.ireturn, 1) := by decide +kernel
theorem dX8_timeout_28 : decode cX8_timeout 28 = .ok (.aload_n 2, 1) := by decide +kernel
theorem dX8_timeout_29 : decode cX8_timeout 29 = .ok (.invokevirtual 91, 3) := by decide +kernel
theorem dX8_timeout_32 : decode cX8_timeout 32 = .ok (.aload_n 2, 1) := by decide +kernel
theorem dX8_timeout_33 : decode cX8_timeout 33 = .ok (.invokevirtual 71, 3) := by decide +kernel
theorem dX8_timeout_36 : decode cX8_timeout 36 = .ok (.iconst 1, 1) := by decide +kernel
theorem dX8_timeout_37 : decode cX8_timeout 37 = .ok (.ireturn, 1) := by decide +kernel
theorem dX8_node_0 : decode cX8_node 0 = .ok (.aload_n 0, 1) := by decide +kernel
theorem dX8_node_1 : decode cX8_node 1 = .ok (.iload_n 1, 1) := by decide +kernel
theorem dX8_node_2 : decode cX8_node 2 = .ok (.invokevirtual 34, 3) := by decide +kernel
theorem dX8_node_5 : decode cX8_node 5 = .ok (.astore_n 3, 1) := by decide +kernel
theorem dX8_node_6 : decode cX8_node 6 = .ok (.aload_n 3, 1) := by decide +kernel
theorem dX8_node_7 : decode cX8_node 7 = .ok (.ifnonnull 7, 3) := by decide +kernel
theorem dX8_node_10 : decode cX8_node 10 = .ok (.iconst (-1), 1) := by decide +kernel
theorem dX8_node_11 : decode cX8_node 11 = .ok (.goto 8, 3) := by decide +kernel
theorem dX8_node_14 : decode cX8_node 14 = .ok (.aload_n 3, 1) := by decide +kernel
theorem dX8_node_15 : decode cX8_node 15 = .ok (.iload_n 2, 1) := by decide +kernel
theorem dX8_node_16 : decode cX8_node 16 = .ok (.invokevirtual 94, 3) := by decide +kernel
theorem dX8_node_19 : decode cX8_node 19 = .ok (.ireturn, 1) := by decide +kernel
theorem dX8_held_0 : decode cX8_held 0 = .ok (.aload_n 0, 1) := by decide +kernel
theorem dX8_held_1 : decode cX8_held 1 = .ok (.iload_n 1, 1) := by decide +kernel
theorem dX8_held_2 : decode cX8_held 2 = .ok (.invokevirtual 34, 3) := by decide +kernel
theorem dX8_held_5 : decode cX8_held 5 = .ok (.astore_n 3, 1) := by decide +kernel
theorem dX8_held_6 : decode cX8_held 6 = .ok (.aload_n 3, 1) := by decide +kernel
theorem dX8_held_7 : decode cX8_held 7 = .ok (.ifnull 18, 3) := by decide +kernel
theorem dX8_held_10 : decode cX8_held 10 = .ok (.iload_n 2, 1) := by decide +kernel
theorem dX8_held_11 : decode cX8_held 11 = .ok (.ifCond .lt 14, 3) := by decide +kernel
theorem dX8_held_14 : decode cX8_held 14 = .ok (.iload_n 2, 1) := by decide +kernel
theorem dX8_held_15 : decode cX8_held 15 = .ok (.aload_n 3, 1) := by decide +kernel
theorem dX8_held_16 : decode cX8_held 16 = .ok (.getfield 97, 3) := by decide +kernel
theorem dX8_held_19 : decode cX8_held 19 = .ok (.getfield 101, 3) := by decide +kernel
theorem dX8_held_22 : decode cX8_held 22 = .ok (.if_icmp .lt 6, 3) := by decide +kernel
theorem dX8_held_25 : decode cX8_held 25 = .ok (.ldc 106, 2) := by decide +kernel
theorem dX8_held_27 : decode cX8_held 27 = .ok (.ireturn, 1) := by decide +kernel
theorem dX8_held_28 : decode cX8_held 28 = .ok (.aload_n 3, 1) := by decide +kernel
theorem dX8_held_29 : decode cX8_held 29 = .ok (.getfield 97, 3) := by decide +kernel
theorem dX8_held_32 : decode cX8_held 32 = .ok (.getfield 107, 3) := by decide +kernel
theorem dX8_held_35 : decode cX8_held 35 = .ok (.iload_n 2, 1) := by decide +kernel
theorem dX8_held_36 : decode cX8_held 36 = .ok (.iaload, 1) := by decide +kernel
theorem dX8_held_37 : decode cX8_held 37 = .ok (.ireturn, 1) := by decide +kernel
theorem dX8_depth_0 : decode cX8_depth 0 = .ok (.aload_n 0, 1) := by decide +kernel
theorem dX8_depth_1 : decode cX8_depth 1 = .ok (.iload_n 1, 1) := by decide +kernel
theorem dX8_depth_2 : decode cX8_depth 2 = .ok (.invokevirtual 34, 3) := by decide +kernel
theorem dX8_depth_5 : decode cX8_depth 5 = .ok (.astore_n 2, 1) := by decide +kernel
theorem dX8_depth_6 : decode cX8_depth 6 = .ok (.aload_n 2, 1) := by decide +kernel
theorem dX8_depth_7 : decode cX8_depth 7 = .ok (.ifnonnull 7, 3) := by decide +kernel
theorem dX8_depth_10 : decode cX8_depth 10 = .ok (.iconst (-1), 1) := by decide +kernel
theorem dX8_depth_11 : decode cX8_depth 11 = .ok (.goto 10, 3) := by decide +kernel
theorem dX8_depth_14 : decode cX8_depth 14 = .ok (.aload_n 2, 1) := by decide +kernel
theorem dX8_depth_15 : decode cX8_depth 15 = .ok (.getfield 111, 3) := by decide +kernel
theorem dX8_depth_18 : decode cX8_depth 18 = .ok (.getfield 115, 3) := by decide +kernel
theorem dX8_depth_21 : decode cX8_depth 21 = .ok (.ireturn, 1) := by decide +kernel
theorem dX8_top_0 : decode cX8_top 0 = .ok (.aload_n 0, 1) := by decide +kernel
theorem dX8_top_1 : decode cX8_top 1 = .ok (.iload_n 1, 1) := by decide +kernel
theorem dX8_top_2 : decode cX8_top 2 = .ok (.invokevirtual 34, 3) := by decide +kernel
theorem dX8_top_5 : decode cX8_top 5 = .ok (.astore_n 3, 1) := by decide +kernel
theorem dX8_top_6 : decode cX8_top 6 = .ok (.aload_n 3, 1) := by decide +kernel
theorem dX8_top_7 : decode cX8_top 7 = .ok (.ifnonnull 7, 3) := by decide +kernel
theorem dX8_top_10 : decode cX8_top 10 = .ok (.iconst 0, 1) := by decide +kernel
theorem dX8_top_11 : decode cX8_top 11 = .ok (.goto 11, 3) := by decide +kernel
theorem dX8_top_14 : decode cX8_top 14 = .ok (.aload_n 3, 1) := by decide +kernel
theorem dX8_top_15 : decode cX8_top 15 = .ok (.getfield 111, 3) := by decide +kernel
theorem dX8_top_18 : decode cX8_top 18 = .ok (.iload_n 2, 1) := by decide +kernel
theorem dX8_top_19 : decode cX8_top 19 = .ok (.invokevirtual 118, 3) := by decide +kernel
theorem dX8_top_22 : decode cX8_top 22 = .ok (.ireturn, 1) := by decide +kernel
theorem dX8_flying_0 : decode cX8_flying 0 = .ok (.iload_n 1, 1) := by decide +kernel
theorem dX8_flying_1 : decode cX8_flying 1 = .ok (.iconst (-1), 1) := by decide +kernel
theorem dX8_flying_2 : decode cX8_flying 2 = .ok (.if_icmp .ne 11, 3) := by decide +kernel
theorem dX8_flying_5 : decode cX8_flying 5 = .ok (.aload_n 0, 1) := by decide +kernel
theorem dX8_flying_6 : decode cX8_flying 6 = .ok (.getfield 21, 3) := by decide +kernel
theorem dX8_flying_9 : decode cX8_flying 9 = .ok (.getfield 121, 3) := by decide +kernel
theorem dX8_flying_12 : decode cX8_flying 12 = .ok (.ireturn, 1) := by decide +kernel
theorem dX8_flying_13 : decode cX8_flying 13 = .ok (.aload_n 0, 1) := by decide +kernel
theorem dX8_flying_14 : decode cX8_flying 14 = .ok (.getfield 21, 3) := by decide +kernel
theorem dX8_flying_17 : decode cX8_flying 17 = .ok (.iload_n 1, 1) := by decide +kernel
theorem dX8_flying_18 : decode cX8_flying 18 = .ok (.iload_n 2, 1) := by decide +kernel
theorem dX8_flying_19 : decode cX8_flying 19 = .ok (.invokevirtual 50, 3) := by decide +kernel
theorem dX8_flying_22 : decode cX8_flying 22 = .ok (.astore_n 3, 1) := by decide +kernel
theorem dX8_flying_23 : decode cX8_flying 23 = .ok (.aload_n 3, 1) := by decide +kernel
theorem dX8_flying_24 : decode cX8_flying 24 = .ok (.ifnonnull 7, 3) := by decide +kernel
theorem dX8_flying_27 : decode cX8_flying 27 = .ok (.iconst (-1), 1) := by decide +kernel
theorem dX8_flying_28 : decode cX8_flying 28 = .ok (.goto 7, 3) := by decide +kernel
theorem dX8_flying_31 : decode cX8_flying 31 = .ok (.aload_n 3, 1) := by decide +kernel
theorem dX8_flying_32 : decode cX8_flying 32 = .ok (.getfield 124, 3) := by decide +kernel
theorem dX8_flying_35 : decode cX8_flying 35 = .ok (.ireturn, 1) := by decide +kernel
theorem dX8_letter_0 : decode cX8_letter 0 = .ok (.aload_n 0, 1) := by decide +kernel
theorem dX8_letter_1 : decode cX8_letter 1 = .ok (.getfield 21, 3) := by decide +kernel
theorem dX8_letter_4 : decode cX8_letter 4 = .ok (.iload_n 1, 1) := by decide +kernel
theorem dX8_letter_5 : decode cX8_letter 5 = .ok (.iload_n 2, 1) := by decide +kernel
theorem dX8_letter_6 : decode cX8_letter 6 = .ok (.invokevirtual 50, 3) := by decide +kernel
theorem dX8_letter_9 : decode cX8_letter 9 = .ok (.astore 4, 2) := by decide +kernel
theorem dX8_letter_11 : decode cX8_letter 11 = .ok (.aload 4, 2) := by decide +kernel
theorem dX8_letter_13 : decode cX8_letter 13 = .ok (.ifnull 11, 3) := by decide +kernel
theorem dX8_letter_16 : decode cX8_letter 16 = .ok (.aload 4, 2) := by decide +kernel
theorem dX8_letter_18 : decode cX8_letter 18 = .ok (.getfield 127, 3) := by decide +kernel
theorem dX8_letter_21 : decode cX8_letter 21 = .ok (.ifnonnull 5, 3) := by decide +kernel
theorem dX8_letter_24 : decode cX8_letter 24 = .ok (.iconst (-1), 1) := by decide +kernel
theorem dX8_letter_25 : decode cX8_letter 25 = .ok (.ireturn, 1) := by decide +kernel
theorem dX8_letter_26 : decode cX8_letter 26 = .ok (.aload 4, 2) := by decide +kernel
theorem dX8_letter_28 : decode cX8_letter 28 = .ok (.getfield 127, 3) := by decide +kernel
theorem dX8_letter_31 : decode cX8_letter 31 = .ok (.iload_n 3, 1) := by decide +kernel
theorem dX8_letter_32 : decode cX8_letter 32 = .ok (.invokevirtual 131, 3) := by decide +kernel
theorem dX8_letter_35 : decode cX8_letter 35 = .ok (.ireturn, 1) := by decide +kernel
theorem dX8_count_0 : decode cX8_count 0 = .ok (.aload_n 0, 1) := by decide +kernel
theorem dX8_count_1 : decode cX8_count 1 = .ok (.getfield 12, 3) := by decide +kernel
theorem dX8_count_4 : decode cX8_count 4 = .ok (.iload_n 1, 1) := by decide +kernel
theorem dX8_count_5 : decode cX8_count 5 = .ok (.invokevirtual 132, 3) := by decide +kernel
theorem dX8_count_8 : decode cX8_count 8 = .ok (.ireturn, 1) := by decide +kernel
theorem dX8_find_0 : decode cX8_find 0 = .ok (.iload_n 1, 1) := by decide +kernel
theorem dX8_find_1 : decode cX8_find 1 = .ok (.ifCond .lt 21, 3) := by decide +kernel
theorem dX8_find_4 : decode cX8_find 4 = .ok (.iload_n 1, 1) := by decide +kernel
theorem dX8_find_5 : decode cX8_find 5 = .ok (.aload_n 0, 1) := by decide +kernel
theorem dX8_find_6 : decode cX8_find 6 = .ok (.getfield 27, 3) := by decide +kernel
theorem dX8_find_9 : decode cX8_find 9 = .ok (.arraylength, 1) := by decide +kernel
theorem dX8_find_10 : decode cX8_find 10 = .ok (.if_icmp .ge 12, 3) := by decide +kernel
theorem dX8_find_13 : decode cX8_find 13 = .ok (.aload_n 0, 1) := by decide +kernel
theorem dX8_find_14 : decode cX8_find 14 = .ok (.getfield 27, 3) := by decide +kernel
theorem dX8_find_17 : decode cX8_find 17 = .ok (.iload_n 1, 1) := by decide +kernel
theorem dX8_find_18 : decode cX8_find 18 = .ok (.aaload, 1) := by decide +kernel
theorem dX8_find_19 : decode cX8_find 19 = .ok (.goto 4, 3) := by decide +kernel
theorem dX8_find_22 : decode cX8_find 22 = .ok (.aconst_null, 1) := by decide +kernel
theorem dX8_find_23 : decode cX8_find 23 = .ok (.areturn, 1) := by decide +kernel
theorem dX8_isAct_0 : decode cX8_isAct 0 = .ok (.iload_n 0, 1) := by decide +kernel
theorem dX8_isAct_1 : decode cX8_isAct 1 = .ok (.iconst 1, 1) := by decide +kernel
theorem dX8_isAct_2 : decode cX8_isAct 2 = .ok (.if_icmp .lt 10, 3) := by decide +kernel
theorem dX8_isAct_5 : decode cX8_isAct 5 = .ok (.iload_n 0, 1) := by decide +kernel
theorem dX8_isAct_6 : decode cX8_isAct 6 = .ok (.iconst 5, 1) := by decide +kernel
theorem dX8_isAct_7 : decode cX8_isAct 7 = .ok (.if_icmp .gt 5, 3) := by decide +kernel
theorem dX8_isAct_10 : decode cX8_isAct 10 = .ok (.iconst 1, 1) := by decide +kernel
theorem dX8_isAct_11 : decode cX8_isAct 11 = .ok (.ireturn, 1) := by decide +kernel
theorem dX8_isAct_12 : decode cX8_isAct 12 = .ok (.iload_n 0, 1) := by decide +kernel
theorem dX8_isAct_13 : decode cX8_isAct 13 = .ok (.sipush (-8000), 3) := by decide +kernel
theorem dX8_isAct_16 : decode cX8_isAct 16 = .ok (.if_icmp .lt 14, 3) := by decide +kernel
theorem dX8_isAct_19 : decode cX8_isAct 19 = .ok (.iload_n 0, 1) := by decide +kernel
theorem dX8_isAct_20 : decode cX8_isAct 20 = .ok (.sipush 8000, 3) := by decide +kernel
theorem dX8_isAct_23 : decode cX8_isAct 23 = .ok (.if_icmp .gt 7, 3) := by decide +kernel
theorem dX8_isAct_26 : decode cX8_isAct 26 = .ok (.iconst 1, 1) := by decide +kernel
theorem dX8_isAct_27 : decode cX8_isAct 27 = .ok (.goto 4, 3) := by decide +kernel
theorem dX8_isAct_30 : decode cX8_isAct 30 = .ok (.iconst 0, 1) := by decide +kernel
theorem dX8_isAct_31 : decode cX8_isAct 31 = .ok (.istore_n 1, 1) := by decide +kernel
theorem dX8_isAct_32 : decode cX8_isAct 32 = .ok (.iload_n 1, 1) := by decide +kernel
theorem dX8_isAct_33 : decode cX8_isAct 33 = .ok (.ifCond .eq 14, 3) := by decide +kernel
theorem dX8_isAct_36 : decode cX8_isAct 36 = .ok (.iload_n 0, 1) := by decide +kernel
theorem dX8_isAct_37 : decode cX8_isAct 37 = .ok (.bipush 8, 2) := by decide +kernel
theorem dX8_isAct_39 : decode cX8_isAct 39 = .ok (.irem, 1) := by decide +kernel
theorem dX8_isAct_40 : decode cX8_isAct 40 = .ok (.ifCond .ne 7, 3) := by decide +kernel
theorem dX8_isAct_43 : decode cX8_isAct 43 = .ok (.iconst 1, 1) := by decide +kernel
theorem dX8_isAct_44 : decode cX8_isAct 44 = .ok (.goto 4, 3) := by decide +kernel
theorem dX8_isAct_47 : decode cX8_isAct 47 = .ok (.iconst 0, 1) := by decide +kernel
theorem dX8_isAct_48 : decode cX8_isAct 48 = .ok (.ireturn, 1) := by decide +kernel
theorem dX8_has_0 : decode cX8_has 0 = .ok (.iload_n 0, 1) := by decide +kernel
theorem dX8_has_1 : decode cX8_has 1 = .ok (.iconst 1, 1) := by decide +kernel
theorem dX8_has_2 : decode cX8_has 2 = .ok (.iload_n 1, 1) := by decide +kernel
theorem dX8_has_3 : decode cX8_has 3 = .ok (.ishl, 1) := by decide +kernel
theorem dX8_has_4 : decode cX8_has 4 = .ok (.iand, 1) := by decide +kernel
theorem dX8_has_5 : decode cX8_has 5 = .ok (.ifCond .eq 7, 3) := by decide +kernel
theorem dX8_has_8 : decode cX8_has 8 = .ok (.iconst 1, 1) := by decide +kernel
theorem dX8_has_9 : decode cX8_has 9 = .ok (.goto 4, 3) := by decide +kernel
theorem dX8_has_12 : decode cX8_has 12 = .ok (.iconst 0, 1) := by decide +kernel
theorem dX8_has_13 : decode cX8_has 13 = .ok (.ireturn, 1) := by decide +kernel
theorem dX8_without_0 : decode cX8_without 0 = .ok (.iload_n 0, 1) := by decide +kernel
theorem dX8_without_1 : decode cX8_without 1 = .ok (.iconst 1, 1) := by decide +kernel
theorem dX8_without_2 : decode cX8_without 2 = .ok (.iload_n 1, 1) := by decide +kernel
theorem dX8_without_3 : decode cX8_without 3 = .ok (.ishl, 1) := by decide +kernel
theorem dX8_without_4 : decode cX8_without 4 = .ok (.iconst (-1), 1) := by decide +kernel
theorem dX8_without_5 : decode cX8_without 5 = .ok (.ixor, 1) := by decide +kernel
theorem dX8_without_6 : decode cX8_without 6 = .ok (.iand, 1) := by decide +kernel
theorem dX8_without_7 : decode cX8_without 7 = .ok (.ireturn, 1) := by decide +kernel
theorem dX8_allAbove_0 : decode cX8_allAbove 0 = .ok (.iload_n 0, 1) := by decide +kernel
theorem dX8_allAbove_1 : decode cX8_allAbove 1 = .ok (.iconst 2, 1) := by decide +kernel
theorem dX8_allAbove_2 : decode cX8_allAbove 2 = .ok (.iload_n 1, 1) := by decide +kernel
theorem dX8_allAbove_3 : decode cX8_allAbove 3 = .ok (.ishl, 1) := by decide +kernel
theorem dX8_allAbove_4 : decode cX8_allAbove 4 = .ok (.iconst 1, 1) := by decide +kernel
theorem dX8_allAbove_5 : decode cX8_allAbove 5 = .ok (.isub, 1) := by decide +kernel
theorem dX8_allAbove_6 : decode cX8_allAbove 6 = .ok (.iconst (-1), 1) := by decide +kernel
theorem dX8_allAbove_7 : decode cX8_allAbove 7 = .ok (.ixor, 1) := by decide +kernel
theorem dX8_allAbove_8 : decode cX8_allAbove 8 = .ok (.iand, 1) := by decide +kernel
theorem dX8_allAbove_9 : decode cX8_allAbove 9 = .ok (.ireturn, 1) := by decide +kernel
theorem dX9_init_0 : decode cX9_init 0 = .ok (.aload_n 0, 1) := by decide +kernel
theorem dX9_init_1 : decode cX9_init 1 = .ok (.invokespecial 1, 3) := by decide +kernel
theorem dX9_init_4 : decode cX9_init 4 = .ok (.aload_n 0, 1) := by decide +kernel
theorem dX9_init_5 : decode cX9_init 5 = .ok (.bipush 7, 2) := by decide +kernel
theorem dX9_init_7 : decode cX9_init 7 = .ok (.newarray .int, 2) := by decide +kernel
theorem dX9_init_9 : decode cX9_init 9 = .ok (.putfield 7, 3) := by decide +kernel
theorem dX9_init_12 : decode cX9_init 12 = .ok (.aload_n 0, 1) := by decide +kernel
theorem dX9_init_13 : decode cX9_init 13 = .ok (.bipush 7, 2) := by decide +kernel
theorem dX9_init_15 : decode cX9_init 15 = .ok (.newarray .int, 2) := by decide +kernel
theorem dX9_init_17 : decode cX9_init 17 = .ok (.putfield 13, 3) := by decide +kernel
theorem dX9_init_20 : decode cX9_init 20 = .ok (.aload_n 0, 1) := by decide +kernel
theorem dX9_init_21 : decode cX9_init 21 = .ok (.bipush 7, 2) := by decide +kernel
theorem dX9_init_23 : decode cX9_init 23 = .ok (.newarray .int, 2) := by decide +kernel
theorem dX9_init_25 : decode cX9_init 25 = .ok (.putfield 16, 3) := by decide +kernel
theorem dX9_init_28 : decode cX9_init 28 = .ok (.aload_n 0, 1) := by decide +kernel
theorem dX9_init_29 : decode cX9_init 29 = .ok (.sipush 420, 3) := by decide +kernel
theorem dX9_init_32 : decode cX9_init 32 = .ok (.newarray .int, 2) := by decide +kernel
theorem dX9_init_34 : decode cX9_init 34 = .ok (.putfield 19, 3) := by decide +kernel
theorem dX9_init_37 : decode cX9_init 37 = .ok (.aload_n 0, 1) := by decide +kernel
theorem dX9_init_38 : decode cX9_init 38 = .ok (.bipush 7, 2) := by decide +kernel
theorem dX9_init_40 : decode cX9_init 40 = .ok (.newarray .int, 2) := by decide +kernel
theorem dX9_init_42 : decode cX9_init 42 = .ok (.putfield 22, 3) := by decide +kernel
theorem dX9_init_45 : decode cX9_init 45 = .ok (.aload_n 0, 1) := by decide +kernel
theorem dX9_init_46 : decode cX9_init 46 = .ok (.bipush 7, 2) := by decide +kernel
theorem dX9_init_48 : decode cX9_init 48 = .ok (.newarray .int, 2) := by decide +kernel
theorem dX9_init_50 : decode cX9_init 50 = .ok (.putfield 25, 3) := by decide +kernel
theorem dX9_init_53 : decode cX9_init 53 = .ok (.aload_n 0, 1) := by decide +kernel
theorem dX9_init_54 : decode cX9_init 54 = .ok (.bipush 7, 2) := by decide +kernel
theorem dX9_init_56 : decode cX9_init 56 = .ok (.newarray .int, 2) := by decide +kernel
theorem dX9_init_58 : decode cX9_init 58 = .ok (.putfield 28, 3) := by decide +kernel
theorem dX9_init_61 : decode cX9_init 61 = .ok (.aload_n 0, 1) := by decide +kernel
theorem dX9_init_62 : decode cX9_init 62 = .ok (.bipush 7, 2) := by decide +kernel
theorem dX9_init_64 : decode cX9_init 64 = .ok (.newarray .int, 2) := by decide +kernel
theorem dX9_init_66 : decode cX9_init 66 = .ok (.putfield 31, 3) := by decide +kernel
theorem dX9_init_69 : decode cX9_init 69 = .ok (.aload_n 0, 1) := by decide +kernel
theorem dX9_init_70 : decode cX9_init 70 = .ok (.bipush 7, 2) := by decide +kernel
theorem dX9_init_72 : decode cX9_init 72 = .ok (.newarray .int, 2) := by decide +kernel
theorem dX9_init_74 : decode cX9_init 74 = .ok (.putfield 34, 3) := by decide +kernel
theorem dX9_init_77 : decode cX9_init 77 = .ok (.aload_n 0, 1) := by decide +kernel
theorem dX9_init_78 : decode cX9_init 78 = .ok (.bipush 7, 2) := by decide +kernel
theorem dX9_init_80 : decode cX9_init 80 = .ok (.newarray .int, 2) := by decide +kernel
theorem dX9_init_82 : decode cX9_init 82 = .ok (.putfield 37, 3) := by decide +kernel
theorem dX9_init_85 : decode cX9_init 85 = .ok (.aload_n 0, 1) := by decide +kernel
theorem dX9_init_86 : decode cX9_init 86 = .ok (.bipush 7, 2) := by decide +kernel
theorem dX9_init_88 : decode cX9_init 88 = .ok (.newarray .int, 2) := by decide +kernel
theorem dX9_init_90 : decode cX9_init 90 = .ok (.putfield 40, 3) := by decide +kernel
theorem dX9_init_93 : decode cX9_init 93 = .ok (.aload_n 0, 1) := by decide +kernel
theorem dX9_init_94 : decode cX9_init 94 = .ok (.bipush 7, 2) := by decide +kernel
theorem dX9_init_96 : decode cX9_init 96 = .ok (.newarray .int, 2) := by decide +kernel
theorem dX9_init_98 : decode cX9_init 98 = .ok (.putfield 43, 3) := by decide +kernel
theorem dX9_init_101 : decode cX9_init 101 = .ok (.aload_n 0, 1) := by decide +kernel
theorem dX9_init_102 : decode cX9_init 102 = .ok (.bipush 49, 2) := by decide +kernel
theorem dX9_init_104 : decode cX9_init 104 = .ok (.newarray .int, 2) := by decide +kernel
theorem dX9_init_106 : decode cX9_init 106 = .ok (.putfield 46, 3) := by decide +kernel
theorem dX9_init_109 : decode cX9_init 109 = .ok (.aload_n 0, 1) := by decide +kernel
theorem dX9_init_110 : decode cX9_init 110 = .ok (.bipush 7, 2) := by decide +kernel
theorem dX9_init_112 : decode cX9_init 112 = .ok (.newarray .int, 2) := by decide +kernel
theorem dX9_init_114 : decode cX9_init 114 = .ok (.putfield 49, 3) := by decide +kernel
theorem dX9_init_117 : decode cX9_init 117 = .ok (.aload_n 0, 1) := by decide +kernel
theorem dX9_init_118 : decode cX9_init 118 = .ok (.bipush 49, 2) := by decide +kernel
theorem dX9_init_120 : decode cX9_init 120 = .ok (.newarray .int, 2) := by decide +kernel
theorem dX9_init_122 : decode cX9_init 122 = .ok (.putfield 52, 3) := by decide +kernel
theorem dX9_init_125 : decode cX9_init 125 = .ok (.aload_n 0, 1) := by decide +kernel
theorem dX9_init_126 : decode cX9_init 126 = .ok (.bipush 49, 2) := by decide +kernel
theorem dX9_init_128 : decode cX9_init 128 = .ok (.newarray .int, 2) := by decide +kernel
theorem dX9_init_130 : decode cX9_init 130 = .ok (.putfield 55, 3) := by decide +kernel
theorem dX9_init_133 : decode cX9_init 133 = .ok (.aload_n 0, 1) := by decide +kernel
theorem dX9_init_134 : decode cX9_init 134 = .ok (.sipush 2940, 3) := by decide +kernel
theorem dX9_init_137 : decode cX9_init 137 = .ok (.newarray .int, 2) := by decide +kernel
theorem dX9_init_139 : decode cX9_init 139 = .ok (.putfield 58, 3) := by decide +kernel
theorem dX9_init_142 : decode cX9_init 142 = .ok (.aload_n 0, 1) := by decide +kernel
theorem dX9_init_143 : decode cX9_init 143 = .ok (.sipush 140, 3) := by decide +kernel
theorem dX9_init_146 : decode cX9_init 146 = .ok (.newarray .int, 2) := by decide +kernel
theorem dX9_init_148 : decode cX9_init 148 = .ok (.putfield 61, 3) := by decide +kernel
theorem dX9_init_151 : decode cX9_init 151 = .ok (.aload_n 0, 1) := by decide +kernel
theorem dX9_init_152 : decode cX9_init 152 = .ok (.bipush 7, 2) := by decide +kernel
theorem dX9_init_154 : decode cX9_init 154 = .ok (.newarray .int, 2) := by decide +kernel
theorem dX9_init_156 : decode cX9_init 156 = .ok (.putfield 64, 3) := by decide +kernel
theorem dX9_init_159 : decode cX9_init 159 = .ok (.aload_n 0, 1) := by decide +kernel
theorem dX9_init_160 : decode cX9_init 160 = .ok (.sipush 500, 3) := by decide +kernel
theorem dX9_init_163 : decode cX9_init 163 = .ok (.newarray .boolean, 2) := by decide +kernel
theorem dX9_init_165 : decode cX9_init 165 = .ok (.putfield 67, 3) := by decide +kernel
theorem dX9_init_168 : decode cX9_init 168 = .ok (.aload_n 0, 1) := by decide +kernel
theorem dX9_init_169 : decode cX9_init 169 = .ok (.sipush 501, 3) := by decide +kernel
theorem dX9_init_172 : decode cX9_init 172 = .ok (.newarray .int, 2) := by decide +kernel
theorem dX9_init_174 : decode cX9_init 174 = .ok (.putfield 71, 3) := by decide +kernel
theorem dX9_init_177 : decode cX9_init 177 = .ok (.aload_n 0, 1) := by decide +kernel
theorem dX9_init_178 : decode cX9_init 178 = .ok (.sipush 501, 3) := by decide +kernel
theorem dX9_init_181 : decode cX9_init 181 = .ok (.newarray .int, 2) := by decide +kernel
theorem dX9_init_183 : decode cX9_init 183 = .ok (.putfield 74, 3) := by decide +kernel
theorem dX9_init_186 : decode cX9_init 186 = .ok (.aload_n 0, 1) := by decide +kernel
theorem dX9_init_187 : decode cX9_init 187 = .ok (.sipush 501, 3) := by decide +kernel
theorem dX9_init_190 : decode cX9_init 190 = .ok (.newarray .int, 2) := by decide +kernel
theorem dX9_init_192 : decode cX9_init 192 = .ok (.putfield 77, 3) := by decide +kernel
theorem dX9_init_195 : decode cX9_init 195 = .ok (.aload_n 0, 1) := by decide +kernel
theorem dX9_init_196 : decode cX9_init 196 = .ok (.sipush 501, 3) := by decide +kernel
theorem dX9_init_199 : decode cX9_init 199 = .ok (.newarray .int, 2) := by decide +kernel
theorem dX9_init_201 : decode cX9_init 201 = .ok (.putfield 80, 3) := by decide +kernel
theorem dX9_init_204 : decode cX9_init 204 = .ok (.aload_n 0, 1) := by decide +kernel
theorem dX9_init_205 : decode cX9_init 205 = .ok (.sipush 501, 3) := by decide +kernel
theorem dX9_init_208 : decode cX9_init 208 = .ok (.newarray .int, 2) := by decide +kernel
theorem dX9_init_210 : decode cX9_init 210 = .ok (.putfield 83, 3) := by decide +kernel
theorem dX9_init_213 : decode cX9_init 213 = .ok (.aload_n 0, 1) := by decide +kernel
theorem dX9_init_214 : decode cX9_init 214 = .ok (.sipush 501, 3) := by decide +kernel
theorem dX9_init_217 : decode cX9_init 217 = .ok (.newarray .int, 2) := by decide +kernel
theorem dX9_init_219 : decode cX9_init 219 = .ok (.putfield 86, 3) := by decide +kernel
theorem dX9_init_222 : decode cX9_init 222 = .ok (.aload_n 0, 1) := by decide +kernel
theorem dX9_init_223 : decode cX9_init 223 = .ok (.sipush 30060, 3) := by decide +kernel
theorem dX9_init_226 : decode cX9_init 226 = .ok (.newarray .int, 2) := by decide +kernel
theorem dX9_init_228 : decode cX9_init 228 = .ok (.putfield 89, 3) := by decide +kernel
theorem dX9_init_231 : decode cX9_init 231 = .ok (.aload_n 0, 1) := by decide +kernel
theorem dX9_init_232 : decode cX9_init 232 = .ok (.sipush 501, 3) := by decide +kernel
theorem dX9_init_235 : decode cX9_init 235 = .ok (.newarray .int, 2) := by decide +kernel
theorem dX9_init_237 : decode cX9_init 237 = .ok (.putfield 92, 3) := by decide +kernel
theorem dX9_init_240 : decode cX9_init 240 = .ok (.aload_n 0, 1) := by decide +kernel
theorem dX9_init_241 : decode cX9_init 241 = .ok (.iload_n 1, 1) := by decide +kernel
theorem dX9_init_242 : decode cX9_init 242 = .ok (.iconst 2, 1) := by decide +kernel
theorem dX9_init_243 : decode cX9_init 243 = .ok (.if_icmp .lt 13, 3) := by decide +kernel
theorem dX9_init_246 : decode cX9_init 246 = .ok (.iload_n 1, 1) := by decide +kernel
theorem dX9_init_247 : decode cX9_init 247 = .ok (.bipush 7, 2) := by decide +kernel
theorem dX9_init_249 : decode cX9_init 249 = .ok (.if_icmp .gt 7, 3) := by decide +kernel
theorem dX9_init_252 : decode cX9_init 252 = .ok (.iload_n 1, 1) := by decide +kernel
theorem dX9_init_253 : decode cX9_init 253 = .ok (.goto 4, 3) := by decide +kernel
theorem dX9_init_256 : decode cX9_init 256 = .ok (.iconst 3, 1) := by decide +kernel
theorem dX9_init_257 : decode cX9_init 257 = .ok (.putfield 95, 3) := by decide +kernel
theorem dX9_init_260 : decode cX9_init 260 = .ok (.iconst 0, 1) := by decide +kernel
theorem dX9_init_261 : decode cX9_init 261 = .ok (.istore_n 2, 1) := by decide +kernel
theorem dX9_init_262 : decode cX9_init 262 = .ok (.iload_n 2, 1) := by decide +kernel
theorem dX9_init_263 : decode cX9_init 263 = .ok (.aload_n 0, 1) := by decide +kernel
theorem dX9_init_264 : decode cX9_init 264 = .ok (.getfield 95, 3) := by decide +kernel
theorem dX9_init_267 : decode cX9_init 267 = .ok (.if_icmp .ge 30, 3) := by decide +kernel
theorem dX9_init_270 : decode cX9_init 270 = .ok (.aload_n 0, 1) := by decide +kernel
theorem dX9_init_271 : decode cX9_init 271 = .ok (.getfield 16, 3) := by decide +kernel
theorem dX9_init_274 : decode cX9_init 274 = .ok (.iload_n 2, 1) := by decide +kernel
theorem dX9_init_275 : decode cX9_init 275 = .ok (.iconst 1, 1) := by decide +kernel
theorem dX9_init_276 : decode cX9_init 276 = .ok (.aload_n 0, 1) := by decide +kernel
theorem dX9_init_277 : decode cX9_init 277 = .ok (.getfield 95, 3) := by decide +kernel
theorem dX9_init_280 : decode cX9_init 280 = .ok (.ishl, 1) := by decide +kernel
theorem dX9_init_281 : decode cX9_init 281 = .ok (.iconst 1, 1) := by decide +kernel
theorem dX9_init_282 : decode cX9_init 282 = .ok (.isub, 1) := by decide +kernel
theorem dX9_init_283 : decode cX9_init 283 = .ok (.iastore, 1) := by decide +kernel
theorem dX9_init_284 : decode cX9_init 284 = .ok (.aload_n 0, 1) := by decide +kernel
theorem dX9_init_285 : decode cX9_init 285 = .ok (.getfield 43, 3) := by decide +kernel
theorem dX9_init_288 : decode cX9_init 288 = .ok (.iload_n 2, 1) := by decide +kernel
theorem dX9_init_289 : decode cX9_init 289 = .ok (.iconst (-1), 1) := by decide +kernel
theorem dX9_init_290 : decode cX9_init 290 = .ok (.iastore, 1) := by decide +kernel
theorem dX9_init_291 : decode cX9_init 291 = .ok (.iinc 2 1, 3) := by decide +kernel
theorem dX9_init_294 : decode cX9_init 294 = .ok (.goto (-32), 3) := by decide +kernel
theorem dX9_init_297 : decode cX9_init 297 = .ok (.return_, 1) := by decide +kernel
theorem dX9_isNode_0 : decode cX9_isNode 0 = .ok (.iload_n 1, 1) := by decide +kernel
theorem dX9_isNode_1 : decode cX9_isNode 1 = .ok (.ifCond .lt 15, 3) := by decide +kernel
theorem dX9_isNode_4 : decode cX9_isNode 4 = .ok (.iload_n 1, 1) := by decide +kernel
theorem dX9_isNode_5 : decode cX9_isNode 5 = .ok (.aload_n 0, 1) := by decide +kernel
theorem dX9_isNode_6 : decode cX9_isNode 6 = .ok (.getfield 95, 3) := by decide +kernel
theorem dX9_isNode_9 : decode cX9_isNode 9 = .ok (.if_icmp .ge 7, 3) := by decide +kernel
theorem dX9_isNode_12 : decode cX9_isNode 12 = .ok (.iconst 1, 1) := by decide +kernel
theorem dX9_isNode_13 : decode cX9_isNode 13 = .ok (.goto 4, 3) := by decide +kernel
theorem dX9_isNode_16 : decode cX9_isNode 16 = .ok (.iconst 0, 1) := by decide +kernel
theorem dX9_isNode_17 : decode cX9_isNode 17 = .ok (.ireturn, 1) := by decide +kernel
theorem dX9_has_0 : decode cX9_has 0 = .ok (.iload_n 0, 1) := by decide +kernel
theorem dX9_has_1 : decode cX9_has 1 = .ok (.iload_n 1, 1) := by decide +kernel
theorem dX9_has_2 : decode cX9_has 2 = .ok (.ishr, 1) := by decide +kernel
theorem dX9_has_3 : decode cX9_has 3 = .ok (.iconst 1, 1) := by decide +kernel
theorem dX9_has_4 : decode cX9_has 4 = .ok (.iand, 1) := by decide +kernel
theorem dX9_has_5 : decode cX9_has 5 = .ok (.iconst 1, 1) := by decide +kernel
theorem dX9_has_6 : decode cX9_has 6 = .ok (.if_icmp .ne 7, 3) := by decide +kernel
theorem dX9_has_9 : decode cX9_has 9 = .ok (.iconst 1, 1) := by decide +kernel
theorem dX9_has_10 : decode cX9_has 10 = .ok (.goto 4, 3) := by decide +kernel
theorem dX9_has_13 : decode cX9_has 13 = .ok (.iconst 0, 1) := by decide +kernel
theorem dX9_has_14 : decode cX9_has 14 = .ok (.ireturn, 1) := by decide +kernel
theorem dX9_many_0 : decode cX9_many 0 = .ok (.iconst 0, 1) := by decide +kernel
theorem dX9_many_1 : decode cX9_many 1 = .ok (.istore_n 2, 1) := by decide +kernel
theorem dX9_many_2 : decode cX9_many 2 = .ok (.iconst 0, 1) := by decide +kernel
theorem dX9_many_3 : decode cX9_many 3 = .ok (.istore_n 3, 1) := by decide +kernel
theorem dX9_many_4 : decode cX9_many 4 = .ok (.iload_n 3, 1) := by decide +kernel
theorem dX9_many_5 : decode cX9_many 5 = .ok (.aload_n 0, 1) := by decide +kernel
theorem dX9_many_6 : decode cX9_many 6 = .ok (.getfield 95, 3) := by decide +kernel
theorem dX9_many_9 : decode cX9_many 9 = .ok (.if_icmp .ge 17, 3) := by decide +kernel
theorem dX9_many_12 : decode cX9_many 12 = .ok (.iload_n 2, 1) := by decide +kernel
theorem dX9_many_13 : decode cX9_many 13 = .ok (.iload_n 1, 1) := by decide +kernel
theorem dX9_many_14 : decode cX9_many 14 = .ok (.iload_n 3, 1) := by decide +kernel
theorem dX9_many_15 : decode cX9_many 15 = .ok (.ishr, 1) := by decide +kernel
theorem dX9_many_16 : decode cX9_many 16 = .ok (.iconst 1, 1) := by decide +kernel
theorem dX9_many_17 : decode cX9_many 17 = .ok (.iand, 1) := by decide +kernel
theorem dX9_many_18 : decode cX9_many 18 = .ok (.iadd, 1) := by decide +kernel
theorem dX9_many_19 : decode cX9_many 19 = .ok (.istore_n 2, 1) := by decide +kernel
theorem dX9_many_20 : decode cX9_many 20 = .ok (.iinc 3 1, 3) := by decide +kernel
theorem dX9_many_23 : decode cX9_many 23 = .ok (.goto (-19), 3) := by decide +kernel
theorem dX9_many_26 : decode cX9_many 26 = .ok (.iload_n 2, 1) := by decide +kernel
theorem dX9_many_27 : decode cX9_many 27 = .ok (.ireturn, 1) := by decide +kernel
theorem dX9_leader_0 : decode cX9_leader 0 = .ok (.aload_n 0, 1) := by decide +kernel
theorem dX9_leader_1 : decode cX9_leader 1 = .ok (.getfield 95, 3) := by decide +kernel
theorem dX9_leader_4 : decode cX9_leader 4 = .ok (.iconst 1, 1) := by decide +kernel
theorem dX9_leader_5 : decode cX9_leader 5 = .ok (.isub, 1) := by decide +kernel
theorem dX9_leader_6 : decode cX9_leader 6 = .ok (.istore_n 2, 1) := by decide +kernel
theorem dX9_leader_7 : decode cX9_leader 7 = .ok (.iload_n 2, 1) := by decide +kernel
theorem dX9_leader_8 : decode cX9_leader 8 = .ok (.ifCond .le 22, 3) := by decide +kernel
theorem dX9_leader_11 : decode cX9_leader 11 = .ok (.aload_n 0, 1) := by decide +kernel
theorem dX9_leader_12 : decode cX9_leader 12 = .ok (.getfield 16, 3) := by decide +kernel
theorem dX9_leader_15 : decode cX9_leader 15 = .ok (.iload_n 1, 1) := by decide +kernel
theorem dX9_leader_16 : decode cX9_leader 16 = .ok (.iaload, 1) := by decide +kernel
theorem dX9_leader_17 : decode cX9_leader 17 = .ok (.iload_n 2, 1) := by decide +kernel
theorem dX9_leader_18 : decode cX9_leader 18 = .ok (.invokestatic 99, 3) := by decide +kernel
theorem dX9_leader_21 : decode cX9_leader 21 = .ok (.ifCond .ne 9, 3) := by decide +kernel
theorem dX9_leader_24 : decode cX9_leader 24 = .ok (.iinc 2 (-1), 3) := by decide +kernel
theorem dX9_leader_27 : decode cX9_leader 27 = .ok (.goto (-20), 3) := by decide +kernel
theorem dX9_leader_30 : decode cX9_leader 30 = .ok (.iload_n 2, 1) := by decide +kernel
theorem dX9_leader_31 : decode cX9_leader 31 = .ok (.ireturn, 1) := by decide +kernel
theorem dX9_isBlocked_0 : decode cX9_isBlocked 0 = .ok (.aload_n 0, 1) := by decide +kernel
theorem dX9_isBlocked_1 : decode cX9_isBlocked 1 = .ok (.getfield 31, 3) := by decide +kernel
theorem dX9_isBlocked_4 : decode cX9_isBlocked 4 = .ok (.iload_n 1, 1) := by decide +kernel
theorem dX9_isBlocked_5 : decode cX9_isBlocked 5 = .ok (.iaload, 1) := by decide +kernel
theorem dX9_isBlocked_6 : decode cX9_isBlocked 6 = .ok (.aload_n 0, 1) := by decide +kernel
theorem dX9_isBlocked_7 : decode cX9_isBlocked 7 = .ok (.getfield 13, 3) := by decide +kernel
theorem dX9_isBlocked_10 : decode cX9_isBlocked 10 = .ok (.iload_n 1, 1) := by decide +kernel
theorem dX9_isBlocked_11 : decode cX9_isBlocked 11 = .ok (.iaload, 1) := by decide +kernel
theorem dX9_isBlocked_12 : decode cX9_isBlocked 12 = .ok (.if_icmp .eq 7, 3) := by decide +kernel
theorem dX9_isBlocked_15 : decode cX9_isBlocked 15 = .ok (.iconst 1, 1) := by decide +kernel
theorem dX9_isBlocked_16 : decode cX9_isBlocked 16 = .ok (.goto 4, 3) := by decide +kernel
theorem dX9_isBlocked_19 : decode cX9_isBlocked 19 = .ok (.iconst 0, 1) := by decide +kernel
theorem dX9_isBlocked_20 : decode cX9_isBlocked 20 = .ok (.ireturn, 1) := by decide +kernel
theorem dX9_send_0 : decode cX9_send 0 = .ok (.aload_n 0, 1) := by decide +kernel
theorem dX9_send_1 : decode cX9_send 1 = .ok (.dup, 1) := by decide +kernel
theorem dX9_send_2 : decode cX9_send 2 = .ok (.getfield 102, 3) := by decide +kernel
theorem dX9_send_5 : decode cX9_send 5 = .ok (.iconst 1, 1) := by decide +kernel
theorem dX9_send_6 : decode cX9_send 6 = .ok (.iadd, 1) := by decide +kernel
theorem dX9_send_7 : decode cX9_send 7 = .ok (.putfield 102, 3) := by decide +kernel
theorem dX9_send_10 : decode cX9_send 10 = .ok (.aload_n 0, 1) := by decide +kernel
theorem dX9_send_11 : decode cX9_send 11 = .ok (.getfield 105, 3) := by decide +kernel
theorem dX9_send_14 : decode cX9_send 14 = .ok (.sipush 500, 3) := by decide +kernel
theorem dX9_send_17 : decode cX9_send 17 = .ok (.if_icmp .ne 14, 3) := by decide +kernel
theorem dX9_send_20 : decode cX9_send 20 = .ok (.aload_n 0, 1) := by decide +kernel
theorem dX9_send_21 : decode cX9_send 21 = .ok (.dup, 1) := by decide +kernel
theorem dX9_send_22 : decode cX9_send 22 = .ok (.getfield 108, 3) := by decide +kernel
theorem dX9_send_25 : decode cX9_send 25 = .ok (.iconst 1, 1) := by decide +kernel
theorem dX9_send_26 : decode cX9_send 26 = .ok (.iadd, 1) := by decide +kernel
theorem dX9_send_27 : decode cX9_send 27 = .ok (.putfield 108, 3) := by decide +kernel
theorem dX9_send_30 : decode cX9_send 30 = .ok (.return_, 1) := by decide +kernel
theorem dX9_send_31 : decode cX9_send 31 = .ok (.iconst 0, 1) := by decide +kernel
theorem dX9_send_32 : decode cX9_send 32 = .ok (.istore 8, 2) := by decide +kernel
theorem dX9_send_34 : decode cX9_send 34 = .ok (.aload_n 0, 1) := by decide +kernel
theorem dX9_send_35 : decode cX9_send 35 = .ok (.getfield 67, 3) := by decide +kernel
theorem dX9_send_38 : decode cX9_send 38 = .ok (.iload 8, 2) := by decide +kernel
theorem dX9_send_40 : decode cX9_send 40 = .ok (.baload, 1) := by decide +kernel
theorem dX9_send_41 : decode cX9_send 41 = .ok (.ifCond .eq 9, 3) := by decide +kernel
theorem dX9_send_44 : decode cX9_send 44 = .ok (.iinc 8 1, 3) := by decide +kernel
theorem dX9_send_47 : decode cX9_send 47 = .ok (.goto (-13), 3) := by decide +kernel
theorem dX9_send_50 : decode cX9_send 50 = .ok (.aload_n 0, 1) := by decide +kernel
theorem dX9_send_51 : decode cX9_send 51 = .ok (.getfield 67, 3) := by decide +kernel
theorem dX9_send_54 : decode cX9_send 54 = .ok (.iload 8, 2) := by decide +kernel
theorem dX9_send_56 : decode cX9_send 56 = .ok (.iconst 1, 1) := by decide +kernel
theorem dX9_send_57 : decode cX9_send 57 = .ok (.bastore, 1) := by decide +kernel
theorem dX9_send_58 : decode cX9_send 58 = .ok (.aload_n 0, 1) := by decide +kernel
theorem dX9_send_59 : decode cX9_send 59 = .ok (.getfield 71, 3) := by decide +kernel
theorem dX9_send_62 : decode cX9_send 62 = .ok (.iload 8, 2) := by decide +kernel
theorem dX9_send_64 : decode cX9_send 64 = .ok (.iload_n 1, 1) := by decide +kernel
theorem dX9_send_65 : decode cX9_send 65 = .ok (.iastore, 1) := by decide +kernel
theorem dX9_send_66 : decode cX9_send 66 = .ok (.aload_n 0, 1) := by decide +kernel
theorem dX9_send_67 : decode cX9_send 67 = .ok (.getfield 74, 3) := by decide +kernel
theorem dX9_send_70 : decode cX9_send 70 = .ok (.iload 8, 2) := by decide +kernel
theorem dX9_send_72 : decode cX9_send 72 = .ok (.iload_n 2, 1) := by decide +kernel
theorem dX9_send_73 : decode cX9_send 73 = .ok (.iastore, 1) := by decide +kernel
theorem dX9_send_74 : decode cX9_send 74 = .ok (.aload_n 0, 1) := by decide +kernel
theorem dX9_send_75 : decode cX9_send 75 = .ok (.getfield 77, 3) := by decide +kernel
theorem dX9_send_78 : decode cX9_send 78 = .ok (.iload 8, 2) := by decide +kernel
theorem dX9_send_80 : decode cX9_send 80 = .ok (.iload_n 3, 1) := by decide +kernel
theorem dX9_send_81 : decode cX9_send 81 = .ok (.iastore, 1) := by decide +kernel
theorem dX9_send_82 : decode cX9_send 82 = .ok (.aload_n 0, 1) := by decide +kernel
theorem dX9_send_83 : decode cX9_send 83 = .ok (.getfield 80, 3) := by decide +kernel
theorem dX9_send_86 : decode cX9_send 86 = .ok (.iload 8, 2) := by decide +kernel
theorem dX9_send_88 : decode cX9_send 88 = .ok (.iload 4, 2) := by decide +kernel
theorem dX9_send_90 : decode cX9_send 90 = .ok (.iastore, 1) := by decide +kernel
theorem dX9_send_91 : decode cX9_send 91 = .ok (.aload_n 0, 1) := by decide +kernel
theorem dX9_send_92 : decode cX9_send 92 = .ok (.getfield 83, 3) := by decide +kernel
theorem dX9_send_95 : decode cX9_send 95 = .ok (.iload 8, 2) := by decide +kernel
theorem dX9_send_97 : decode cX9_send 97 = .ok (.iload 5, 2) := by decide +kernel
theorem dX9_send_99 : decode cX9_send 99 = .ok (.iastore, 1) := by decide +kernel
theorem dX9_send_100 : decode cX9_send 100 = .ok (.aload_n 0, 1) := by decide +kernel
theorem dX9_send_101 : decode cX9_send 101 = .ok (.getfield 86, 3) := by decide +kernel
theorem dX9_send_104 : decode cX9_send 104 = .ok (.iload 8, 2) := by decide +kernel
theorem dX9_send_106 : decode cX9_send 106 = .ok (.iload 6, 2) := by decide +kernel
theorem dX9_send_108 : decode cX9_send 108 = .ok (.iastore, 1) := by decide +kernel
theorem dX9_send_109 : decode cX9_send 109 = .ok (.aload_n 0, 1) := by decide +kernel
theorem dX9_send_110 : decode cX9_send 110 = .ok (.getfield 92, 3) := by decide +kernel
theorem dX9_send_113 : decode cX9_send 113 = .ok (.iload 8, 2) := by decide +kernel
theorem dX9_send_115 : decode cX9_send 115 = .ok (.aload_n 0, 1) := by decide +kernel
theorem dX9_send_116 : decode cX9_send 116 = .ok (.getfield 102, 3) := by decide +kernel
theorem dX9_send_119 : decode cX9_send 119 = .ok (.iastore, 1) := by decide +kernel
theorem dX9_send_120 : decode cX9_send 120 = .ok (.iload_n 3, 1) := by decide +kernel
theorem dX9_send_121 : decode cX9_send 121 = .ok (.iconst 1, 1) := by decide +kernel
theorem dX9_send_122 : decode cX9_send 122 = .ok (.if_icmp .eq 8, 3) := by decide +kernel
theorem dX9_send_125 : decode cX9_send 125 = .ok (.iload_n 3, 1) := by decide +kernel
theorem dX9_send_126 : decode cX9_send 126 = .ok (.iconst 2, 1) := by decide +kernel
theorem dX9_send_127 : decode cX9_send 127 = .ok (.if_icmp .ne 18, 3) := by decide +kernel
theorem dX9_send_130 : decode cX9_send 130 = .ok (.aload_n 0, 1) := by decide +kernel
theorem dX9_send_131 : decode cX9_send 131 = .ok (.getfield 89, 3) := by decide +kernel
theorem dX9_send_134 : decode cX9_send 134 = .ok (.bipush 60, 2) := by decide +kernel
theorem dX9_send_136 : decode cX9_send 136 = .ok (.iload 8, 2) := by decide +kernel
theorem dX9_send_138 : decode cX9_send 138 = .ok (.imul, 1) := by decide +kernel
theorem dX9_send_139 : decode cX9_send 139 = .ok (.iload 7, 2) := by decide +kernel
theorem dX9_send_141 : decode cX9_send 141 = .ok (.iastore, 1) := by decide +kernel
theorem dX9_send_142 : decode cX9_send 142 = .ok (.goto 44, 3) := by decide +kernel
theorem dX9_send_145 : decode cX9_send 145 = .ok (.iconst 0, 1) := by decide +kernel
theorem dX9_send_146 : decode cX9_send 146 = .ok (.istore 9, 2) := by decide +kernel
theorem dX9_send_148 : decode cX9_send 148 = .ok (.iload 9, 2) := by decide +kernel
theorem dX9_send_150 : decode cX9_send 150 = .ok (.iload 6, 2) := by decide +kernel
theorem dX9_send_152 : decode cX9_send 152 = .ok (.if_icmp .ge 34, 3) := by decide +kernel
theorem dX9_send_155 : decode cX9_send 155 = .ok (.aload_n 0, 1) := by decide +kernel
theorem dX9_send_156 : decode cX9_send 156 = .ok (.getfield 89, 3) := by decide +kernel
theorem dX9_send_159 : decode cX9_send 159 = .ok (.bipush 60, 2) := by decide +kernel
theorem dX9_send_161 : decode cX9_send 161 = .ok (.iload 8, 2) := by decide +kernel
theorem dX9_send_163 : decode cX9_send 163 = .ok (.imul, 1) := by decide +kernel
theorem dX9_send_164 : decode cX9_send 164 = .ok (.iload 9, 2) := by decide +kernel
theorem dX9_send_166 : decode cX9_send 166 = .ok (.iadd, 1) := by decide +kernel
theorem dX9_send_167 : decode cX9_send 167 = .ok (.aload_n 0, 1) := by decide +kernel
theorem dX9_send_168 : decode cX9_send 168 = .ok (.getfield 19, 3) := by decide +kernel
theorem dX9_send_171 : decode cX9_send 171 = .ok (.bipush 60, 2) := by decide +kernel
theorem dX9_send_173 : decode cX9_send 173 = .ok (.iload_n 1, 1) := by decide +kernel
theorem dX9_send_174 : decode cX9_send 174 = .ok (.imul, 1) := by decide +kernel
theorem dX9_send_175 : decode cX9_send 175 = .ok (.iload 9, 2) := by decide +kernel
theorem dX9_send_177 : decode cX9_send 177 = .ok (.iadd, 1) := by decide +kernel
theorem dX9_send_178 : decode cX9_send 178 = .ok (.iaload, 1) := by decide +kernel
theorem dX9_send_179 : decode cX9_send 179 = .ok (.iastore, 1) := by decide +kernel
theorem dX9_send_180 : decode cX9_send 180 = .ok (.iinc 9 1, 3) := by decide +kernel
theorem dX9_send_183 : decode cX9_send 183 = .ok (.goto (-35), 3) := by decide +kernel
theorem dX9_send_186 : decode cX9_send 186 = .ok (.aload_n 0, 1) := by decide +kernel
theorem dX9_send_187 : decode cX9_send 187 = .ok (.dup, 1) := by decide +kernel
theorem dX9_send_188 : decode cX9_send 188 = .ok (.getfield 105, 3) := by decide +kernel
theorem dX9_send_191 : decode cX9_send 191 = .ok (.iconst 1, 1) := by decide +kernel
theorem dX9_send_192 : decode cX9_send 192 = .ok (.iadd, 1) := by decide +kernel
theorem dX9_send_193 : decode cX9_send 193 = .ok (.putfield 105, 3) := by decide +kernel
theorem dX9_send_196 : decode cX9_send 196 = .ok (.return_, 1) := by decide +kernel
theorem dX9_sendAll_0 : decode cX9_sendAll 0 = .ok (.iconst 0, 1) := by decide +kernel
theorem dX9_sendAll_1 : decode cX9_sendAll 1 = .ok (.istore 8, 2) := by decide +kernel
theorem dX9_sendAll_3 : decode cX9_sendAll 3 = .ok (.iload 8, 2) := by decide +kernel
theorem dX9_sendAll_5 : decode cX9_sendAll 5 = .ok (.aload_n 0, 1) := by decide +kernel
theorem dX9_sendAll_6 : decode cX9_sendAll 6 = .ok (.getfield 95, 3) := by decide +kernel
theorem dX9_sendAll_9 : decode cX9_sendAll 9 = .ok (.if_icmp .ge 40, 3) := by decide +kernel
theorem dX9_sendAll_12 : decode cX9_sendAll 12 = .ok (.iload 8, 2) := by decide +kernel
theorem dX9_sendAll_14 : decode cX9_sendAll 14 = .ok (.iload_n 1, 1) := by decide +kernel
theorem dX9_sendAll_15 : decode cX9_sendAll 15 = .ok (.if_icmp .eq 28, 3) := by decide +kernel
theorem dX9_sendAll_18 : decode cX9_sendAll 18 = .ok (.iload_n 2, 1) := by decide +kernel
theorem dX9_sendAll_19 : decode cX9_sendAll 19 = .ok (.iload 8, 2) := by decide +kernel
theorem dX9_sendAll_21 : decode cX9_sendAll 21 = .ok (.invokestatic 99, 3) := by decide +kernel
theorem dX9_sendAll_24 : decode cX9_sendAll 24 = .ok (.ifCond .eq 19, 3) := by decide +kernel
theorem dX9_sendAll_27 : decode cX9_sendAll 27 = .ok (.aload_n 0, 1) := by decide +kernel
theorem dX9_sendAll_28 : decode cX9_sendAll 28 = .ok (.iload_n 1, 1) := by decide +kernel
theorem dX9_sendAll_29 : decode cX9_sendAll 29 = .ok (.iload 8, 2) := by decide +kernel
theorem dX9_sendAll_31 : decode cX9_sendAll 31 = .ok (.iload_n 3, 1) := by decide +kernel
theorem dX9_sendAll_32 : decode cX9_sendAll 32 = .ok (.iload 4, 2) := by decide +kernel
theorem dX9_sendAll_34 : decode cX9_sendAll 34 = .ok (.iload 5, 2) := by decide +kernel
theorem dX9_sendAll_36 : decode cX9_sendAll 36 = .ok (.iload 6, 2) := by decide +kernel
theorem dX9_sendAll_38 : decode cX9_sendAll 38 = .ok (.iload 7, 2) := by decide +kernel
theorem dX9_sendAll_40 : decode cX9_sendAll 40 = .ok (.invokevirtual 111, 3) := by decide +kernel
theorem dX9_sendAll_43 : decode cX9_sendAll 43 = .ok (.iinc 8 1, 3) := by decide +kernel
theorem dX9_sendAll_46 : decode cX9_sendAll 46 = .ok (.goto (-43), 3) := by decide +kernel
theorem dX9_sendAll_49 : decode cX9_sendAll 49 = .ok (.return_, 1) := by decide +kernel
theorem dX9_oldest_0 : decode cX9_oldest 0 = .ok (.iconst (-1), 1) := by decide +kernel
theorem dX9_oldest_1 : decode cX9_oldest 1 = .ok (.istore_n 3, 1) := by decide +kernel
theorem dX9_oldest_2 : decode cX9_oldest 2 = .ok (.iconst 0, 1) := by decide +kernel
theorem dX9_oldest_3 : decode cX9_oldest 3 = .ok (.istore 4, 2) := by decide +kernel
theorem dX9_oldest_5 : decode cX9_oldest 5 = .ok (.iload 4, 2) := by decide +kernel
theorem dX9_oldest_7 : decode cX9_oldest 7 = .ok (.sipush 500, 3) := by decide +kernel
theorem dX9_oldest_10 : decode cX9_oldest 10 = .ok (.if_icmp .ge 65, 3) := by decide +kernel
theorem dX9_oldest_13 : decode cX9_oldest 13 = .ok (.aload_n 0, 1) := by decide +kernel
theorem dX9_oldest_14 : decode cX9_oldest 14 = .ok (.getfield 67, 3) := by decide +kernel
theorem dX9_oldest_17 : decode cX9_oldest 17 = .ok (.iload 4, 2) := by decide +kernel
theorem dX9_oldest_19 : decode cX9_oldest 19 = .ok (.baload, 1) := by decide +kernel
theorem dX9_oldest_20 : decode cX9_oldest 20 = .ok (.ifCond .eq 49, 3) := by decide +kernel
theorem dX9_oldest_23 : decode cX9_oldest 23 = .ok (.aload_n 0, 1) := by decide +kernel
theorem dX9_oldest_24 : decode cX9_oldest 24 = .ok (.getfield 71, 3) := by decide +kernel
theorem dX9_oldest_27 : decode cX9_oldest 27 = .ok (.iload 4, 2) := by decide +kernel
theorem dX9_oldest_29 : decode cX9_oldest 29 = .ok (.iaload, 1) := by decide +kernel
theorem dX9_oldest_30 : decode cX9_oldest 30 = .ok (.iload_n 1, 1) := by decide +kernel
theorem dX9_oldest_31 : decode cX9_oldest 31 = .ok (.if_icmp .ne 38, 3) := by decide +kernel
theorem dX9_oldest_34 : decode cX9_oldest 34 = .ok (.aload_n 0, 1) := by decide +kernel
theorem dX9_oldest_35 : decode cX9_oldest 35 = .ok (.getfield 74, 3) := by decide +kernel
theorem dX9_oldest_38 : decode cX9_oldest 38 = .ok (.iload 4, 2) := by decide +kernel
theorem dX9_oldest_40 : decode cX9_oldest 40 = .ok (.iaload, 1) := by decide +kernel
theorem dX9_oldest_41 : decode cX9_oldest 41 = .ok (.iload_n 2, 1) := by decide +kernel
theorem dX9_oldest_42 : decode cX9_oldest 42 = .ok (.if_icmp .ne 27, 3) := by decide +kernel
theorem dX9_oldest_45 : decode cX9_oldest 45 = .ok (.iload_n 3, 1) := by decide +kernel
theorem dX9_oldest_46 : decode cX9_oldest 46 = .ok (.iconst (-1), 1) := by decide +kernel
theorem dX9_oldest_47 : decode cX9_oldest 47 = .ok (.if_icmp .eq 19, 3) := by decide +kernel
theorem dX9_oldest_50 : decode cX9_oldest 50 = .ok (.aload_n 0, 1) := by decide +kernel
theorem dX9_oldest_51 : decode cX9_oldest 51 = .ok (.getfield 92, 3) := by decide +kernel
theorem dX9_oldest_54 : decode cX9_oldest 54 = .ok (.iload 4, 2) := by decide +kernel
theorem dX9_oldest_56 : decode cX9_oldest 56 = .ok (.iaload, 1) := by decide +kernel
theorem dX9_oldest_57 : decode cX9_oldest 57 = .ok (.aload_n 0, 1) := by decide +kernel
theorem dX9_oldest_58 : decode cX9_oldest 58 = .ok (.getfield 92, 3) := by decide +kernel
theorem dX9_oldest_61 : decode cX9_oldest 61 = .ok (.iload_n 3, 1) := by decide +kernel
theorem dX9_oldest_62 : decode cX9_oldest 62 = .ok (.iaload, 1) := by decide +kernel
theorem dX9_oldest_63 : decode cX9_oldest 63 = .ok (.if_icmp .ge 6, 3) := by decide +kernel
theorem dX9_oldest_66 : decode cX9_oldest 66 = .ok (.iload 4, 2) := by decide +kernel
theorem dX9_oldest_68 : decode cX9_oldest 68 = .ok (.istore_n 3, 1) := by decide +kernel
theorem dX9_oldest_69 : decode cX9_oldest 69 = .ok (.iinc 4 1, 3) := by decide +kernel
theorem dX9_oldest_72 : decode cX9_oldest 72 = .ok (.goto (-67), 3) := by decide +kernel
theorem dX9_oldest_75 : decode cX9_oldest 75 = .ok (.iload_n 3, 1) := by decide +kernel
theorem dX9_oldest_76 : decode cX9_oldest 76 = .ok (.ireturn, 1) := by decide +kernel
theorem dX9_push_0 : decode cX9_push 0 = .ok (.aload_n 0, 1) := by decide +kernel
theorem dX9_push_1 : decode cX9_push 1 = .ok (.getfield 61, 3) := by decide +kernel
theorem dX9_push_4 : decode cX9_push 4 = .ok (.bipush 20, 2) := by decide +kernel
theorem dX9_push_6 : decode cX9_push 6 = .ok (.iload_n 1, 1) := by decide +kernel
theorem dX9_push_7 : decode cX9_push 7 = .ok (.imul, 1) := by decide +kernel
theorem dX9_push_8 : decode cX9_push 8 = .ok (.aload_n 0, 1) := by decide +kernel
theorem dX9_push_9 : decode cX9_push 9 = .ok (.getfield 64, 3) := by decide +kernel
theorem dX9_push_12 : decode cX9_push 12 = .ok (.iload_n 1, 1) := by decide +kernel
theorem dX9_push_13 : decode cX9_push 13 = .ok (.iaload, 1) := by decide +kernel
theorem dX9_push_14 : decode cX9_push 14 = .ok (.iadd, 1) := by decide +kernel
theorem dX9_push_15 : decode cX9_push 15 = .ok (.iload_n 2, 1) := by decide +kernel
theorem dX9_push_16 : decode cX9_push 16 = .ok (.iastore, 1) := by decide +kernel
theorem dX9_push_17 : decode cX9_push 17 = .ok (.aload_n 0, 1) := by decide +kernel
theorem dX9_push_18 : decode cX9_push 18 = .ok (.getfield 64, 3) := by decide +kernel
theorem dX9_push_21 : decode cX9_push 21 = .ok (.iload_n 1, 1) := by decide +kernel
theorem dX9_push_22 : decode cX9_push 22 = .ok (.dup2, 1) := by decide +kernel
theorem dX9_push_23 : decode cX9_push 23 = .ok (.iaload, 1) := by decide +kernel
theorem dX9_push_24 : decode cX9_push 24 = .ok (.iconst 1, 1) := by decide +kernel
theorem dX9_push_25 : decode cX9_push 25 = .ok (.iadd, 1) := by decide +kernel
theorem dX9_push_26 : decode cX9_push 26 = .ok (.iastore, 1) := by decide +kernel
theorem dX9_push_27 : decode cX9_push 27 = .ok (.return_, 1) := by decide +kernel
theorem dX9_carry_0 : decode cX9_carry 0 = .ok (.aload_n 0, 1) := by decide +kernel
theorem dX9_carry_1 : decode cX9_carry 1 = .ok (.getfield 19, 3) := by decide +kernel
theorem dX9_carry_4 : decode cX9_carry 4 = .ok (.bipush 60, 2) := by decide +kernel
theorem dX9_carry_6 : decode cX9_carry 6 = .ok (.iload_n 1, 1) := by decide +kernel
theorem dX9_carry_7 : decode cX9_carry 7 = .ok (.imul, 1) := by decide +kernel
theorem dX9_carry_8 : decode cX9_carry 8 = .ok (.aload_n 0, 1) := by decide +kernel
theorem dX9_carry_9 : decode cX9_carry 9 = .ok (.getfield 25, 3) := by decide +kernel
theorem dX9_carry_12 : decode cX9_carry 12 = .ok (.iload_n 1, 1) := by decide +kernel
theorem dX9_carry_13 : decode cX9_carry 13 = .ok (.iaload, 1) := by decide +kernel
theorem dX9_carry_14 : decode cX9_carry 14 = .ok (.iadd, 1) := by decide +kernel
theorem dX9_carry_15 : decode cX9_carry 15 = .ok (.iaload, 1) := by decide +kernel
theorem dX9_carry_16 : decode cX9_carry 16 = .ok (.istore_n 2, 1) := by decide +kernel
theorem dX9_carry_17 : decode cX9_carry 17 = .ok (.aload_n 0, 1) := by decide +kernel
theorem dX9_carry_18 : decode cX9_carry 18 = .ok (.getfield 25, 3) := by decide +kernel
theorem dX9_carry_21 : decode cX9_carry 21 = .ok (.iload_n 1, 1) := by decide +kernel
theorem dX9_carry_22 : decode cX9_carry 22 = .ok (.dup2, 1) := by decide +kernel
theorem dX9_carry_23 : decode cX9_carry 23 = .ok (.iaload, 1) := by decide +kernel
theorem dX9_carry_24 : decode cX9_carry 24 = .ok (.iconst 1, 1) := by decide +kernel
theorem dX9_carry_25 : decode cX9_carry 25 = .ok (.iadd, 1) := by decide +kernel
theorem dX9_carry_26 : decode cX9_carry 26 = .ok (.iastore, 1) := by decide +kernel
theorem dX9_carry_27 : decode cX9_carry 27 = .ok (.aload_n 0, 1) := by decide +kernel
theorem dX9_carry_28 : decode cX9_carry 28 = .ok (.dup, 1) := by decide +kernel
theorem dX9_carry_29 : decode cX9_carry 29 = .ok (.getfield 115, 3) := by decide +kernel
theorem dX9_carry_32 : decode cX9_carry 32 = .ok (.iconst 1, 1) := by decide +kernel
theorem dX9_carry_33 : decode cX9_carry 33 = .ok (.iadd, 1) := by decide +kernel
theorem dX9_carry_34 : decode cX9_carry 34 = .ok (.putfield 115, 3) := by decide +kernel
theorem dX9_carry_37 : decode cX9_carry 37 = .ok (.iload_n 2, 1) := by decide +kernel
theorem dX9_carry_38 : decode cX9_carry 38 = .ok (.bipush 7, 2) := by decide +kernel
theorem dX9_carry_40 : decode cX9_carry 40 = .ok (.iand, 1) := by decide +kernel
theorem dX9_carry_41 : decode cX9_carry 41 = .ok (.istore_n 3, 1) := by decide +kernel
theorem dX9_carry_42 : decode cX9_carry 42 = .ok (.bipush 20, 2) := by decide +kernel
theorem dX9_carry_44 : decode cX9_carry 44 = .ok (.iload_n 1, 1) := by decide +kernel
theorem dX9_carry_45 : decode cX9_carry 45 = .ok (.imul, 1) := by decide +kernel
theorem dX9_carry_46 : decode cX9_carry 46 = .ok (.aload_n 0, 1) := by decide +kernel
theorem dX9_carry_47 : decode cX9_carry 47 = .ok (.getfield 64, 3) := by decide +kernel
theorem dX9_carry_50 : decode cX9_carry 50 = .ok (.iload_n 1, 1) := by decide +kernel
theorem dX9_carry_51 : decode cX9_carry 51 = .ok (.iaload, 1) := by decide +kernel
theorem dX9_carry_52 : decode cX9_carry 52 = .ok (.iadd, 1) := by decide +kernel
theorem dX9_carry_53 : decode cX9_carry 53 = .ok (.iconst 1, 1) := by decide +kernel
theorem dX9_carry_54 : decode cX9_carry 54 = .ok (.isub, 1) := by decide +kernel
theorem dX9_carry_55 : decode cX9_carry 55 = .ok (.istore 4, 2) := by decide +kernel
theorem dX9_carry_57 : decode cX9_carry 57 = .ok (.iload_n 3, 1) := by decide +kernel
theorem dX9_carry_58 : decode cX9_carry 58 = .ok (.tableswitch 190 0 4 #[34, 56, 56, 133, 168], 34) := by decide +kernel
theorem dX9_carry_92 : decode cX9_carry 92 = .ok (.aload_n 0, 1) := by decide +kernel
theorem dX9_carry_93 : decode cX9_carry 93 = .ok (.getfield 64, 3) := by decide +kernel
theorem dX9_carry_96 : decode cX9_carry 96 = .ok (.iload_n 1, 1) := by decide +kernel
theorem dX9_carry_97 : decode cX9_carry 97 = .ok (.iaload, 1) := by decide +kernel
theorem dX9_carry_98 : decode cX9_carry 98 = .ok (.bipush 20, 2) := by decide +kernel
theorem dX9_carry_100 : decode cX9_carry 100 = .ok (.if_icmp .ge 197, 3) := by decide +kernel
theorem dX9_carry_103 : decode cX9_carry 103 = .ok (.aload_n 0, 1) := by decide +kernel
theorem dX9_carry_104 : decode cX9_carry 104 = .ok (.iload_n 1, 1) := by decide +kernel
theorem dX9_carry_105 : decode cX9_carry 105 = .ok (.iload_n 2, 1) := by decide +kernel
theorem dX9_carry_106 : decode cX9_carry 106 = .ok (.iconst 3, 1) := by decide +kernel
theorem dX9_carry_107 : decode cX9_carry 107 = .ok (.ishr, 1) := by decide +kernel
theorem dX9_carry_108 : decode cX9_carry 108 = .ok (.invokevirtual 118, 3) := by decide +kernel
theorem dX9_carry_111 : decode cX9_carry 111 = .ok (.goto 186, 3) := by decide +kernel
theorem dX9_carry_114 : decode cX9_carry 114 = .ok (.aload_n 0, 1) := by decide +kernel
theorem dX9_carry_115 : decode cX9_carry 115 = .ok (.getfield 64, 3) := by decide +kernel
theorem dX9_carry_118 : decode cX9_carry 118 = .ok (.iload_n 1, 1) := by decide +kernel
theorem dX9_carry_119 : decode cX9_carry 119 = .ok (.iaload, 1) := by decide +kernel
theorem dX9_carry_120 : decode cX9_carry 120 = .ok (.iconst 2, 1) := by decide +kernel
theorem dX9_carry_121 : decode cX9_carry 121 = .ok (.if_icmp .ge 6, 3) := by decide +kernel
theorem dX9_carry_124 : decode cX9_carry 124 = .ok (.goto 173, 3) := by decide +kernel
theorem dX9_carry_127 : decode cX9_carry 127 = .ok (.aload_n 0, 1) := by decide +kernel
theorem dX9_carry_128 : decode cX9_carry 128 = .ok (.getfield 61, 3) := by decide +kernel
theorem dX9_carry_131 : decode cX9_carry 131 = .ok (.iload 4, 2) := by decide +kernel
theorem dX9_carry_133 : decode cX9_carry 133 = .ok (.iconst 1, 1) := by decide +kernel
theorem dX9_carry_134 : decode cX9_carry 134 = .ok (.isub, 1) := by decide +kernel
theorem dX9_carry_135 : decode cX9_carry 135 = .ok (.iload_n 3, 1) := by decide +kernel
theorem dX9_carry_136 : decode cX9_carry 136 = .ok (.iconst 1, 1) := by decide +kernel
theorem dX9_carry_137 : decode cX9_carry 137 = .ok (.if_icmp .ne 23, 3) := by decide +kernel
theorem dX9_carry_140 : decode cX9_carry 140 = .ok (.aload_n 0, 1) := by decide +kernel
theorem dX9_carry_141 : decode cX9_carry 141 = .ok (.getfield 61, 3) := by decide +kernel
theorem dX9_carry_144 : decode cX9_carry 144 = .ok (.iload 4, 2) := by decide +kernel
theorem dX9_carry_146 : decode cX9_carry 146 = .ok (.iconst 1, 1) := by decide +kernel
theorem dX9_carry_147 : decode cX9_carry 147 = .ok (.isub, 1) := by decide +kernel
theorem dX9_carry_148 : decode cX9_carry 148 = .ok (.iaload, 1) := by decide +kernel
theorem dX9_carry_149 : decode cX9_carry 149 = .ok (.aload_n 0, 1) := by decide +kernel
theorem dX9_carry_150 : decode cX9_carry 150 = .ok (.getfield 61, 3) := by decide +kernel
theorem dX9_carry_153 : decode cX9_carry 153 = .ok (.iload 4, 2) := by decide +kernel
theorem dX9_carry_155 : decode cX9_carry 155 = .ok (.iaload, 1) := by decide +kernel
theorem dX9_carry_156 : decode cX9_carry 156 = .ok (.iadd, 1) := by decide +kernel
theorem dX9_carry_157 : decode cX9_carry 157 = .ok (.goto 20, 3) := by decide +kernel
theorem dX9_carry_160 : decode cX9_carry 160 = .ok (.aload_n 0, 1) := by decide +kernel
theorem dX9_carry_161 : decode cX9_carry 161 = .ok (.getfield 61, 3) := by decide +kernel
theorem dX9_carry_164 : decode cX9_carry 164 = .ok (.iload 4, 2) := by decide +kernel
theorem dX9_carry_166 : decode cX9_carry 166 = .ok (.iconst 1, 1) := by decide +kernel
theorem dX9_carry_167 : decode cX9_carry 167 = .ok (.isub, 1) := by decide +kernel
theorem dX9_carry_168 : decode cX9_carry 168 = .ok (.iaload, 1) := by decide +kernel
theorem dX9_carry_169 : decode cX9_carry 169 = .ok (.aload_n 0, 1) := by decide +kernel
theorem dX9_carry_170 : decode cX9_carry 170 = .ok (.getfield 61, 3) := by decide +kernel
theorem dX9_carry_173 : decode cX9_carry 173 = .ok (.iload 4, 2) := by decide +kernel
theorem dX9_carry_175 : decode cX9_carry 175 = .ok (.iaload, 1) := by decide +kernel
theorem dX9_carry_176 : decode cX9_carry 176 = .ok (.imul, 1) := by decide +kernel
theorem dX9_carry_177 : decode cX9_carry 177 = .ok (.iastore, 1) := by decide +kernel
theorem dX9_carry_178 : decode cX9_carry 178 = .ok (.aload_n 0, 1) := by decide +kernel
theorem dX9_carry_179 : decode cX9_carry 179 = .ok (.getfield 64, 3) := by decide +kernel
theorem dX9_carry_182 : decode cX9_carry 182 = .ok (.iload_n 1, 1) := by decide +kernel
theorem dX9_carry_183 : decode cX9_carry 183 = .ok (.dup2, 1) := by decide +kernel
theorem dX9_carry_184 : decode cX9_carry 184 = .ok (.iaload, 1) := by decide +kernel
theorem dX9_carry_185 : decode cX9_carry 185 = .ok (.iconst 1, 1) := by decide +kernel
theorem dX9_carry_186 : decode cX9_carry 186 = .ok (.isub, 1) := by decide +kernel
theorem dX9_carry_187 : decode cX9_carry 187 = .ok (.iastore, 1) := by decide +kernel
theorem dX9_carry_188 : decode cX9_carry 188 = .ok (.goto 109, 3) := by decide +kernel
theorem dX9_carry_191 : decode cX9_carry 191 = .ok (.aload_n 0, 1) := by decide +kernel
theorem dX9_carry_192 : decode cX9_carry 192 = .ok (.getfield 64, 3) := by decide +kernel
theorem dX9_carry_195 : decode cX9_carry 195 = .ok (.iload_n 1, 1) := by decide +kernel
theorem dX9_carry_196 : decode cX9_carry 196 = .ok (.iaload, 1) := by decide +kernel
theorem dX9_carry_197 : decode cX9_carry 197 = .ok (.ifCond .le 100, 3) := by decide +kernel
theorem dX9_carry_200 : decode cX9_carry 200 = .ok (.aload_n 0, 1) := by decide +kernel
theorem dX9_carry_201 : decode cX9_carry 201 = .ok (.getfield 64, 3) := by decide +kernel
theorem dX9_carry_204 : decode cX9_carry 204 = .ok (.iload_n 1, 1) := by decide +kernel
theorem dX9_carry_205 : decode cX9_carry 205 = .ok (.iaload, 1) := by decide +kernel
theorem dX9_carry_206 : decode cX9_carry 206 = .ok (.bipush 20, 2) := by decide +kernel
theorem dX9_carry_208 : decode cX9_carry 208 = .ok (.if_icmp .ge 89, 3) := by decide +kernel
theorem dX9_carry_211 : decode cX9_carry 211 = .ok (.aload_n 0, 1) := by decide +kernel
theorem dX9_carry_212 : decode cX9_carry 212 = .ok (.iload_n 1, 1) := by decide +kernel
theorem dX9_carry_213 : decode cX9_carry 213 = .ok (.aload_n 0, 1) := by decide +kernel
theorem dX9_carry_214 : decode cX9_carry 214 = .ok (.getfield 61, 3) := by decide +kernel
theorem dX9_carry_217 : decode cX9_carry 217 = .ok (.iload 4, 2) := by decide +kernel
theorem dX9_carry_219 : decode cX9_carry 219 = .ok (.iaload, 1) := by decide +kernel
theorem dX9_carry_220 : decode cX9_carry 220 = .ok (.invokevirtual 118, 3) := by decide +kernel
theorem dX9_carry_223 : decode cX9_carry 223 = .ok (.goto 74, 3) := by decide +kernel
theorem dX9_carry_226 : decode cX9_carry 226 = .ok (.aload_n 0, 1) := by decide +kernel
theorem dX9_carry_227 : decode cX9_carry 227 = .ok (.getfield 64, 3) := by decide +kernel
theorem dX9_carry_230 : decode cX9_carry 230 = .ok (.iload_n 1, 1) := by decide +kernel
theorem dX9_carry_231 : decode cX9_carry 231 = .ok (.iaload, 1) := by decide +kernel
theorem dX9_carry_232 : decode cX9_carry 232 = .ok (.ifCond .le 65, 3) := by decide +kernel
theorem dX9_carry_235 : decode cX9_carry 235 = .ok (.aload_n 0, 1) := by decide +kernel
theorem dX9_carry_236 : decode cX9_carry 236 = .ok (.getfield 64, 3) := by decide +kernel
theorem dX9_carry_239 : decode cX9_carry 239 = .ok (.iload_n 1, 1) := by decide +kernel
theorem dX9_carry_240 : decode cX9_carry 240 = .ok (.dup2, 1) := by decide +kernel
theorem dX9_carry_241 : decode cX9_carry 241 = .ok (.iaload, 1) := by decide +kernel
theorem dX9_carry_242 : decode cX9_carry 242 = .ok (.iconst 1, 1) := by decide +kernel
theorem dX9_carry_243 : decode cX9_carry 243 = .ok (.isub, 1) := by decide +kernel
theorem dX9_carry_244 : decode cX9_carry 244 = .ok (.iastore, 1) := by decide +kernel
theorem dX9_carry_245 : decode cX9_carry 245 = .ok (.goto 52, 3) := by decide +kernel
theorem dX9_carry_248 : decode cX9_carry 248 = .ok (.aload_n 0, 1) := by decide +kernel
theorem dX9_carry_249 : decode cX9_carry 249 = .ok (.getfield 64, 3) := by decide +kernel
theorem dX9_carry_252 : decode cX9_carry 252 = .ok (.iload_n 1, 1) := by decide +kernel
theorem dX9_carry_253 : decode cX9_carry 253 = .ok (.iaload, 1) := by decide +kernel
theorem dX9_carry_254 : decode cX9_carry 254 = .ok (.iconst 2, 1) := by decide +kernel
theorem dX9_carry_255 : decode cX9_carry 255 = .ok (.if_icmp .ge 6, 3) := by decide +kernel
theorem dX9_carry_258 : decode cX9_carry 258 = .ok (.goto 39, 3) := by decide +kernel
theorem dX9_carry_261 : decode cX9_carry 261 = .ok (.aload_n 0, 1) := by decide +kernel
theorem dX9_carry_262 : decode cX9_carry 262 = .ok (.getfield 61, 3) := by decide +kernel
theorem dX9_carry_265 : decode cX9_carry 265 = .ok (.iload 4, 2) := by decide +kernel
theorem dX9_carry_267 : decode cX9_carry 267 = .ok (.iaload, 1) := by decide +kernel
theorem dX9_carry_268 : decode cX9_carry 268 = .ok (.istore 5, 2) := by decide +kernel
theorem dX9_carry_270 : decode cX9_carry 270 = .ok (.aload_n 0, 1) := by decide +kernel
theorem dX9_carry_271 : decode cX9_carry 271 = .ok (.getfield 61, 3) := by decide +kernel
theorem dX9_carry_274 : decode cX9_carry 274 = .ok (.iload 4, 2) := by decide +kernel
theorem dX9_carry_276 : decode cX9_carry 276 = .ok (.aload_n 0, 1) := by decide +kernel
theorem dX9_carry_277 : decode cX9_carry 277 = .ok (.getfield 61, 3) := by decide +kernel
theorem dX9_carry_280 : decode cX9_carry 280 = .ok (.iload 4, 2) := by decide +kernel
theorem dX9_carry_282 : decode cX9_carry 282 = .ok (.iconst 1, 1) := by decide +kernel
theorem dX9_carry_283 : decode cX9_carry 283 = .ok (.isub, 1) := by decide +kernel
theorem dX9_carry_284 : decode cX9_carry 284 = .ok (.iaload, 1) := by decide +kernel
theorem dX9_carry_285 : decode cX9_carry 285 = .ok (.iastore, 1) := by decide +kernel
theorem dX9_carry_286 : decode cX9_carry 286 = .ok (.aload_n 0, 1) := by decide +kernel
theorem dX9_carry_287 : decode cX9_carry 287 = .ok (.getfield 61, 3) := by decide +kernel
theorem dX9_carry_290 : decode cX9_carry 290 = .ok (.iload 4, 2) := by decide +kernel
theorem dX9_carry_292 : decode cX9_carry 292 = .ok (.iconst 1, 1) := by decide +kernel
theorem dX9_carry_293 : decode cX9_carry 293 = .ok (.isub, 1) := by decide +kernel
theorem dX9_carry_294 : decode cX9_carry 294 = .ok (.iload 5, 2) := by decide +kernel
theorem dX9_carry_296 : decode cX9_carry 296 = .ok (.iastore, 1) := by decide +kernel
theorem dX9_carry_297 : decode cX9_carry 297 = .ok (.return_, 1) := by decide +kernel
theorem dX9_carryTo_0 : decode cX9_carryTo 0 = .ok (.aload_n 0, 1) := by decide +kernel
theorem dX9_carryTo_1 : decode cX9_carryTo 1 = .ok (.getfield 25, 3) := by decide +kernel
theorem dX9_carryTo_4 : decode cX9_carryTo 4 = .ok (.iload_n 1, 1) := by decide +kernel
theorem dX9_carryTo_5 : decode cX9_carryTo 5 = .ok (.iaload, 1) := by decide +kernel
theorem dX9_carryTo_6 : decode cX9_carryTo 6 = .ok (.iload_n 2, 1) := by decide +kernel
theorem dX9_carryTo_7 : decode cX9_carryTo 7 = .ok (.if_icmp .ge 26, 3) := by decide +kernel
theorem dX9_carryTo_10 : decode cX9_carryTo 10 = .ok (.aload_n 0, 1) := by decide +kernel
theorem dX9_carryTo_11 : decode cX9_carryTo 11 = .ok (.getfield 25, 3) := by decide +kernel
theorem dX9_carryTo_14 : decode cX9_carryTo 14 = .ok (.iload_n 1, 1) := by decide +kernel
theorem dX9_carryTo_15 : decode cX9_carryTo 15 = .ok (.iaload, 1) := by decide +kernel
theorem dX9_carryTo_16 : decode cX9_carryTo 16 = .ok (.aload_n 0, 1) := by decide +kernel
theorem dX9_carryTo_17 : decode cX9_carryTo 17 = .ok (.getfield 22, 3) := by decide +kernel
theorem dX9_carryTo_20 : decode cX9_carryTo 20 = .ok (.iload_n 1, 1) := by decide +kernel
theorem dX9_carryTo_21 : decode cX9_carryTo 21 = .ok (.iaload, 1) := by decide +kernel
theorem dX9_carryTo_22 : decode cX9_carryTo 22 = .ok (.if_icmp .ge 11, 3) := by decide +kernel
theorem dX9_carryTo_25 : decode cX9_carryTo 25 = .ok (.aload_n 0, 1) := by decide +kernel
theorem dX9_carryTo_26 : decode cX9_carryTo 26 = .ok (.iload_n 1, 1) := by decide +kernel
theorem dX9_carryTo_27 : decode cX9_carryTo 27 = .ok (.invokevirtual 122, 3) := by decide +kernel
theorem dX9_carryTo_30 : decode cX9_carryTo 30 = .ok (.goto (-30), 3) := by decide +kernel
theorem dX9_carryTo_33 : decode cX9_carryTo 33 = .ok (.return_, 1) := by decide +kernel
theorem dX9_isAct_0 : decode cX9_isAct 0 = .ok (.iload_n 0, 1) := by decide +kernel
theorem dX9_isAct_1 : decode cX9_isAct 1 = .ok (.bipush 7, 2) := by decide +kernel
theorem dX9_isAct_3 : decode cX9_isAct 3 = .ok (.iand, 1) := by decide +kernel
theorem dX9_isAct_4 : decode cX9_isAct 4 = .ok (.istore_n 1, 1) := by decide +kernel
theorem dX9_isAct_5 : decode cX9_isAct 5 = .ok (.iload_n 0, 1) := by decide +kernel
theorem dX9_isAct_6 : decode cX9_isAct 6 = .ok (.iconst 3, 1) := by decide +kernel
theorem dX9_isAct_7 : decode cX9_isAct 7 = .ok (.ishr, 1) := by decide +kernel
theorem dX9_isAct_8 : decode cX9_isAct 8 = .ok (.istore_n 2, 1) := by decide +kernel
theorem dX9_isAct_9 : decode cX9_isAct 9 = .ok (.iload_n 1, 1) := by decide +kernel
theorem dX9_isAct_10 : decode cX9_isAct 10 = .ok (.ifCond .ne 25, 3) := by decide +kernel
theorem dX9_isAct_13 : decode cX9_isAct 13 = .ok (.iload_n 2, 1) := by decide +kernel
theorem dX9_isAct_14 : decode cX9_isAct 14 = .ok (.sipush (-1000), 3) := by decide +kernel
theorem dX9_isAct_17 : decode cX9_isAct 17 = .ok (.if_icmp .lt 14, 3) := by decide +kernel
theorem dX9_isAct_20 : decode cX9_isAct 20 = .ok (.iload_n 2, 1) := by decide +kernel
theorem dX9_isAct_21 : decode cX9_isAct 21 = .ok (.sipush 1000, 3) := by decide +kernel
theorem dX9_isAct_24 : decode cX9_isAct 24 = .ok (.if_icmp .gt 7, 3) := by decide +kernel
theorem dX9_isAct_27 : decode cX9_isAct 27 = .ok (.iconst 1, 1) := by decide +kernel
theorem dX9_isAct_28 : decode cX9_isAct 28 = .ok (.goto 22, 3) := by decide +kernel
theorem dX9_isAct_31 : decode cX9_isAct 31 = .ok (.iconst 0, 1) := by decide +kernel
theorem dX9_isAct_32 : decode cX9_isAct 32 = .ok (.goto 18, 3) := by decide +kernel
theorem dX9_isAct_35 : decode cX9_isAct 35 = .ok (.iload_n 1, 1) := by decide +kernel
theorem dX9_isAct_36 : decode cX9_isAct 36 = .ok (.bipush 6, 2) := by decide +kernel
theorem dX9_isAct_38 : decode cX9_isAct 38 = .ok (.if_icmp .ge 11, 3) := by decide +kernel
theorem dX9_isAct_41 : decode cX9_isAct 41 = .ok (.iload_n 2, 1) := by decide +kernel
theorem dX9_isAct_42 : decode cX9_isAct 42 = .ok (.ifCond .ne 7, 3) := by decide +kernel
theorem dX9_isAct_45 : decode cX9_isAct 45 = .ok (.iconst 1, 1) := by decide +kernel
theorem dX9_isAct_46 : decode cX9_isAct 46 = .ok (.goto 4, 3) := by decide +kernel
theorem dX9_isAct_49 : decode cX9_isAct 49 = .ok (.iconst 0, 1) := by decide +kernel
theorem dX9_isAct_50 : decode cX9_isAct 50 = .ok (.ireturn, 1) := by decide +kernel
theorem dX9_add_0 : decode cX9_add 0 = .ok (.aload_n 0, 1) := by decide +kernel
theorem dX9_add_1 : decode cX9_add 1 = .ok (.getfield 22, 3) := by decide +kernel
theorem dX9_add_4 : decode cX9_add 4 = .ok (.iload_n 1, 1) := by decide +kernel
theorem dX9_add_5 : decode cX9_add 5 = .ok (.iaload, 1) := by decide +kernel
theorem dX9_add_6 : decode cX9_add 6 = .ok (.istore_n 3, 1) := by decide +kernel
theorem dX9_add_7 : decode cX9_add 7 = .ok (.aload_n 0, 1) := by decide +kernel
theorem dX9_add_8 : decode cX9_add 8 = .ok (.getfield 19, 3) := by decide +kernel
theorem dX9_add_11 : decode cX9_add 11 = .ok (.bipush 60, 2) := by decide +kernel
theorem dX9_add_13 : decode cX9_add 13 = .ok (.iload_n 1, 1) := by decide +kernel
theorem dX9_add_14 : decode cX9_add 14 = .ok (.imul, 1) := by decide +kernel
theorem dX9_add_15 : decode cX9_add 15 = .ok (.iload_n 3, 1) := by decide +kernel
theorem dX9_add_16 : decode cX9_add 16 = .ok (.iadd, 1) := by decide +kernel
theorem dX9_add_17 : decode cX9_add 17 = .ok (.iload_n 2, 1) := by decide +kernel
theorem dX9_add_18 : decode cX9_add 18 = .ok (.iastore, 1) := by decide +kernel
theorem dX9_add_19 : decode cX9_add 19 = .ok (.aload_n 0, 1) := by decide +kernel
theorem dX9_add_20 : decode cX9_add 20 = .ok (.getfield 22, 3) := by decide +kernel
theorem dX9_add_23 : decode cX9_add 23 = .ok (.iload_n 1, 1) := by decide +kernel
theorem dX9_add_24 : decode cX9_add 24 = .ok (.dup2, 1) := by decide +kernel
theorem dX9_add_25 : decode cX9_add 25 = .ok (.iaload, 1) := by decide +kernel
theorem dX9_add_26 : decode cX9_add 26 = .ok (.iconst 1, 1) := by decide +kernel
theorem dX9_add_27 : decode cX9_add 27 = .ok (.iadd, 1) := by decide +kernel
theorem dX9_add_28 : decode cX9_add 28 = .ok (.iastore, 1) := by decide +kernel
theorem dX9_add_29 : decode cX9_add 29 = .ok (.aload_n 0, 1) := by decide +kernel
theorem dX9_add_30 : decode cX9_add 30 = .ok (.iload_n 1, 1) := by decide +kernel
theorem dX9_add_31 : decode cX9_add 31 = .ok (.aload_n 0, 1) := by decide +kernel
theorem dX9_add_32 : decode cX9_add 32 = .ok (.getfield 16, 3) := by decide +kernel
theorem dX9_add_35 : decode cX9_add 35 = .ok (.iload_n 1, 1) := by decide +kernel
theorem dX9_add_36 : decode cX9_add 36 = .ok (.iaload, 1) := by decide +kernel
theorem dX9_add_37 : decode cX9_add 37 = .ok (.iconst 2, 1) := by decide +kernel
theorem dX9_add_38 : decode cX9_add 38 = .ok (.aload_n 0, 1) := by decide +kernel
theorem dX9_add_39 : decode cX9_add 39 = .ok (.getfield 13, 3) := by decide +kernel
theorem dX9_add_42 : decode cX9_add 42 = .ok (.iload_n 1, 1) := by decide +kernel
theorem dX9_add_43 : decode cX9_add 43 = .ok (.iaload, 1) := by decide +kernel
theorem dX9_add_44 : decode cX9_add 44 = .ok (.iload_n 3, 1) := by decide +kernel
theorem dX9_add_45 : decode cX9_add 45 = .ok (.iconst 1, 1) := by decide +kernel
theorem dX9_add_46 : decode cX9_add 46 = .ok (.iload_n 2, 1) := by decide +kernel
theorem dX9_add_47 : decode cX9_add 47 = .ok (.invokevirtual 126, 3) := by decide +kernel
theorem dX9_add_50 : decode cX9_add 50 = .ok (.aload_n 0, 1) := by decide +kernel
theorem dX9_add_51 : decode cX9_add 51 = .ok (.iload_n 1, 1) := by decide +kernel
theorem dX9_add_52 : decode cX9_add 52 = .ok (.invokevirtual 129, 3) := by decide +kernel
theorem dX9_add_55 : decode cX9_add 55 = .ok (.return_, 1) := by decide +kernel
theorem dX9_look_0 : decode cX9_look 0 = .ok (.aload_n 0, 1) := by decide +kernel
theorem dX9_look_1 : decode cX9_look 1 = .ok (.getfield 46, 3) := by decide +kernel
theorem dX9_look_4 : decode cX9_look 4 = .ok (.bipush 7, 2) := by decide +kernel
theorem dX9_look_6 : decode cX9_look 6 = .ok (.iload_n 1, 1) := by decide +kernel
theorem dX9_look_7 : decode cX9_look 7 = .ok (.imul, 1) := by decide +kernel
theorem dX9_look_8 : decode cX9_look 8 = .ok (.iload_n 1, 1) := by decide +kernel
theorem dX9_look_9 : decode cX9_look 9 = .ok (.iadd, 1) := by decide +kernel
theorem dX9_look_10 : decode cX9_look 10 = .ok (.aload_n 0, 1) := by decide +kernel
theorem dX9_look_11 : decode cX9_look 11 = .ok (.getfield 22, 3) := by decide +kernel
theorem dX9_look_14 : decode cX9_look 14 = .ok (.iload_n 1, 1) := by decide +kernel
theorem dX9_look_15 : decode cX9_look 15 = .ok (.iaload, 1) := by decide +kernel
theorem dX9_look_16 : decode cX9_look 16 = .ok (.iastore, 1) := by decide +kernel
theorem dX9_look_17 : decode cX9_look 17 = .ok (.iconst 0, 1) := by decide +kernel
theorem dX9_look_18 : decode cX9_look 18 = .ok (.istore_n 2, 1) := by decide +kernel
theorem dX9_look_19 : decode cX9_look 19 = .ok (.aload_n 0, 1) := by decide +kernel
theorem dX9_look_20 : decode cX9_look 20 = .ok (.getfield 25, 3) := by decide +kernel
theorem dX9_look_23 : decode cX9_look 23 = .ok (.iload_n 1, 1) := by decide +kernel
theorem dX9_look_24 : decode cX9_look 24 = .ok (.iaload, 1) := by decide +kernel
theorem dX9_look_25 : decode cX9_look 25 = .ok (.iconst 1, 1) := by decide +kernel
theorem dX9_look_26 : decode cX9_look 26 = .ok (.iadd, 1) := by decide +kernel
theorem dX9_look_27 : decode cX9_look 27 = .ok (.istore_n 3, 1) := by decide +kernel
theorem dX9_look_28 : decode cX9_look 28 = .ok (.iload_n 3, 1) := by decide +kernel
theorem dX9_look_29 : decode cX9_look 29 = .ok (.aload_n 0, 1) := by decide +kernel
theorem dX9_look_30 : decode cX9_look 30 = .ok (.getfield 22, 3) := by decide +kernel
theorem dX9_look_33 : decode cX9_look 33 = .ok (.iload_n 1, 1) := by decide +kernel
theorem dX9_look_34 : decode cX9_look 34 = .ok (.iaload, 1) := by decide +kernel
theorem dX9_look_35 : decode cX9_look 35 = .ok (.if_icmp .gt 83, 3) := by decide +kernel
theorem dX9_look_38 : decode cX9_look 38 = .ok (.iconst 0, 1) := by decide +kernel
theorem dX9_look_39 : decode cX9_look 39 = .ok (.istore 4, 2) := by decide +kernel
theorem dX9_look_41 : decode cX9_look 41 = .ok (.iconst 0, 1) := by decide +kernel
theorem dX9_look_42 : decode cX9_look 42 = .ok (.istore 5, 2) := by decide +kernel
theorem dX9_look_44 : decode cX9_look 44 = .ok (.iload 5, 2) := by decide +kernel
theorem dX9_look_46 : decode cX9_look 46 = .ok (.aload_n 0, 1) := by decide +kernel
theorem dX9_look_47 : decode cX9_look 47 = .ok (.getfield 95, 3) := by decide +kernel
theorem dX9_look_50 : decode cX9_look 50 = .ok (.if_icmp .ge 49, 3) := by decide +kernel
theorem dX9_look_53 : decode cX9_look 53 = .ok (.iload 4, 2) := by decide +kernel
theorem dX9_look_55 : decode cX9_look 55 = .ok (.aload_n 0, 1) := by decide +kernel
theorem dX9_look_56 : decode cX9_look 56 = .ok (.getfield 16, 3) := by decide +kernel
theorem dX9_look_59 : decode cX9_look 59 = .ok (.iload_n 1, 1) := by decide +kernel
theorem dX9_look_60 : decode cX9_look 60 = .ok (.iaload, 1) := by decide +kernel
theorem dX9_look_61 : decode cX9_look 61 = .ok (.iload 5, 2) := by decide +kernel
theorem dX9_look_63 : decode cX9_look 63 = .ok (.invokestatic 99, 3) := by decide +kernel
theorem dX9_look_66 : decode cX9_look 66 = .ok (.ifCond .eq 23, 3) := by decide +kernel
theorem dX9_look_69 : decode cX9_look 69 = .ok (.aload_n 0, 1) := by decide +kernel
theorem dX9_look_70 : decode cX9_look 70 = .ok (.getfield 46, 3) := by decide +kernel
theorem dX9_look_73 : decode cX9_look 73 = .ok (.bipush 7, 2) := by decide +kernel
theorem dX9_look_75 : decode cX9_look 75 = .ok (.iload_n 1, 1) := by decide +kernel
theorem dX9_look_76 : decode cX9_look 76 = .ok (.imul, 1) := by decide +kernel
theorem dX9_look_77 : decode cX9_look 77 = .ok (.iload 5, 2) := by decide +kernel
theorem dX9_look_79 : decode cX9_look 79 = .ok (.iadd, 1) := by decide +kernel
theorem dX9_look_80 : decode cX9_look 80 = .ok (.iaload, 1) := by decide +kernel
theorem dX9_look_81 : decode cX9_look 81 = .ok (.iload_n 3, 1) := by decide +kernel
theorem dX9_look_82 : decode cX9_look 82 = .ok (.if_icmp .lt 7, 3) := by decide +kernel
theorem dX9_look_85 : decode cX9_look 85 = .ok (.iconst 1, 1) := by decide +kernel
theorem dX9_look_86 : decode cX9_look 86 = .ok (.goto 4, 3) := by decide +kernel
theorem dX9_look_89 : decode cX9_look 89 = .ok (.iconst 0, 1) := by decide +kernel
theorem dX9_look_90 : decode cX9_look 90 = .ok (.iadd, 1) := by decide +kernel
theorem dX9_look_91 : decode cX9_look 91 = .ok (.istore 4, 2) := by decide +kernel
theorem dX9_look_93 : decode cX9_look 93 = .ok (.iinc 5 1, 3) := by decide +kernel
theorem dX9_look_96 : decode cX9_look 96 = .ok (.goto (-52), 3) := by decide +kernel
theorem dX9_look_99 : decode cX9_look 99 = .ok (.iconst 2, 1) := by decide +kernel
theorem dX9_look_100 : decode cX9_look 100 = .ok (.iload 4, 2) := by decide +kernel
theorem dX9_look_102 : decode cX9_look 102 = .ok (.imul, 1) := by decide +kernel
theorem dX9_look_103 : decode cX9_look 103 = .ok (.aload_n 0, 1) := by decide +kernel
theorem dX9_look_104 : decode cX9_look 104 = .ok (.getfield 95, 3) := by decide +kernel
theorem dX9_look_107 : decode cX9_look 107 = .ok (.if_icmp .le 5, 3) := by decide +kernel
theorem dX9_look_110 : decode cX9_look 110 = .ok (.iload_n 3, 1) := by decide +kernel
theorem dX9_look_111 : decode cX9_look 111 = .ok (.istore_n 2, 1) := by decide +kernel
theorem dX9_look_112 : decode cX9_look 112 = .ok (.iinc 3 1, 3) := by decide +kernel
theorem dX9_look_115 : decode cX9_look 115 = .ok (.goto (-87), 3) := by decide +kernel
theorem dX9_look_118 : decode cX9_look 118 = .ok (.iload_n 2, 1) := by decide +kernel
theorem dX9_look_119 : decode cX9_look 119 = .ok (.aload_n 0, 1) := by decide +kernel
theorem dX9_look_120 : decode cX9_look 120 = .ok (.getfield 25, 3) := by decide +kernel
theorem dX9_look_123 : decode cX9_look 123 = .ok (.iload_n 1, 1) := by decide +kernel
theorem dX9_look_124 : decode cX9_look 124 = .ok (.iaload, 1) := by decide +kernel
theorem dX9_look_125 : decode cX9_look 125 = .ok (.if_icmp .gt 4, 3) := by decide +kernel
theorem dX9_look_128 : decode cX9_look 128 = .ok (.return_, 1) := by decide +kernel
theorem dX9_look_129 : decode cX9_look 129 = .ok (.aload_n 0, 1) := by decide +kernel
theorem dX9_look_130 : decode cX9_look 130 = .ok (.iload_n 1, 1) := by decide +kernel
theorem dX9_look_131 : decode cX9_look 131 = .ok (.iload_n 2, 1) := by decide +kernel
theorem dX9_look_132 : decode cX9_look 132 = .ok (.invokevirtual 132, 3) := by decide +kernel
theorem dX9_look_135 : decode cX9_look 135 = .ok (.aload_n 0, 1) := by decide +kernel
theorem dX9_look_136 : decode cX9_look 136 = .ok (.iload_n 1, 1) := by decide +kernel
theorem dX9_look_137 : decode cX9_look 137 = .ok (.aload_n 0, 1) := by decide +kernel
theorem dX9_look_138 : decode cX9_look 138 = .ok (.getfield 16, 3) := by decide +kernel
theorem dX9_look_141 : decode cX9_look 141 = .ok (.iload_n 1, 1) := by decide +kernel
theorem dX9_look_142 : decode cX9_look 142 = .ok (.iaload, 1) := by decide +kernel
theorem dX9_look_143 : decode cX9_look 143 = .ok (.iconst 4, 1) := by decide +kernel
theorem dX9_look_144 : decode cX9_look 144 = .ok (.aload_n 0, 1) := by decide +kernel
theorem dX9_look_145 : decode cX9_look 145 = .ok (.getfield 13, 3) := by decide +kernel
theorem dX9_look_148 : decode cX9_look 148 = .ok (.iload_n 1, 1) := by decide +kernel
theorem dX9_look_149 : decode cX9_look 149 = .ok (.iaload, 1) := by decide +kernel
theorem dX9_look_150 : decode cX9_look 150 = .ok (.iload_n 2, 1) := by decide +kernel
theorem dX9_look_151 : decode cX9_look 151 = .ok (.iconst 0, 1) := by decide +kernel
theorem dX9_look_152 : decode cX9_look 152 = .ok (.iconst 0, 1) := by decide +kernel
theorem dX9_look_153 : decode cX9_look 153 = .ok (.invokevirtual 126, 3) := by decide +kernel
theorem dX9_look_156 : decode cX9_look 156 = .ok (.return_, 1) := by decide +kernel
theorem dX9_submit_0 : decode cX9_submit 0 = .ok (.aload_n 0, 1) := by decide +kernel
theorem dX9_submit_1 : decode cX9_submit 1 = .ok (.iload_n 1, 1) := by decide +kernel
theorem dX9_submit_2 : decode cX9_submit 2 = .ok (.invokevirtual 135, 3) := by decide +kernel
theorem dX9_submit_5 : decode cX9_submit 5 = .ok (.ifCond .eq 10, 3) := by decide +kernel
theorem dX9_submit_8 : decode cX9_submit 8 = .ok (.iload_n 2, 1) := by decide +kernel
theorem dX9_submit_9 : decode cX9_submit 9 = .ok (.invokestatic 139, 3) := by decide +kernel
theorem dX9_submit_12 : decode cX9_submit 12 = .ok (.ifCond .ne 5, 3) := by decide +kernel
theorem dX9_submit_15 : decode cX9_submit 15 = .ok (.iconst (-1), 1) := by decide +kernel
theorem dX9_submit_16 : decode cX9_submit 16 = .ok (.ireturn, 1) := by decide +kernel
theorem dX9_submit_17 : decode cX9_submit 17 = .ok (.aload_n 0, 1) := by decide +kernel
theorem dX9_submit_18 : decode cX9_submit 18 = .ok (.getfield 7, 3) := by decide +kernel
theorem dX9_submit_21 : decode cX9_submit 21 = .ok (.iload_n 1, 1) := by decide +kernel
theorem dX9_submit_22 : decode cX9_submit 22 = .ok (.iaload, 1) := by decide +kernel
theorem dX9_submit_23 : decode cX9_submit 23 = .ok (.ifCond .eq 5, 3) := by decide +kernel
theorem dX9_submit_26 : decode cX9_submit 26 = .ok (.iconst 0, 1) := by decide +kernel
theorem dX9_submit_27 : decode cX9_submit 27 = .ok (.ireturn, 1) := by decide +kernel
theorem dX9_submit_28 : decode cX9_submit 28 = .ok (.aload_n 0, 1) := by decide +kernel
theorem dX9_submit_29 : decode cX9_submit 29 = .ok (.iload_n 1, 1) := by decide +kernel
theorem dX9_submit_30 : decode cX9_submit 30 = .ok (.invokevirtual 142, 3) := by decide +kernel
theorem dX9_submit_33 : decode cX9_submit 33 = .ok (.ifCond .eq 5, 3) := by decide +kernel
theorem dX9_submit_36 : decode cX9_submit 36 = .ok (.iconst 2, 1) := by decide +kernel
theorem dX9_submit_37 : decode cX9_submit 37 = .ok (.ireturn, 1) := by decide +kernel
theorem dX9_submit_38 : decode cX9_submit 38 = .ok (.aload_n 0, 1) := by decide +kernel
theorem dX9_submit_39 : decode cX9_submit 39 = .ok (.iload_n 1, 1) := by decide +kernel
theorem dX9_submit_40 : decode cX9_submit 40 = .ok (.invokevirtual 145, 3) := by decide +kernel
theorem dX9_submit_43 : decode cX9_submit 43 = .ok (.istore_n 3, 1) := by decide +kernel
theorem dX9_submit_44 : decode cX9_submit 44 = .ok (.iload_n 3, 1) := by decide +kernel
theorem dX9_submit_45 : decode cX9_submit 45 = .ok (.iload_n 1, 1) := by decide +kernel
theorem dX9_submit_46 : decode cX9_submit 46 = .ok (.if_icmp .eq 16, 3) := by decide +kernel
theorem dX9_submit_49 : decode cX9_submit 49 = .ok (.aload_n 0, 1) := by decide +kernel
theorem dX9_submit_50 : decode cX9_submit 50 = .ok (.iload_n 1, 1) := by decide +kernel
theorem dX9_submit_51 : decode cX9_submit 51 = .ok (.iload_n 3, 1) := by decide +kernel
theorem dX9_submit_52 : decode cX9_submit 52 = .ok (.iconst 1, 1) := by decide +kernel
theorem dX9_submit_53 : decode cX9_submit 53 = .ok (.iconst 0, 1) := by decide +kernel
theorem dX9_submit_54 : decode cX9_submit 54 = .ok (.iconst 0, 1) := by decide +kernel
theorem dX9_submit_55 : decode cX9_submit 55 = .ok (.iconst 1, 1) := by decide +kernel
theorem dX9_submit_56 : decode cX9_submit 56 = .ok (.iload_n 2, 1) := by decide +kernel
theorem dX9_submit_57 : decode cX9_submit 57 = .ok (.invokevirtual 111, 3) := by decide +kernel
theorem dX9_submit_60 : decode cX9_submit 60 = .ok (.iconst 1, 1) := by decide +kernel
theorem dX9_submit_61 : decode cX9_submit 61 = .ok (.ireturn, 1) := by decide +kernel
theorem dX9_submit_62 : decode cX9_submit 62 = .ok (.aload_n 0, 1) := by decide +kernel
theorem dX9_submit_63 : decode cX9_submit 63 = .ok (.getfield 22, 3) := by decide +kernel
theorem dX9_submit_66 : decode cX9_submit 66 = .ok (.iload_n 1, 1) := by decide +kernel
theorem dX9_submit_67 : decode cX9_submit 67 = .ok (.iaload, 1) := by decide +kernel
theorem dX9_submit_68 : decode cX9_submit 68 = .ok (.bipush 60, 2) := by decide +kernel
theorem dX9_submit_70 : decode cX9_submit 70 = .ok (.if_icmp .ne 5, 3) := by decide +kernel
theorem dX9_submit_73 : decode cX9_submit 73 = .ok (.iconst 3, 1) := by decide +kernel
theorem dX9_submit_74 : decode cX9_submit 74 = .ok (.ireturn, 1) := by decide +kernel
theorem dX9_submit_75 : decode cX9_submit 75 = .ok (.aload_n 0, 1) := by decide +kernel
theorem dX9_submit_76 : decode cX9_submit 76 = .ok (.iload_n 1, 1) := by decide +kernel
theorem dX9_submit_77 : decode cX9_submit 77 = .ok (.iload_n 2, 1) := by decide +kernel
theorem dX9_submit_78 : decode cX9_submit 78 = .ok (.invokevirtual 149, 3) := by decide +kernel
theorem dX9_submit_81 : decode cX9_submit 81 = .ok (.iconst 1, 1) := by decide +kernel
theorem dX9_submit_82 : decode cX9_submit 82 = .ok (.ireturn, 1) := by decide +kernel
theorem dX9_ask_0 : decode cX9_ask 0 = .ok (.aload_n 0, 1) := by decide +kernel
theorem dX9_ask_1 : decode cX9_ask 1 = .ok (.getfield 37, 3) := by decide +kernel
theorem dX9_ask_4 : decode cX9_ask 4 = .ok (.iload_n 1, 1) := by decide +kernel
theorem dX9_ask_5 : decode cX9_ask 5 = .ok (.iconst 1, 1) := by decide +kernel
theorem dX9_ask_6 : decode cX9_ask 6 = .ok (.iastore, 1) := by decide +kernel
theorem dX9_ask_7 : decode cX9_ask 7 = .ok (.aload_n 0, 1) := by decide +kernel
theorem dX9_ask_8 : decode cX9_ask 8 = .ok (.getfield 16, 3) := by decide +kernel
theorem dX9_ask_11 : decode cX9_ask 11 = .ok (.iload_n 1, 1) := by decide +kernel
theorem dX9_ask_12 : decode cX9_ask 12 = .ok (.iaload, 1) := by decide +kernel
theorem dX9_ask_13 : decode cX9_ask 13 = .ok (.aload_n 0, 1) := by decide +kernel
theorem dX9_ask_14 : decode cX9_ask 14 = .ok (.getfield 34, 3) := by decide +kernel
theorem dX9_ask_17 : decode cX9_ask 17 = .ok (.iload_n 1, 1) := by decide +kernel
theorem dX9_ask_18 : decode cX9_ask 18 = .ok (.iaload, 1) := by decide +kernel
theorem dX9_ask_19 : decode cX9_ask 19 = .ok (.iconst (-1), 1) := by decide +kernel
theorem dX9_ask_20 : decode cX9_ask 20 = .ok (.ixor, 1) := by decide +kernel
theorem dX9_ask_21 : decode cX9_ask 21 = .ok (.iand, 1) := by decide +kernel
theorem dX9_ask_22 : decode cX9_ask 22 = .ok (.iconst 1, 1) := by decide +kernel
theorem dX9_ask_23 : decode cX9_ask 23 = .ok (.iload_n 1, 1) := by decide +kernel
theorem dX9_ask_24 : decode cX9_ask 24 = .ok (.iconst 1, 1) := by decide +kernel
theorem dX9_ask_25 : decode cX9_ask 25 = .ok (.iadd, 1) := by decide +kernel
theorem dX9_ask_26 : decode cX9_ask 26 = .ok (.ishl, 1) := by decide +kernel
theorem dX9_ask_27 : decode cX9_ask 27 = .ok (.iconst 1, 1) := by decide +kernel
theorem dX9_ask_28 : decode cX9_ask 28 = .ok (.isub, 1) := by decide +kernel
theorem dX9_ask_29 : decode cX9_ask 29 = .ok (.iconst (-1), 1) := by decide +kernel
theorem dX9_ask_30 : decode cX9_ask 30 = .ok (.ixor, 1) := by decide +kernel
theorem dX9_ask_31 : decode cX9_ask 31 = .ok (.iand, 1) := by decide +kernel
theorem dX9_ask_32 : decode cX9_ask 32 = .ok (.istore_n 2, 1) := by decide +kernel
theorem dX9_ask_33 : decode cX9_ask 33 = .ok (.iload_n 2, 1) := by decide +kernel
theorem dX9_ask_34 : decode cX9_ask 34 = .ok (.ifCond .ne 11, 3) := by decide +kernel
theorem dX9_ask_37 : decode cX9_ask 37 = .ok (.aload_n 0, 1) := by decide +kernel
theorem dX9_ask_38 : decode cX9_ask 38 = .ok (.iload_n 1, 1) := by decide +kernel
theorem dX9_ask_39 : decode cX9_ask 39 = .ok (.invokevirtual 152, 3) := by decide +kernel
theorem dX9_ask_42 : decode cX9_ask 42 = .ok (.goto 14, 3) := by decide +kernel
theorem dX9_ask_45 : decode cX9_ask 45 = .ok (.aload_n 0, 1) := by decide +kernel
theorem dX9_ask_46 : decode cX9_ask 46 = .ok (.iload_n 1, 1) := by decide +kernel
theorem dX9_ask_47 : decode cX9_ask 47 = .ok (.iload_n 2, 1) := by decide +kernel
theorem dX9_ask_48 : decode cX9_ask 48 = .ok (.iconst 5, 1) := by decide +kernel
theorem dX9_ask_49 : decode cX9_ask 49 = .ok (.iconst 0, 1) := by decide +kernel
theorem dX9_ask_50 : decode cX9_ask 50 = .ok (.iconst 0, 1) := by decide +kernel
theorem dX9_ask_51 : decode cX9_ask 51 = .ok (.iconst 0, 1) := by decide +kernel
theorem dX9_ask_52 : decode cX9_ask 52 = .ok (.iconst 0, 1) := by decide +kernel
theorem dX9_ask_53 : decode cX9_ask 53 = .ok (.invokevirtual 126, 3) := by decide +kernel
theorem dX9_ask_56 : decode cX9_ask 56 = .ok (.return_, 1) := by decide +kernel
theorem dX9_flush_0 : decode cX9_flush 0 = .ok (.aload_n 0, 1) := by decide +kernel
theorem dX9_flush_1 : decode cX9_flush 1 = .ok (.getfield 16, 3) := by decide +kernel
theorem dX9_flush_4 : decode cX9_flush 4 = .ok (.iload_n 1, 1) := by decide +kernel
theorem dX9_flush_5 : decode cX9_flush 5 = .ok (.iaload, 1) := by decide +kernel
theorem dX9_flush_6 : decode cX9_flush 6 = .ok (.aload_n 0, 1) := by decide +kernel
theorem dX9_flush_7 : decode cX9_flush 7 = .ok (.getfield 34, 3) := by decide +kernel
theorem dX9_flush_10 : decode cX9_flush 10 = .ok (.iload_n 1, 1) := by decide +kernel
theorem dX9_flush_11 : decode cX9_flush 11 = .ok (.iaload, 1) := by decide +kernel
theorem dX9_flush_12 : decode cX9_flush 12 = .ok (.iconst (-1), 1) := by decide +kernel
theorem dX9_flush_13 : decode cX9_flush 13 = .ok (.ixor, 1) := by decide +kernel
theorem dX9_flush_14 : decode cX9_flush 14 = .ok (.iand, 1) := by decide +kernel
theorem dX9_flush_15 : decode cX9_flush 15 = .ok (.istore_n 2, 1) := by decide +kernel
theorem dX9_flush_16 : decode cX9_flush 16 = .ok (.iconst 2, 1) := by decide +kernel
theorem dX9_flush_17 : decode cX9_flush 17 = .ok (.aload_n 0, 1) := by decide +kernel
theorem dX9_flush_18 : decode cX9_flush 18 = .ok (.iload_n 2, 1) := by decide +kernel
theorem dX9_flush_19 : decode cX9_flush 19 = .ok (.invokevirtual 155, 3) := by decide +kernel
theorem dX9_flush_22 : decode cX9_flush 22 = .ok (.imul, 1) := by decide +kernel
theorem dX9_flush_23 : decode cX9_flush 23 = .ok (.aload_n 0, 1) := by decide +kernel
theorem dX9_flush_24 : decode cX9_flush 24 = .ok (.getfield 95, 3) := by decide +kernel
theorem dX9_flush_27 : decode cX9_flush 27 = .ok (.if_icmp .gt 11, 3) := by decide +kernel
theorem dX9_flush_30 : decode cX9_flush 30 = .ok (.aload_n 0, 1) := by decide +kernel
theorem dX9_flush_31 : decode cX9_flush 31 = .ok (.getfield 37, 3) := by decide +kernel
theorem dX9_flush_34 : decode cX9_flush 34 = .ok (.iload_n 1, 1) := by decide +kernel
theorem dX9_flush_35 : decode cX9_flush 35 = .ok (.iconst 0, 1) := by decide +kernel
theorem dX9_flush_36 : decode cX9_flush 36 = .ok (.iastore, 1) := by decide +kernel
theorem dX9_flush_37 : decode cX9_flush 37 = .ok (.return_, 1) := by decide +kernel
theorem dX9_flush_38 : decode cX9_flush 38 = .ok (.aload_n 0, 1) := by decide +kernel
theorem dX9_flush_39 : decode cX9_flush 39 = .ok (.getfield 31, 3) := by decide +kernel
theorem dX9_flush_42 : decode cX9_flush 42 = .ok (.iload_n 1, 1) := by decide +kernel
theorem dX9_flush_43 : decode cX9_flush 43 = .ok (.iaload, 1) := by decide +kernel
theorem dX9_flush_44 : decode cX9_flush 44 = .ok (.iconst 1, 1) := by decide +kernel
theorem dX9_flush_45 : decode cX9_flush 45 = .ok (.iadd, 1) := by decide +kernel
theorem dX9_flush_46 : decode cX9_flush 46 = .ok (.istore_n 3, 1) := by decide +kernel
theorem dX9_flush_47 : decode cX9_flush 47 = .ok (.iload_n 3, 1) := by decide +kernel
theorem dX9_flush_48 : decode cX9_flush 48 = .ok (.aload_n 0, 1) := by decide +kernel
theorem dX9_flush_49 : decode cX9_flush 49 = .ok (.getfield 95, 3) := by decide +kernel
theorem dX9_flush_52 : decode cX9_flush 52 = .ok (.irem, 1) := by decide +kernel
theorem dX9_flush_53 : decode cX9_flush 53 = .ok (.iload_n 1, 1) := by decide +kernel
theorem dX9_flush_54 : decode cX9_flush 54 = .ok (.if_icmp .eq 9, 3) := by decide +kernel
theorem dX9_flush_57 : decode cX9_flush 57 = .ok (.iinc 3 1, 3) := by decide +kernel
theorem dX9_flush_60 : decode cX9_flush 60 = .ok (.goto (-13), 3) := by decide +kernel
theorem dX9_flush_63 : decode cX9_flush 63 = .ok (.aload_n 0, 1) := by decide +kernel
theorem dX9_flush_64 : decode cX9_flush 64 = .ok (.getfield 31, 3) := by decide +kernel
theorem dX9_flush_67 : decode cX9_flush 67 = .ok (.iload_n 1, 1) := by decide +kernel
theorem dX9_flush_68 : decode cX9_flush 68 = .ok (.iload_n 3, 1) := by decide +kernel
theorem dX9_flush_69 : decode cX9_flush 69 = .ok (.iastore, 1) := by decide +kernel
theorem dX9_flush_70 : decode cX9_flush 70 = .ok (.aload_n 0, 1) := by decide +kernel
theorem dX9_flush_71 : decode cX9_flush 71 = .ok (.getfield 37, 3) := by decide +kernel
theorem dX9_flush_74 : decode cX9_flush 74 = .ok (.iload_n 1, 1) := by decide +kernel
theorem dX9_flush_75 : decode cX9_flush 75 = .ok (.iconst 3, 1) := by decide +kernel
theorem dX9_flush_76 : decode cX9_flush 76 = .ok (.iastore, 1) := by decide +kernel
theorem dX9_flush_77 : decode cX9_flush 77 = .ok (.aload_n 0, 1) := by decide +kernel
theorem dX9_flush_78 : decode cX9_flush 78 = .ok (.getfield 40, 3) := by decide +kernel
theorem dX9_flush_81 : decode cX9_flush 81 = .ok (.iload_n 1, 1) := by decide +kernel
theorem dX9_flush_82 : decode cX9_flush 82 = .ok (.iload_n 2, 1) := by decide +kernel
theorem dX9_flush_83 : decode cX9_flush 83 = .ok (.iastore, 1) := by decide +kernel
theorem dX9_flush_84 : decode cX9_flush 84 = .ok (.aload_n 0, 1) := by decide +kernel
theorem dX9_flush_85 : decode cX9_flush 85 = .ok (.getfield 49, 3) := by decide +kernel
theorem dX9_flush_88 : decode cX9_flush 88 = .ok (.iload_n 1, 1) := by decide +kernel
theorem dX9_flush_89 : decode cX9_flush 89 = .ok (.iconst 1, 1) := by decide +kernel
theorem dX9_flush_90 : decode cX9_flush 90 = .ok (.iload_n 1, 1) := by decide +kernel
theorem dX9_flush_91 : decode cX9_flush 91 = .ok (.ishl, 1) := by decide +kernel
theorem dX9_flush_92 : decode cX9_flush 92 = .ok (.iastore, 1) := by decide +kernel
theorem dX9_flush_93 : decode cX9_flush 93 = .ok (.aload_n 0, 1) := by decide +kernel
theorem dX9_flush_94 : decode cX9_flush 94 = .ok (.dup, 1) := by decide +kernel
theorem dX9_flush_95 : decode cX9_flush 95 = .ok (.getfield 158, 3) := by decide +kernel
theorem dX9_flush_98 : decode cX9_flush 98 = .ok (.iconst 1, 1) := by decide +kernel
theorem dX9_flush_99 : decode cX9_flush 99 = .ok (.iadd, 1) := by decide +kernel
theorem dX9_flush_100 : decode cX9_flush 100 = .ok (.putfield 158, 3) := by decide +kernel
theorem dX9_flush_103 : decode cX9_flush 103 = .ok (.aload_n 0, 1) := by decide +kernel
theorem dX9_flush_104 : decode cX9_flush 104 = .ok (.iload_n 1, 1) := by decide +kernel
theorem dX9_flush_105 : decode cX9_flush 105 = .ok (.iload_n 2, 1) := by decide +kernel
theorem dX9_flush_106 : decode cX9_flush 106 = .ok (.bipush 7, 2) := by decide +kernel
theorem dX9_flush_108 : decode cX9_flush 108 = .ok (.iload_n 3, 1) := by decide +kernel
theorem dX9_flush_109 : decode cX9_flush 109 = .ok (.iload_n 2, 1) := by decide +kernel
theorem dX9_flush_110 : decode cX9_flush 110 = .ok (.iconst 0, 1) := by decide +kernel
theorem dX9_flush_111 : decode cX9_flush 111 = .ok (.iconst 0, 1) := by decide +kernel
theorem dX9_flush_112 : decode cX9_flush 112 = .ok (.invokevirtual 126, 3) := by decide +kernel
theorem dX9_flush_115 : decode cX9_flush 115 = .ok (.aload_n 0, 1) := by decide +kernel
theorem dX9_flush_116 : decode cX9_flush 116 = .ok (.getfield 49, 3) := by decide +kernel
theorem dX9_flush_119 : decode cX9_flush 119 = .ok (.iload_n 1, 1) := by decide +kernel
theorem dX9_flush_120 : decode cX9_flush 120 = .ok (.iaload, 1) := by decide +kernel
theorem dX9_flush_121 : decode cX9_flush 121 = .ok (.iload_n 2, 1) := by decide +kernel
theorem dX9_flush_122 : decode cX9_flush 122 = .ok (.if_icmp .ne 8, 3) := by decide +kernel
theorem dX9_flush_125 : decode cX9_flush 125 = .ok (.aload_n 0, 1) := by decide +kernel
theorem dX9_flush_126 : decode cX9_flush 126 = .ok (.iload_n 1, 1) := by decide +kernel
theorem dX9_flush_127 : decode cX9_flush 127 = .ok (.invokevirtual 161, 3) := by decide +kernel
theorem dX9_flush_130 : decode cX9_flush 130 = .ok (.return_, 1) := by decide +kernel
theorem dX9_choose_0 : decode cX9_choose 0 = .ok (.iconst (-1), 1) := by decide +kernel
theorem dX9_choose_1 : decode cX9_choose 1 = .ok (.istore_n 2, 1) := by decide +kernel
theorem dX9_choose_2 : decode cX9_choose 2 = .ok (.iconst 0, 1) := by decide +kernel
theorem dX9_choose_3 : decode cX9_choose 3 = .ok (.istore_n 3, 1) := by decide +kernel
theorem dX9_choose_4 : decode cX9_choose 4 = .ok (.iload_n 3, 1) := by decide +kernel
theorem dX9_choose_5 : decode cX9_choose 5 = .ok (.aload_n 0, 1) := by decide +kernel
theorem dX9_choose_6 : decode cX9_choose 6 = .ok (.getfield 95, 3) := by decide +kernel
theorem dX9_choose_9 : decode cX9_choose 9 = .ok (.if_icmp .ge 188, 3) := by decide +kernel
theorem dX9_choose_12 : decode cX9_choose 12 = .ok (.aload_n 0, 1) := by decide +kernel
theorem dX9_choose_13 : decode cX9_choose 13 = .ok (.getfield 40, 3) := by decide +kernel
theorem dX9_choose_16 : decode cX9_choose 16 = .ok (.iload_n 1, 1) := by decide +kernel
theorem dX9_choose_17 : decode cX9_choose 17 = .ok (.iaload, 1) := by decide +kernel
theorem dX9_choose_18 : decode cX9_choose 18 = .ok (.iload_n 3, 1) := by decide +kernel
theorem dX9_choose_19 : decode cX9_choose 19 = .ok (.invokestatic 99, 3) := by decide +kernel
theorem dX9_choose_22 : decode cX9_choose 22 = .ok (.ifCond .ne 6, 3) := by decide +kernel
theorem dX9_choose_25 : decode cX9_choose 25 = .ok (.goto 166, 3) := by decide +kernel
theorem dX9_choose_28 : decode cX9_choose 28 = .ok (.iload_n 3, 1) := by decide +kernel
theorem dX9_choose_29 : decode cX9_choose 29 = .ok (.iload_n 1, 1) := by decide +kernel
theorem dX9_choose_30 : decode cX9_choose 30 = .ok (.if_icmp .ne 87, 3) := by decide +kernel
theorem dX9_choose_33 : decode cX9_choose 33 = .ok (.aload_n 0, 1) := by decide +kernel
theorem dX9_choose_34 : decode cX9_choose 34 = .ok (.getfield 52, 3) := by decide +kernel
theorem dX9_choose_37 : decode cX9_choose 37 = .ok (.bipush 7, 2) := by decide +kernel
theorem dX9_choose_39 : decode cX9_choose 39 = .ok (.iload_n 1, 1) := by decide +kernel
theorem dX9_choose_40 : decode cX9_choose 40 = .ok (.imul, 1) := by decide +kernel
theorem dX9_choose_41 : decode cX9_choose 41 = .ok (.iload_n 3, 1) := by decide +kernel
theorem dX9_choose_42 : decode cX9_choose 42 = .ok (.iadd, 1) := by decide +kernel
theorem dX9_choose_43 : decode cX9_choose 43 = .ok (.aload_n 0, 1) := by decide +kernel
theorem dX9_choose_44 : decode cX9_choose 44 = .ok (.getfield 28, 3) := by decide +kernel
theorem dX9_choose_47 : decode cX9_choose 47 = .ok (.iload_n 1, 1) := by decide +kernel
theorem dX9_choose_48 : decode cX9_choose 48 = .ok (.iaload, 1) := by decide +kernel
theorem dX9_choose_49 : decode cX9_choose 49 = .ok (.iastore, 1) := by decide +kernel
theorem dX9_choose_50 : decode cX9_choose 50 = .ok (.aload_n 0, 1) := by decide +kernel
theorem dX9_choose_51 : decode cX9_choose 51 = .ok (.getfield 55, 3) := by decide +kernel
theorem dX9_choose_54 : decode cX9_choose 54 = .ok (.bipush 7, 2) := by decide +kernel
theorem dX9_choose_56 : decode cX9_choose 56 = .ok (.iload_n 1, 1) := by decide +kernel
theorem dX9_choose_57 : decode cX9_choose 57 = .ok (.imul, 1) := by decide +kernel
theorem dX9_choose_58 : decode cX9_choose 58 = .ok (.iload_n 3, 1) := by decide +kernel
theorem dX9_choose_59 : decode cX9_choose 59 = .ok (.iadd, 1) := by decide +kernel
theorem dX9_choose_60 : decode cX9_choose 60 = .ok (.aload_n 0, 1) := by decide +kernel
theorem dX9_choose_61 : decode cX9_choose 61 = .ok (.getfield 22, 3) := by decide +kernel
theorem dX9_choose_64 : decode cX9_choose 64 = .ok (.iload_n 1, 1) := by decide +kernel
theorem dX9_choose_65 : decode cX9_choose 65 = .ok (.iaload, 1) := by decide +kernel
theorem dX9_choose_66 : decode cX9_choose 66 = .ok (.iastore, 1) := by decide +kernel
theorem dX9_choose_67 : decode cX9_choose 67 = .ok (.iconst 0, 1) := by decide +kernel
theorem dX9_choose_68 : decode cX9_choose 68 = .ok (.istore 4, 2) := by decide +kernel
theorem dX9_choose_70 : decode cX9_choose 70 = .ok (.iload 4, 2) := by decide +kernel
theorem dX9_choose_72 : decode cX9_choose 72 = .ok (.aload_n 0, 1) := by decide +kernel
theorem dX9_choose_73 : decode cX9_choose 73 = .ok (.getfield 22, 3) := by decide +kernel
theorem dX9_choose_76 : decode cX9_choose 76 = .ok (.iload_n 1, 1) := by decide +kernel
theorem dX9_choose_77 : decode cX9_choose 77 = .ok (.iaload, 1) := by decide +kernel
theorem dX9_choose_78 : decode cX9_choose 78 = .ok (.if_icmp .ge 39, 3) := by decide +kernel
theorem dX9_choose_81 : decode cX9_choose 81 = .ok (.aload_n 0, 1) := by decide +kernel
theorem dX9_choose_82 : decode cX9_choose 82 = .ok (.getfield 58, 3) := by decide +kernel
theorem dX9_choose_85 : decode cX9_choose 85 = .ok (.sipush 420, 3) := by decide +kernel
theorem dX9_choose_88 : decode cX9_choose 88 = .ok (.iload_n 1, 1) := by decide +kernel
theorem dX9_choose_89 : decode cX9_choose 89 = .ok (.imul, 1) := by decide +kernel
theorem dX9_choose_90 : decode cX9_choose 90 = .ok (.bipush 60, 2) := by decide +kernel
theorem dX9_choose_92 : decode cX9_choose 92 = .ok (.iload_n 3, 1) := by decide +kernel
theorem dX9_choose_93 : decode cX9_choose 93 = .ok (.imul, 1) := by decide +kernel
theorem dX9_choose_94 : decode cX9_choose 94 = .ok (.iadd, 1) := by decide +kernel
theorem dX9_choose_95 : decode cX9_choose 95 = .ok (.iload 4, 2) := by decide +kernel
theorem dX9_choose_97 : decode cX9_choose 97 = .ok (.iadd, 1) := by decide +kernel
theorem dX9_choose_98 : decode cX9_choose 98 = .ok (.aload_n 0, 1) := by decide +kernel
theorem dX9_choose_99 : decode cX9_choose 99 = .ok (.getfield 19, 3) := by decide +kernel
theorem dX9_choose_102 : decode cX9_choose 102 = .ok (.bipush 60, 2) := by decide +kernel
theorem dX9_choose_104 : decode cX9_choose 104 = .ok (.iload_n 1, 1) := by decide +kernel
theorem dX9_choose_105 : decode cX9_choose 105 = .ok (.imul, 1) := by decide +kernel
theorem dX9_choose_106 : decode cX9_choose 106 = .ok (.iload 4, 2) := by decide +kernel
theorem dX9_choose_108 : decode cX9_choose 108 = .ok (.iadd, 1) := by decide +kernel
theorem dX9_choose_109 : decode cX9_choose 109 = .ok (.iaload, 1) := by decide +kernel
theorem dX9_choose_110 : decode cX9_choose 110 = .ok (.iastore, 1) := by decide +kernel
theorem dX9_choose_111 : decode cX9_choose 111 = .ok (.iinc 4 1, 3) := by decide +kernel
theorem dX9_choose_114 : decode cX9_choose 114 = .ok (.goto (-44), 3) := by decide +kernel
theorem dX9_choose_117 : decode cX9_choose 117 = .ok (.bipush 7, 2) := by decide +kernel
theorem dX9_choose_119 : decode cX9_choose 119 = .ok (.iload_n 1, 1) := by decide +kernel
theorem dX9_choose_120 : decode cX9_choose 120 = .ok (.imul, 1) := by decide +kernel
theorem dX9_choose_121 : decode cX9_choose 121 = .ok (.iload_n 3, 1) := by decide +kernel
theorem dX9_choose_122 : decode cX9_choose 122 = .ok (.iadd, 1) := by decide +kernel
theorem dX9_choose_123 : decode cX9_choose 123 = .ok (.istore 4, 2) := by decide +kernel
theorem dX9_choose_125 : decode cX9_choose 125 = .ok (.bipush 7, 2) := by decide +kernel
theorem dX9_choose_127 : decode cX9_choose 127 = .ok (.iload_n 1, 1) := by decide +kernel
theorem dX9_choose_128 : decode cX9_choose 128 = .ok (.imul, 1) := by decide +kernel
theorem dX9_choose_129 : decode cX9_choose 129 = .ok (.iload_n 2, 1) := by decide +kernel
theorem dX9_choose_130 : decode cX9_choose 130 = .ok (.iadd, 1) := by decide +kernel
theorem dX9_choose_131 : decode cX9_choose 131 = .ok (.istore 5, 2) := by decide +kernel
theorem dX9_choose_133 : decode cX9_choose 133 = .ok (.iload_n 2, 1) := by decide +kernel
theorem dX9_choose_134 : decode cX9_choose 134 = .ok (.iconst (-1), 1) := by decide +kernel
theorem dX9_choose_135 : decode cX9_choose 135 = .ok (.if_icmp .eq 54, 3) := by decide +kernel
theorem dX9_choose_138 : decode cX9_choose 138 = .ok (.aload_n 0, 1) := by decide +kernel
theorem dX9_choose_139 : decode cX9_choose 139 = .ok (.getfield 52, 3) := by decide +kernel
theorem dX9_choose_142 : decode cX9_choose 142 = .ok (.iload 4, 2) := by decide +kernel
theorem dX9_choose_144 : decode cX9_choose 144 = .ok (.iaload, 1) := by decide +kernel
theorem dX9_choose_145 : decode cX9_choose 145 = .ok (.aload_n 0, 1) := by decide +kernel
theorem dX9_choose_146 : decode cX9_choose 146 = .ok (.getfield 52, 3) := by decide +kernel
theorem dX9_choose_149 : decode cX9_choose 149 = .ok (.iload 5, 2) := by decide +kernel
theorem dX9_choose_151 : decode cX9_choose 151 = .ok (.iaload, 1) := by decide +kernel
theorem dX9_choose_152 : decode cX9_choose 152 = .ok (.if_icmp .gt 37, 3) := by decide +kernel
theorem dX9_choose_155 : decode cX9_choose 155 = .ok (.aload_n 0, 1) := by decide +kernel
theorem dX9_choose_156 : decode cX9_choose 156 = .ok (.getfield 52, 3) := by decide +kernel
theorem dX9_choose_159 : decode cX9_choose 159 = .ok (.iload 4, 2) := by decide +kernel
theorem dX9_choose_161 : decode cX9_choose 161 = .ok (.iaload, 1) := by decide +kernel
theorem dX9_choose_162 : decode cX9_choose 162 = .ok (.aload_n 0, 1) := by decide +kernel
theorem dX9_choose_163 : decode cX9_choose 163 = .ok (.getfield 52, 3) := by decide +kernel
theorem dX9_choose_166 : decode cX9_choose 166 = .ok (.iload 5, 2) := by decide +kernel
theorem dX9_choose_168 : decode cX9_choose 168 = .ok (.iaload, 1) := by decide +kernel
theorem dX9_choose_169 : decode cX9_choose 169 = .ok (.if_icmp .ne 22, 3) := by decide +kernel
theorem dX9_choose_172 : decode cX9_choose 172 = .ok (.aload_n 0, 1) := by decide +kernel
theorem dX9_choose_173 : decode cX9_choose 173 = .ok (.getfield 55, 3) := by decide +kernel
theorem dX9_choose_176 : decode cX9_choose 176 = .ok (.iload 4, 2) := by decide +kernel
theorem dX9_choose_178 : decode cX9_choose 178 = .ok (.iaload, 1) := by decide +kernel
theorem dX9_choose_179 : decode cX9_choose 179 = .ok (.aload_n 0, 1) := by decide +kernel
theorem dX9_choose_180 : decode cX9_choose 180 = .ok (.getfield 55, 3) := by decide +kernel
theorem dX9_choose_183 : decode cX9_choose 183 = .ok (.iload 5, 2) := by decide +kernel
theorem dX9_choose_185 : decode cX9_choose 185 = .ok (.iaload, 1) := by decide +kernel
theorem dX9_choose_186 : decode cX9_choose 186 = .ok (.if_icmp .le 5, 3) := by decide +kernel
theorem dX9_choose_189 : decode cX9_choose 189 = .ok (.iload_n 3, 1) := by decide +kernel
theorem dX9_choose_190 : decode cX9_choose 190 = .ok (.istore_n 2, 1) := by decide +kernel
theorem dX9_choose_191 : decode cX9_choose 191 = .ok (.iinc 3 1, 3) := by decide +kernel
theorem dX9_choose_194 : decode cX9_choose 194 = .ok (.goto (-190), 3) := by decide +kernel
theorem dX9_choose_197 : decode cX9_choose 197 = .ok (.aload_n 0, 1) := by decide +kernel
theorem dX9_choose_198 : decode cX9_choose 198 = .ok (.getfield 22, 3) := by decide +kernel
theorem dX9_choose_201 : decode cX9_choose 201 = .ok (.iload_n 1, 1) := by decide +kernel
theorem dX9_choose_202 : decode cX9_choose 202 = .ok (.aload_n 0, 1) := by decide +kernel
theorem dX9_choose_203 : decode cX9_choose 203 = .ok (.getfield 55, 3) := by decide +kernel
theorem dX9_choose_206 : decode cX9_choose 206 = .ok (.bipush 7, 2) := by decide +kernel
theorem dX9_choose_208 : decode cX9_choose 208 = .ok (.iload_n 1, 1) := by decide +kernel
theorem dX9_choose_209 : decode cX9_choose 209 = .ok (.imul, 1) := by decide +kernel
theorem dX9_choose_210 : decode cX9_choose 210 = .ok (.iload_n 2, 1) := by decide +kernel
theorem dX9_choose_211 : decode cX9_choose 211 = .ok (.iadd, 1) := by decide +kernel
theorem dX9_choose_212 : decode cX9_choose 212 = .ok (.iaload, 1) := by decide +kernel
theorem dX9_choose_213 : decode cX9_choose 213 = .ok (.iastore, 1) := by decide +kernel
theorem dX9_choose_214 : decode cX9_choose 214 = .ok (.iconst 0, 1) := by decide +kernel
theorem dX9_choose_215 : decode cX9_choose 215 = .ok (.istore_n 3, 1) := by decide +kernel
theorem dX9_choose_216 : decode cX9_choose 216 = .ok (.iload_n 3, 1) := by decide +kernel
theorem dX9_choose_217 : decode cX9_choose 217 = .ok (.aload_n 0, 1) := by decide +kernel
theorem dX9_choose_218 : decode cX9_choose 218 = .ok (.getfield 22, 3) := by decide +kernel
theorem dX9_choose_221 : decode cX9_choose 221 = .ok (.iload_n 1, 1) := by decide +kernel
theorem dX9_choose_222 : decode cX9_choose 222 = .ok (.iaload, 1) := by decide +kernel
theorem dX9_choose_223 : decode cX9_choose 223 = .ok (.if_icmp .ge 37, 3) := by decide +kernel
theorem dX9_choose_226 : decode cX9_choose 226 = .ok (.aload_n 0, 1) := by decide +kernel
theorem dX9_choose_227 : decode cX9_choose 227 = .ok (.getfield 19, 3) := by decide +kernel
theorem dX9_choose_230 : decode cX9_choose 230 = .ok (.bipush 60, 2) := by decide +kernel
theorem dX9_choose_232 : decode cX9_choose 232 = .ok (.iload_n 1, 1) := by decide +kernel
theorem dX9_choose_233 : decode cX9_choose 233 = .ok (.imul, 1) := by decide +kernel
theorem dX9_choose_234 : decode cX9_choose 234 = .ok (.iload_n 3, 1) := by decide +kernel
theorem dX9_choose_235 : decode cX9_choose 235 = .ok (.iadd, 1) := by decide +kernel
theorem dX9_choose_236 : decode cX9_choose 236 = .ok (.aload_n 0, 1) := by decide +kernel
theorem dX9_choose_237 : decode cX9_choose 237 = .ok (.getfield 58, 3) := by decide +kernel
theorem dX9_choose_240 : decode cX9_choose 240 = .ok (.sipush 420, 3) := by decide +kernel
theorem dX9_choose_243 : decode cX9_choose 243 = .ok (.iload_n 1, 1) := by decide +kernel
theorem dX9_choose_244 : decode cX9_choose 244 = .ok (.imul, 1) := by decide +kernel
theorem dX9_choose_245 : decode cX9_choose 245 = .ok (.bipush 60, 2) := by decide +kernel
theorem dX9_choose_247 : decode cX9_choose 247 = .ok (.iload_n 2, 1) := by decide +kernel
theorem dX9_choose_248 : decode cX9_choose 248 = .ok (.imul, 1) := by decide +kernel
theorem dX9_choose_249 : decode cX9_choose 249 = .ok (.iadd, 1) := by decide +kernel
theorem dX9_choose_250 : decode cX9_choose 250 = .ok (.iload_n 3, 1) := by decide +kernel
end
section
theorem dX9_choose_251 : decode cX9_choose 251 = .ok (.iadd, 1) := by decide +kernel
theorem dX9_choose_252 : decode cX9_choose 252 = .ok (.iaload, 1) := by decide +kernel
theorem dX9_choose_253 : decode cX9_choose 253 = .ok (.iastore, 1) := by decide +kernel
theorem dX9_choose_254 : decode cX9_choose 254 = .ok (.iinc 3 1, 3) := by decide +kernel
theorem dX9_choose_257 : decode cX9_choose 257 = .ok (.goto (-41), 3) := by decide +kernel
theorem dX9_choose_260 : decode cX9_choose 260 = .ok (.aload_n 0, 1) := by decide +kernel
theorem dX9_choose_261 : decode cX9_choose 261 = .ok (.getfield 28, 3) := by decide +kernel
theorem dX9_choose_264 : decode cX9_choose 264 = .ok (.iload_n 1, 1) := by decide +kernel
theorem dX9_choose_265 : decode cX9_choose 265 = .ok (.aload_n 0, 1) := by decide +kernel
theorem dX9_choose_266 : decode cX9_choose 266 = .ok (.getfield 31, 3) := by decide +kernel
theorem dX9_choose_269 : decode cX9_choose 269 = .ok (.iload_n 1, 1) := by decide +kernel
theorem dX9_choose_270 : decode cX9_choose 270 = .ok (.iaload, 1) := by decide +kernel
theorem dX9_choose_271 : decode cX9_choose 271 = .ok (.iastore, 1) := by decide +kernel
theorem dX9_choose_272 : decode cX9_choose 272 = .ok (.aload_n 0, 1) := by decide +kernel
theorem dX9_choose_273 : decode cX9_choose 273 = .ok (.getfield 37, 3) := by decide +kernel
theorem dX9_choose_276 : decode cX9_choose 276 = .ok (.iload_n 1, 1) := by decide +kernel
theorem dX9_choose_277 : decode cX9_choose 277 = .ok (.iconst 4, 1) := by decide +kernel
theorem dX9_choose_278 : decode cX9_choose 278 = .ok (.iastore, 1) := by decide +kernel
theorem dX9_choose_279 : decode cX9_choose 279 = .ok (.aload_n 0, 1) := by decide +kernel
theorem dX9_choose_280 : decode cX9_choose 280 = .ok (.getfield 49, 3) := by decide +kernel
theorem dX9_choose_283 : decode cX9_choose 283 = .ok (.iload_n 1, 1) := by decide +kernel
theorem dX9_choose_284 : decode cX9_choose 284 = .ok (.iconst 1, 1) := by decide +kernel
theorem dX9_choose_285 : decode cX9_choose 285 = .ok (.iload_n 1, 1) := by decide +kernel
theorem dX9_choose_286 : decode cX9_choose 286 = .ok (.ishl, 1) := by decide +kernel
theorem dX9_choose_287 : decode cX9_choose 287 = .ok (.iastore, 1) := by decide +kernel
theorem dX9_choose_288 : decode cX9_choose 288 = .ok (.aload_n 0, 1) := by decide +kernel
theorem dX9_choose_289 : decode cX9_choose 289 = .ok (.iload_n 1, 1) := by decide +kernel
theorem dX9_choose_290 : decode cX9_choose 290 = .ok (.aload_n 0, 1) := by decide +kernel
theorem dX9_choose_291 : decode cX9_choose 291 = .ok (.getfield 40, 3) := by decide +kernel
theorem dX9_choose_294 : decode cX9_choose 294 = .ok (.iload_n 1, 1) := by decide +kernel
theorem dX9_choose_295 : decode cX9_choose 295 = .ok (.iaload, 1) := by decide +kernel
theorem dX9_choose_296 : decode cX9_choose 296 = .ok (.bipush 9, 2) := by decide +kernel
theorem dX9_choose_298 : decode cX9_choose 298 = .ok (.aload_n 0, 1) := by decide +kernel
theorem dX9_choose_299 : decode cX9_choose 299 = .ok (.getfield 31, 3) := by decide +kernel
theorem dX9_choose_302 : decode cX9_choose 302 = .ok (.iload_n 1, 1) := by decide +kernel
theorem dX9_choose_303 : decode cX9_choose 303 = .ok (.iaload, 1) := by decide +kernel
theorem dX9_choose_304 : decode cX9_choose 304 = .ok (.iconst 0, 1) := by decide +kernel
theorem dX9_choose_305 : decode cX9_choose 305 = .ok (.aload_n 0, 1) := by decide +kernel
theorem dX9_choose_306 : decode cX9_choose 306 = .ok (.getfield 22, 3) := by decide +kernel
theorem dX9_choose_309 : decode cX9_choose 309 = .ok (.iload_n 1, 1) := by decide +kernel
theorem dX9_choose_310 : decode cX9_choose 310 = .ok (.iaload, 1) := by decide +kernel
theorem dX9_choose_311 : decode cX9_choose 311 = .ok (.iconst 0, 1) := by decide +kernel
theorem dX9_choose_312 : decode cX9_choose 312 = .ok (.invokevirtual 126, 3) := by decide +kernel
theorem dX9_choose_315 : decode cX9_choose 315 = .ok (.aload_n 0, 1) := by decide +kernel
theorem dX9_choose_316 : decode cX9_choose 316 = .ok (.getfield 49, 3) := by decide +kernel
theorem dX9_choose_319 : decode cX9_choose 319 = .ok (.iload_n 1, 1) := by decide +kernel
theorem dX9_choose_320 : decode cX9_choose 320 = .ok (.iaload, 1) := by decide +kernel
theorem dX9_choose_321 : decode cX9_choose 321 = .ok (.aload_n 0, 1) := by decide +kernel
theorem dX9_choose_322 : decode cX9_choose 322 = .ok (.getfield 40, 3) := by decide +kernel
theorem dX9_choose_325 : decode cX9_choose 325 = .ok (.iload_n 1, 1) := by decide +kernel
theorem dX9_choose_326 : decode cX9_choose 326 = .ok (.iaload, 1) := by decide +kernel
theorem dX9_choose_327 : decode cX9_choose 327 = .ok (.if_icmp .ne 8, 3) := by decide +kernel
theorem dX9_choose_330 : decode cX9_choose 330 = .ok (.aload_n 0, 1) := by decide +kernel
theorem dX9_choose_331 : decode cX9_choose 331 = .ok (.iload_n 1, 1) := by decide +kernel
theorem dX9_choose_332 : decode cX9_choose 332 = .ok (.invokevirtual 164, 3) := by decide +kernel
theorem dX9_choose_335 : decode cX9_choose 335 = .ok (.return_, 1) := by decide +kernel
theorem dX9_found_0 : decode cX9_found 0 = .ok (.aload_n 0, 1) := by decide +kernel
theorem dX9_found_1 : decode cX9_found 1 = .ok (.getfield 40, 3) := by decide +kernel
theorem dX9_found_4 : decode cX9_found 4 = .ok (.iload_n 1, 1) := by decide +kernel
theorem dX9_found_5 : decode cX9_found 5 = .ok (.iaload, 1) := by decide +kernel
theorem dX9_found_6 : decode cX9_found 6 = .ok (.istore_n 2, 1) := by decide +kernel
theorem dX9_found_7 : decode cX9_found 7 = .ok (.aload_n 0, 1) := by decide +kernel
theorem dX9_found_8 : decode cX9_found 8 = .ok (.getfield 16, 3) := by decide +kernel
theorem dX9_found_11 : decode cX9_found 11 = .ok (.iload_n 1, 1) := by decide +kernel
theorem dX9_found_12 : decode cX9_found 12 = .ok (.iaload, 1) := by decide +kernel
theorem dX9_found_13 : decode cX9_found 13 = .ok (.iload_n 2, 1) := by decide +kernel
theorem dX9_found_14 : decode cX9_found 14 = .ok (.iconst (-1), 1) := by decide +kernel
theorem dX9_found_15 : decode cX9_found 15 = .ok (.ixor, 1) := by decide +kernel
theorem dX9_found_16 : decode cX9_found 16 = .ok (.iand, 1) := by decide +kernel
theorem dX9_found_17 : decode cX9_found 17 = .ok (.istore_n 3, 1) := by decide +kernel
theorem dX9_found_18 : decode cX9_found 18 = .ok (.aload_n 0, 1) := by decide +kernel
theorem dX9_found_19 : decode cX9_found 19 = .ok (.iload_n 1, 1) := by decide +kernel
theorem dX9_found_20 : decode cX9_found 20 = .ok (.iload_n 2, 1) := by decide +kernel
theorem dX9_found_21 : decode cX9_found 21 = .ok (.bipush 11, 2) := by decide +kernel
theorem dX9_found_23 : decode cX9_found 23 = .ok (.aload_n 0, 1) := by decide +kernel
theorem dX9_found_24 : decode cX9_found 24 = .ok (.getfield 31, 3) := by decide +kernel
theorem dX9_found_27 : decode cX9_found 27 = .ok (.iload_n 1, 1) := by decide +kernel
theorem dX9_found_28 : decode cX9_found 28 = .ok (.iaload, 1) := by decide +kernel
theorem dX9_found_29 : decode cX9_found 29 = .ok (.iload_n 2, 1) := by decide +kernel
theorem dX9_found_30 : decode cX9_found 30 = .ok (.iconst 0, 1) := by decide +kernel
theorem dX9_found_31 : decode cX9_found 31 = .ok (.iconst 0, 1) := by decide +kernel
theorem dX9_found_32 : decode cX9_found 32 = .ok (.invokevirtual 126, 3) := by decide +kernel
theorem dX9_found_35 : decode cX9_found 35 = .ok (.aload_n 0, 1) := by decide +kernel
theorem dX9_found_36 : decode cX9_found 36 = .ok (.iload_n 1, 1) := by decide +kernel
theorem dX9_found_37 : decode cX9_found 37 = .ok (.iload_n 3, 1) := by decide +kernel
theorem dX9_found_38 : decode cX9_found 38 = .ok (.bipush 12, 2) := by decide +kernel
theorem dX9_found_40 : decode cX9_found 40 = .ok (.iconst 0, 1) := by decide +kernel
theorem dX9_found_41 : decode cX9_found 41 = .ok (.iconst 0, 1) := by decide +kernel
theorem dX9_found_42 : decode cX9_found 42 = .ok (.iconst 0, 1) := by decide +kernel
theorem dX9_found_43 : decode cX9_found 43 = .ok (.iconst 0, 1) := by decide +kernel
theorem dX9_found_44 : decode cX9_found 44 = .ok (.invokevirtual 126, 3) := by decide +kernel
theorem dX9_found_47 : decode cX9_found 47 = .ok (.aload_n 0, 1) := by decide +kernel
theorem dX9_found_48 : decode cX9_found 48 = .ok (.iload_n 1, 1) := by decide +kernel
theorem dX9_found_49 : decode cX9_found 49 = .ok (.aload_n 0, 1) := by decide +kernel
theorem dX9_found_50 : decode cX9_found 50 = .ok (.getfield 31, 3) := by decide +kernel
theorem dX9_found_53 : decode cX9_found 53 = .ok (.iload_n 1, 1) := by decide +kernel
theorem dX9_found_54 : decode cX9_found 54 = .ok (.iaload, 1) := by decide +kernel
theorem dX9_found_55 : decode cX9_found 55 = .ok (.iload_n 2, 1) := by decide +kernel
theorem dX9_found_56 : decode cX9_found 56 = .ok (.invokevirtual 167, 3) := by decide +kernel
theorem dX9_found_59 : decode cX9_found 59 = .ok (.return_, 1) := by decide +kernel
theorem dX9_begin_0 : decode cX9_begin 0 = .ok (.aload_n 0, 1) := by decide +kernel
theorem dX9_begin_1 : decode cX9_begin 1 = .ok (.getfield 13, 3) := by decide +kernel
theorem dX9_begin_4 : decode cX9_begin 4 = .ok (.iload_n 1, 1) := by decide +kernel
theorem dX9_begin_5 : decode cX9_begin 5 = .ok (.iload_n 2, 1) := by decide +kernel
theorem dX9_begin_6 : decode cX9_begin 6 = .ok (.iastore, 1) := by decide +kernel
theorem dX9_begin_7 : decode cX9_begin 7 = .ok (.aload_n 0, 1) := by decide +kernel
theorem dX9_begin_8 : decode cX9_begin 8 = .ok (.getfield 16, 3) := by decide +kernel
theorem dX9_begin_11 : decode cX9_begin 11 = .ok (.iload_n 1, 1) := by decide +kernel
theorem dX9_begin_12 : decode cX9_begin 12 = .ok (.iload_n 3, 1) := by decide +kernel
theorem dX9_begin_13 : decode cX9_begin 13 = .ok (.iastore, 1) := by decide +kernel
theorem dX9_begin_14 : decode cX9_begin 14 = .ok (.aload_n 0, 1) := by decide +kernel
theorem dX9_begin_15 : decode cX9_begin 15 = .ok (.iload_n 1, 1) := by decide +kernel
theorem dX9_begin_16 : decode cX9_begin 16 = .ok (.aload_n 0, 1) := by decide +kernel
theorem dX9_begin_17 : decode cX9_begin 17 = .ok (.getfield 22, 3) := by decide +kernel
theorem dX9_begin_20 : decode cX9_begin 20 = .ok (.iload_n 1, 1) := by decide +kernel
theorem dX9_begin_21 : decode cX9_begin 21 = .ok (.iaload, 1) := by decide +kernel
theorem dX9_begin_22 : decode cX9_begin 22 = .ok (.invokevirtual 132, 3) := by decide +kernel
theorem dX9_begin_25 : decode cX9_begin 25 = .ok (.aload_n 0, 1) := by decide +kernel
theorem dX9_begin_26 : decode cX9_begin 26 = .ok (.getfield 37, 3) := by decide +kernel
theorem dX9_begin_29 : decode cX9_begin 29 = .ok (.iload_n 1, 1) := by decide +kernel
theorem dX9_begin_30 : decode cX9_begin 30 = .ok (.iconst 0, 1) := by decide +kernel
theorem dX9_begin_31 : decode cX9_begin 31 = .ok (.iastore, 1) := by decide +kernel
theorem dX9_begin_32 : decode cX9_begin 32 = .ok (.aload_n 0, 1) := by decide +kernel
theorem dX9_begin_33 : decode cX9_begin 33 = .ok (.dup, 1) := by decide +kernel
theorem dX9_begin_34 : decode cX9_begin 34 = .ok (.getfield 171, 3) := by decide +kernel
theorem dX9_begin_37 : decode cX9_begin 37 = .ok (.iconst 1, 1) := by decide +kernel
theorem dX9_begin_38 : decode cX9_begin 38 = .ok (.iadd, 1) := by decide +kernel
theorem dX9_begin_39 : decode cX9_begin 39 = .ok (.putfield 171, 3) := by decide +kernel
theorem dX9_begin_42 : decode cX9_begin 42 = .ok (.iconst 0, 1) := by decide +kernel
theorem dX9_begin_43 : decode cX9_begin 43 = .ok (.istore 4, 2) := by decide +kernel
theorem dX9_begin_45 : decode cX9_begin 45 = .ok (.iload 4, 2) := by decide +kernel
theorem dX9_begin_47 : decode cX9_begin 47 = .ok (.aload_n 0, 1) := by decide +kernel
theorem dX9_begin_48 : decode cX9_begin 48 = .ok (.getfield 95, 3) := by decide +kernel
theorem dX9_begin_51 : decode cX9_begin 51 = .ok (.if_icmp .ge 27, 3) := by decide +kernel
theorem dX9_begin_54 : decode cX9_begin 54 = .ok (.aload_n 0, 1) := by decide +kernel
theorem dX9_begin_55 : decode cX9_begin 55 = .ok (.getfield 46, 3) := by decide +kernel
theorem dX9_begin_58 : decode cX9_begin 58 = .ok (.bipush 7, 2) := by decide +kernel
theorem dX9_begin_60 : decode cX9_begin 60 = .ok (.iload_n 1, 1) := by decide +kernel
theorem dX9_begin_61 : decode cX9_begin 61 = .ok (.imul, 1) := by decide +kernel
theorem dX9_begin_62 : decode cX9_begin 62 = .ok (.iload 4, 2) := by decide +kernel
theorem dX9_begin_64 : decode cX9_begin 64 = .ok (.iadd, 1) := by decide +kernel
theorem dX9_begin_65 : decode cX9_begin 65 = .ok (.aload_n 0, 1) := by decide +kernel
theorem dX9_begin_66 : decode cX9_begin 66 = .ok (.getfield 22, 3) := by decide +kernel
theorem dX9_begin_69 : decode cX9_begin 69 = .ok (.iload_n 1, 1) := by decide +kernel
theorem dX9_begin_70 : decode cX9_begin 70 = .ok (.iaload, 1) := by decide +kernel
theorem dX9_begin_71 : decode cX9_begin 71 = .ok (.iastore, 1) := by decide +kernel
theorem dX9_begin_72 : decode cX9_begin 72 = .ok (.iinc 4 1, 3) := by decide +kernel
theorem dX9_begin_75 : decode cX9_begin 75 = .ok (.goto (-30), 3) := by decide +kernel
theorem dX9_begin_78 : decode cX9_begin 78 = .ok (.return_, 1) := by decide +kernel
theorem dX9_come_0 : decode cX9_come 0 = .ok (.aload_n 0, 1) := by decide +kernel
theorem dX9_come_1 : decode cX9_come 1 = .ok (.getfield 74, 3) := by decide +kernel
theorem dX9_come_4 : decode cX9_come 4 = .ok (.iload_n 1, 1) := by decide +kernel
theorem dX9_come_5 : decode cX9_come 5 = .ok (.iaload, 1) := by decide +kernel
theorem dX9_come_6 : decode cX9_come 6 = .ok (.istore_n 2, 1) := by decide +kernel
theorem dX9_come_7 : decode cX9_come 7 = .ok (.aload_n 0, 1) := by decide +kernel
theorem dX9_come_8 : decode cX9_come 8 = .ok (.getfield 71, 3) := by decide +kernel
theorem dX9_come_11 : decode cX9_come 11 = .ok (.iload_n 1, 1) := by decide +kernel
theorem dX9_come_12 : decode cX9_come 12 = .ok (.iaload, 1) := by decide +kernel
theorem dX9_come_13 : decode cX9_come 13 = .ok (.istore_n 3, 1) := by decide +kernel
theorem dX9_come_14 : decode cX9_come 14 = .ok (.aload_n 0, 1) := by decide +kernel
theorem dX9_come_15 : decode cX9_come 15 = .ok (.getfield 77, 3) := by decide +kernel
theorem dX9_come_18 : decode cX9_come 18 = .ok (.iload_n 1, 1) := by decide +kernel
theorem dX9_come_19 : decode cX9_come 19 = .ok (.iaload, 1) := by decide +kernel
theorem dX9_come_20 : decode cX9_come 20 = .ok (.tableswitch 406 1 12 #[64, 122, 222, 302, 339, 376, 406, 406, 406, 406, 406, 396], 64) := by decide +kernel
theorem dX9_come_84 : decode cX9_come 84 = .ok (.aload_n 0, 1) := by decide +kernel
theorem dX9_come_85 : decode cX9_come 85 = .ok (.iload_n 2, 1) := by decide +kernel
theorem dX9_come_86 : decode cX9_come 86 = .ok (.invokevirtual 145, 3) := by decide +kernel
theorem dX9_come_89 : decode cX9_come 89 = .ok (.iload_n 2, 1) := by decide +kernel
theorem dX9_come_90 : decode cX9_come 90 = .ok (.if_icmp .ne 39, 3) := by decide +kernel
theorem dX9_come_93 : decode cX9_come 93 = .ok (.aload_n 0, 1) := by decide +kernel
theorem dX9_come_94 : decode cX9_come 94 = .ok (.iload_n 2, 1) := by decide +kernel
theorem dX9_come_95 : decode cX9_come 95 = .ok (.invokevirtual 142, 3) := by decide +kernel
theorem dX9_come_98 : decode cX9_come 98 = .ok (.ifCond .ne 31, 3) := by decide +kernel
theorem dX9_come_101 : decode cX9_come 101 = .ok (.aload_n 0, 1) := by decide +kernel
theorem dX9_come_102 : decode cX9_come 102 = .ok (.getfield 22, 3) := by decide +kernel
theorem dX9_come_105 : decode cX9_come 105 = .ok (.iload_n 2, 1) := by decide +kernel
theorem dX9_come_106 : decode cX9_come 106 = .ok (.iaload, 1) := by decide +kernel
theorem dX9_come_107 : decode cX9_come 107 = .ok (.bipush 60, 2) := by decide +kernel
theorem dX9_come_109 : decode cX9_come 109 = .ok (.if_icmp .ge 20, 3) := by decide +kernel
theorem dX9_come_112 : decode cX9_come 112 = .ok (.aload_n 0, 1) := by decide +kernel
theorem dX9_come_113 : decode cX9_come 113 = .ok (.iload_n 2, 1) := by decide +kernel
theorem dX9_come_114 : decode cX9_come 114 = .ok (.aload_n 0, 1) := by decide +kernel
theorem dX9_come_115 : decode cX9_come 115 = .ok (.getfield 89, 3) := by decide +kernel
theorem dX9_come_118 : decode cX9_come 118 = .ok (.bipush 60, 2) := by decide +kernel
theorem dX9_come_120 : decode cX9_come 120 = .ok (.iload_n 1, 1) := by decide +kernel
theorem dX9_come_121 : decode cX9_come 121 = .ok (.imul, 1) := by decide +kernel
theorem dX9_come_122 : decode cX9_come 122 = .ok (.iaload, 1) := by decide +kernel
theorem dX9_come_123 : decode cX9_come 123 = .ok (.invokevirtual 149, 3) := by decide +kernel
theorem dX9_come_126 : decode cX9_come 126 = .ok (.goto 307, 3) := by decide +kernel
theorem dX9_come_129 : decode cX9_come 129 = .ok (.aload_n 0, 1) := by decide +kernel
theorem dX9_come_130 : decode cX9_come 130 = .ok (.dup, 1) := by decide +kernel
theorem dX9_come_131 : decode cX9_come 131 = .ok (.getfield 108, 3) := by decide +kernel
theorem dX9_come_134 : decode cX9_come 134 = .ok (.iconst 1, 1) := by decide +kernel
theorem dX9_come_135 : decode cX9_come 135 = .ok (.iadd, 1) := by decide +kernel
theorem dX9_come_136 : decode cX9_come 136 = .ok (.putfield 108, 3) := by decide +kernel
theorem dX9_come_139 : decode cX9_come 139 = .ok (.goto 294, 3) := by decide +kernel
theorem dX9_come_142 : decode cX9_come 142 = .ok (.aload_n 0, 1) := by decide +kernel
theorem dX9_come_143 : decode cX9_come 143 = .ok (.getfield 80, 3) := by decide +kernel
theorem dX9_come_146 : decode cX9_come 146 = .ok (.iload_n 1, 1) := by decide +kernel
theorem dX9_come_147 : decode cX9_come 147 = .ok (.iaload, 1) := by decide +kernel
theorem dX9_come_148 : decode cX9_come 148 = .ok (.aload_n 0, 1) := by decide +kernel
theorem dX9_come_149 : decode cX9_come 149 = .ok (.getfield 13, 3) := by decide +kernel
theorem dX9_come_152 : decode cX9_come 152 = .ok (.iload_n 2, 1) := by decide +kernel
theorem dX9_come_153 : decode cX9_come 153 = .ok (.iaload, 1) := by decide +kernel
theorem dX9_come_154 : decode cX9_come 154 = .ok (.if_icmp .ne 279, 3) := by decide +kernel
theorem dX9_come_157 : decode cX9_come 157 = .ok (.aload_n 0, 1) := by decide +kernel
theorem dX9_come_158 : decode cX9_come 158 = .ok (.iload_n 2, 1) := by decide +kernel
theorem dX9_come_159 : decode cX9_come 159 = .ok (.invokevirtual 142, 3) := by decide +kernel
theorem dX9_come_162 : decode cX9_come 162 = .ok (.ifCond .ne 271, 3) := by decide +kernel
theorem dX9_come_165 : decode cX9_come 165 = .ok (.aload_n 0, 1) := by decide +kernel
theorem dX9_come_166 : decode cX9_come 166 = .ok (.getfield 22, 3) := by decide +kernel
theorem dX9_come_169 : decode cX9_come 169 = .ok (.iload_n 2, 1) := by decide +kernel
theorem dX9_come_170 : decode cX9_come 170 = .ok (.iaload, 1) := by decide +kernel
theorem dX9_come_171 : decode cX9_come 171 = .ok (.aload_n 0, 1) := by decide +kernel
theorem dX9_come_172 : decode cX9_come 172 = .ok (.getfield 83, 3) := by decide +kernel
theorem dX9_come_175 : decode cX9_come 175 = .ok (.iload_n 1, 1) := by decide +kernel
theorem dX9_come_176 : decode cX9_come 176 = .ok (.iaload, 1) := by decide +kernel
theorem dX9_come_177 : decode cX9_come 177 = .ok (.if_icmp .eq 6, 3) := by decide +kernel
theorem dX9_come_180 : decode cX9_come 180 = .ok (.goto 253, 3) := by decide +kernel
theorem dX9_come_183 : decode cX9_come 183 = .ok (.aload_n 0, 1) := by decide +kernel
theorem dX9_come_184 : decode cX9_come 184 = .ok (.getfield 19, 3) := by decide +kernel
theorem dX9_come_187 : decode cX9_come 187 = .ok (.bipush 60, 2) := by decide +kernel
theorem dX9_come_189 : decode cX9_come 189 = .ok (.iload_n 2, 1) := by decide +kernel
theorem dX9_come_190 : decode cX9_come 190 = .ok (.imul, 1) := by decide +kernel
theorem dX9_come_191 : decode cX9_come 191 = .ok (.aload_n 0, 1) := by decide +kernel
theorem dX9_come_192 : decode cX9_come 192 = .ok (.getfield 22, 3) := by decide +kernel
theorem dX9_come_195 : decode cX9_come 195 = .ok (.iload_n 2, 1) := by decide +kernel
theorem dX9_come_196 : decode cX9_come 196 = .ok (.iaload, 1) := by decide +kernel
theorem dX9_come_197 : decode cX9_come 197 = .ok (.iadd, 1) := by decide +kernel
theorem dX9_come_198 : decode cX9_come 198 = .ok (.aload_n 0, 1) := by decide +kernel
theorem dX9_come_199 : decode cX9_come 199 = .ok (.getfield 89, 3) := by decide +kernel
theorem dX9_come_202 : decode cX9_come 202 = .ok (.bipush 60, 2) := by decide +kernel
theorem dX9_come_204 : decode cX9_come 204 = .ok (.iload_n 1, 1) := by decide +kernel
theorem dX9_come_205 : decode cX9_come 205 = .ok (.imul, 1) := by decide +kernel
theorem dX9_come_206 : decode cX9_come 206 = .ok (.iaload, 1) := by decide +kernel
theorem dX9_come_207 : decode cX9_come 207 = .ok (.iastore, 1) := by decide +kernel
theorem dX9_come_208 : decode cX9_come 208 = .ok (.aload_n 0, 1) := by decide +kernel
theorem dX9_come_209 : decode cX9_come 209 = .ok (.getfield 22, 3) := by decide +kernel
theorem dX9_come_212 : decode cX9_come 212 = .ok (.iload_n 2, 1) := by decide +kernel
theorem dX9_come_213 : decode cX9_come 213 = .ok (.dup2, 1) := by decide +kernel
theorem dX9_come_214 : decode cX9_come 214 = .ok (.iaload, 1) := by decide +kernel
theorem dX9_come_215 : decode cX9_come 215 = .ok (.iconst 1, 1) := by decide +kernel
theorem dX9_come_216 : decode cX9_come 216 = .ok (.iadd, 1) := by decide +kernel
theorem dX9_come_217 : decode cX9_come 217 = .ok (.iastore, 1) := by decide +kernel
theorem dX9_come_218 : decode cX9_come 218 = .ok (.aload_n 0, 1) := by decide +kernel
theorem dX9_come_219 : decode cX9_come 219 = .ok (.iload_n 2, 1) := by decide +kernel
theorem dX9_come_220 : decode cX9_come 220 = .ok (.iload_n 3, 1) := by decide +kernel
theorem dX9_come_221 : decode cX9_come 221 = .ok (.iconst 3, 1) := by decide +kernel
theorem dX9_come_222 : decode cX9_come 222 = .ok (.aload_n 0, 1) := by decide +kernel
theorem dX9_come_223 : decode cX9_come 223 = .ok (.getfield 80, 3) := by decide +kernel
theorem dX9_come_226 : decode cX9_come 226 = .ok (.iload_n 1, 1) := by decide +kernel
theorem dX9_come_227 : decode cX9_come 227 = .ok (.iaload, 1) := by decide +kernel
theorem dX9_come_228 : decode cX9_come 228 = .ok (.aload_n 0, 1) := by decide +kernel
theorem dX9_come_229 : decode cX9_come 229 = .ok (.getfield 22, 3) := by decide +kernel
theorem dX9_come_232 : decode cX9_come 232 = .ok (.iload_n 2, 1) := by decide +kernel
theorem dX9_come_233 : decode cX9_come 233 = .ok (.iaload, 1) := by decide +kernel
theorem dX9_come_234 : decode cX9_come 234 = .ok (.iconst 0, 1) := by decide +kernel
theorem dX9_come_235 : decode cX9_come 235 = .ok (.iconst 0, 1) := by decide +kernel
theorem dX9_come_236 : decode cX9_come 236 = .ok (.invokevirtual 111, 3) := by decide +kernel
theorem dX9_come_239 : decode cX9_come 239 = .ok (.goto 194, 3) := by decide +kernel
theorem dX9_come_242 : decode cX9_come 242 = .ok (.aload_n 0, 1) := by decide +kernel
theorem dX9_come_243 : decode cX9_come 243 = .ok (.iload_n 2, 1) := by decide +kernel
theorem dX9_come_244 : decode cX9_come 244 = .ok (.invokevirtual 145, 3) := by decide +kernel
theorem dX9_come_247 : decode cX9_come 247 = .ok (.iload_n 2, 1) := by decide +kernel
theorem dX9_come_248 : decode cX9_come 248 = .ok (.if_icmp .ne 185, 3) := by decide +kernel
theorem dX9_come_251 : decode cX9_come 251 = .ok (.aload_n 0, 1) := by decide +kernel
theorem dX9_come_252 : decode cX9_come 252 = .ok (.getfield 80, 3) := by decide +kernel
theorem dX9_come_255 : decode cX9_come 255 = .ok (.iload_n 1, 1) := by decide +kernel
theorem dX9_come_256 : decode cX9_come 256 = .ok (.iaload, 1) := by decide +kernel
theorem dX9_come_257 : decode cX9_come 257 = .ok (.aload_n 0, 1) := by decide +kernel
theorem dX9_come_258 : decode cX9_come 258 = .ok (.getfield 13, 3) := by decide +kernel
theorem dX9_come_261 : decode cX9_come 261 = .ok (.iload_n 2, 1) := by decide +kernel
theorem dX9_come_262 : decode cX9_come 262 = .ok (.iaload, 1) := by decide +kernel
theorem dX9_come_263 : decode cX9_come 263 = .ok (.if_icmp .ne 170, 3) := by decide +kernel
theorem dX9_come_266 : decode cX9_come 266 = .ok (.aload_n 0, 1) := by decide +kernel
theorem dX9_come_267 : decode cX9_come 267 = .ok (.iload_n 2, 1) := by decide +kernel
theorem dX9_come_268 : decode cX9_come 268 = .ok (.invokevirtual 142, 3) := by decide +kernel
theorem dX9_come_271 : decode cX9_come 271 = .ok (.ifCond .eq 6, 3) := by decide +kernel
theorem dX9_come_274 : decode cX9_come 274 = .ok (.goto 159, 3) := by decide +kernel
theorem dX9_come_277 : decode cX9_come 277 = .ok (.aload_n 0, 1) := by decide +kernel
theorem dX9_come_278 : decode cX9_come 278 = .ok (.getfield 83, 3) := by decide +kernel
theorem dX9_come_281 : decode cX9_come 281 = .ok (.iload_n 1, 1) := by decide +kernel
theorem dX9_come_282 : decode cX9_come 282 = .ok (.iaload, 1) := by decide +kernel
theorem dX9_come_283 : decode cX9_come 283 = .ok (.aload_n 0, 1) := by decide +kernel
theorem dX9_come_284 : decode cX9_come 284 = .ok (.getfield 46, 3) := by decide +kernel
theorem dX9_come_287 : decode cX9_come 287 = .ok (.bipush 7, 2) := by decide +kernel
theorem dX9_come_289 : decode cX9_come 289 = .ok (.iload_n 2, 1) := by decide +kernel
theorem dX9_come_290 : decode cX9_come 290 = .ok (.imul, 1) := by decide +kernel
theorem dX9_come_291 : decode cX9_come 291 = .ok (.iload_n 3, 1) := by decide +kernel
theorem dX9_come_292 : decode cX9_come 292 = .ok (.iadd, 1) := by decide +kernel
theorem dX9_come_293 : decode cX9_come 293 = .ok (.iaload, 1) := by decide +kernel
theorem dX9_come_294 : decode cX9_come 294 = .ok (.if_icmp .le 20, 3) := by decide +kernel
theorem dX9_come_297 : decode cX9_come 297 = .ok (.aload_n 0, 1) := by decide +kernel
theorem dX9_come_298 : decode cX9_come 298 = .ok (.getfield 46, 3) := by decide +kernel
theorem dX9_come_301 : decode cX9_come 301 = .ok (.bipush 7, 2) := by decide +kernel
theorem dX9_come_303 : decode cX9_come 303 = .ok (.iload_n 2, 1) := by decide +kernel
theorem dX9_come_304 : decode cX9_come 304 = .ok (.imul, 1) := by decide +kernel
theorem dX9_come_305 : decode cX9_come 305 = .ok (.iload_n 3, 1) := by decide +kernel
theorem dX9_come_306 : decode cX9_come 306 = .ok (.iadd, 1) := by decide +kernel
theorem dX9_come_307 : decode cX9_come 307 = .ok (.aload_n 0, 1) := by decide +kernel
theorem dX9_come_308 : decode cX9_come 308 = .ok (.getfield 83, 3) := by decide +kernel
theorem dX9_come_311 : decode cX9_come 311 = .ok (.iload_n 1, 1) := by decide +kernel
theorem dX9_come_312 : decode cX9_come 312 = .ok (.iaload, 1) := by decide +kernel
theorem dX9_come_313 : decode cX9_come 313 = .ok (.iastore, 1) := by decide +kernel
theorem dX9_come_314 : decode cX9_come 314 = .ok (.aload_n 0, 1) := by decide +kernel
theorem dX9_come_315 : decode cX9_come 315 = .ok (.iload_n 2, 1) := by decide +kernel
theorem dX9_come_316 : decode cX9_come 316 = .ok (.invokevirtual 129, 3) := by decide +kernel
theorem dX9_come_319 : decode cX9_come 319 = .ok (.goto 114, 3) := by decide +kernel
theorem dX9_come_322 : decode cX9_come 322 = .ok (.aload_n 0, 1) := by decide +kernel
theorem dX9_come_323 : decode cX9_come 323 = .ok (.getfield 80, 3) := by decide +kernel
theorem dX9_come_326 : decode cX9_come 326 = .ok (.iload_n 1, 1) := by decide +kernel
theorem dX9_come_327 : decode cX9_come 327 = .ok (.iaload, 1) := by decide +kernel
theorem dX9_come_328 : decode cX9_come 328 = .ok (.aload_n 0, 1) := by decide +kernel
theorem dX9_come_329 : decode cX9_come 329 = .ok (.getfield 13, 3) := by decide +kernel
theorem dX9_come_332 : decode cX9_come 332 = .ok (.iload_n 2, 1) := by decide +kernel
theorem dX9_come_333 : decode cX9_come 333 = .ok (.iaload, 1) := by decide +kernel
theorem dX9_come_334 : decode cX9_come 334 = .ok (.if_icmp .ne 99, 3) := by decide +kernel
theorem dX9_come_337 : decode cX9_come 337 = .ok (.aload_n 0, 1) := by decide +kernel
theorem dX9_come_338 : decode cX9_come 338 = .ok (.iload_n 2, 1) := by decide +kernel
theorem dX9_come_339 : decode cX9_come 339 = .ok (.invokevirtual 142, 3) := by decide +kernel
theorem dX9_come_342 : decode cX9_come 342 = .ok (.ifCond .ne 91, 3) := by decide +kernel
theorem dX9_come_345 : decode cX9_come 345 = .ok (.aload_n 0, 1) := by decide +kernel
theorem dX9_come_346 : decode cX9_come 346 = .ok (.iload_n 2, 1) := by decide +kernel
theorem dX9_come_347 : decode cX9_come 347 = .ok (.aload_n 0, 1) := by decide +kernel
theorem dX9_come_348 : decode cX9_come 348 = .ok (.getfield 83, 3) := by decide +kernel
theorem dX9_come_351 : decode cX9_come 351 = .ok (.iload_n 1, 1) := by decide +kernel
theorem dX9_come_352 : decode cX9_come 352 = .ok (.iaload, 1) := by decide +kernel
theorem dX9_come_353 : decode cX9_come 353 = .ok (.invokevirtual 132, 3) := by decide +kernel
theorem dX9_come_356 : decode cX9_come 356 = .ok (.goto 77, 3) := by decide +kernel
theorem dX9_come_359 : decode cX9_come 359 = .ok (.iload_n 3, 1) := by decide +kernel
theorem dX9_come_360 : decode cX9_come 360 = .ok (.iload_n 2, 1) := by decide +kernel
theorem dX9_come_361 : decode cX9_come 361 = .ok (.if_icmp .le 6, 3) := by decide +kernel
theorem dX9_come_364 : decode cX9_come 364 = .ok (.goto 69, 3) := by decide +kernel
theorem dX9_come_367 : decode cX9_come 367 = .ok (.aload_n 0, 1) := by decide +kernel
theorem dX9_come_368 : decode cX9_come 368 = .ok (.iload_n 2, 1) := by decide +kernel
theorem dX9_come_369 : decode cX9_come 369 = .ok (.iload_n 3, 1) := by decide +kernel
theorem dX9_come_370 : decode cX9_come 370 = .ok (.bipush 6, 2) := by decide +kernel
theorem dX9_come_372 : decode cX9_come 372 = .ok (.iconst 0, 1) := by decide +kernel
theorem dX9_come_373 : decode cX9_come 373 = .ok (.iconst 0, 1) := by decide +kernel
theorem dX9_come_374 : decode cX9_come 374 = .ok (.iconst 0, 1) := by decide +kernel
theorem dX9_come_375 : decode cX9_come 375 = .ok (.iconst 0, 1) := by decide +kernel
theorem dX9_come_376 : decode cX9_come 376 = .ok (.invokevirtual 111, 3) := by decide +kernel
theorem dX9_come_379 : decode cX9_come 379 = .ok (.aload_n 0, 1) := by decide +kernel
theorem dX9_come_380 : decode cX9_come 380 = .ok (.getfield 37, 3) := by decide +kernel
theorem dX9_come_383 : decode cX9_come 383 = .ok (.iload_n 2, 1) := by decide +kernel
theorem dX9_come_384 : decode cX9_come 384 = .ok (.iaload, 1) := by decide +kernel
theorem dX9_come_385 : decode cX9_come 385 = .ok (.ifCond .ne 48, 3) := by decide +kernel
theorem dX9_come_388 : decode cX9_come 388 = .ok (.aload_n 0, 1) := by decide +kernel
theorem dX9_come_389 : decode cX9_come 389 = .ok (.iload_n 2, 1) := by decide +kernel
theorem dX9_come_390 : decode cX9_come 390 = .ok (.invokevirtual 174, 3) := by decide +kernel
theorem dX9_come_393 : decode cX9_come 393 = .ok (.goto 40, 3) := by decide +kernel
theorem dX9_come_396 : decode cX9_come 396 = .ok (.aload_n 0, 1) := by decide +kernel
theorem dX9_come_397 : decode cX9_come 397 = .ok (.getfield 37, 3) := by decide +kernel
theorem dX9_come_400 : decode cX9_come 400 = .ok (.iload_n 2, 1) := by decide +kernel
theorem dX9_come_401 : decode cX9_come 401 = .ok (.iaload, 1) := by decide +kernel
theorem dX9_come_402 : decode cX9_come 402 = .ok (.iconst 1, 1) := by decide +kernel
theorem dX9_come_403 : decode cX9_come 403 = .ok (.if_icmp .ne 30, 3) := by decide +kernel
theorem dX9_come_406 : decode cX9_come 406 = .ok (.aload_n 0, 1) := by decide +kernel
theorem dX9_come_407 : decode cX9_come 407 = .ok (.getfield 37, 3) := by decide +kernel
theorem dX9_come_410 : decode cX9_come 410 = .ok (.iload_n 2, 1) := by decide +kernel
theorem dX9_come_411 : decode cX9_come 411 = .ok (.iconst 2, 1) := by decide +kernel
theorem dX9_come_412 : decode cX9_come 412 = .ok (.iastore, 1) := by decide +kernel
theorem dX9_come_413 : decode cX9_come 413 = .ok (.goto 20, 3) := by decide +kernel
theorem dX9_come_416 : decode cX9_come 416 = .ok (.aload_n 0, 1) := by decide +kernel
theorem dX9_come_417 : decode cX9_come 417 = .ok (.getfield 7, 3) := by decide +kernel
theorem dX9_come_420 : decode cX9_come 420 = .ok (.iload_n 2, 1) := by decide +kernel
theorem dX9_come_421 : decode cX9_come 421 = .ok (.iconst 2, 1) := by decide +kernel
theorem dX9_come_422 : decode cX9_come 422 = .ok (.iastore, 1) := by decide +kernel
theorem dX9_come_423 : decode cX9_come 423 = .ok (.goto 10, 3) := by decide +kernel
theorem dX9_come_426 : decode cX9_come 426 = .ok (.aload_n 0, 1) := by decide +kernel
theorem dX9_come_427 : decode cX9_come 427 = .ok (.iload_n 1, 1) := by decide +kernel
theorem dX9_come_428 : decode cX9_come 428 = .ok (.iload_n 2, 1) := by decide +kernel
theorem dX9_come_429 : decode cX9_come 429 = .ok (.iload_n 3, 1) := by decide +kernel
theorem dX9_come_430 : decode cX9_come 430 = .ok (.invokevirtual 177, 3) := by decide +kernel
theorem dX9_come_433 : decode cX9_come 433 = .ok (.return_, 1) := by decide +kernel
theorem dX9_comeOfView_0 : decode cX9_comeOfView 0 = .ok (.aload_n 0, 1) := by decide +kernel
theorem dX9_comeOfView_1 : decode cX9_comeOfView 1 = .ok (.getfield 77, 3) := by decide +kernel
theorem dX9_comeOfView_4 : decode cX9_comeOfView 4 = .ok (.iload_n 1, 1) := by decide +kernel
theorem dX9_comeOfView_5 : decode cX9_comeOfView 5 = .ok (.iaload, 1) := by decide +kernel
theorem dX9_comeOfView_6 : decode cX9_comeOfView 6 = .ok (.tableswitch 446 7 10 #[30, 104, 264, 370], 30) := by decide +kernel
theorem dX9_comeOfView_36 : decode cX9_comeOfView 36 = .ok (.aload_n 0, 1) := by decide +kernel
theorem dX9_comeOfView_37 : decode cX9_comeOfView 37 = .ok (.getfield 80, 3) := by decide +kernel
theorem dX9_comeOfView_40 : decode cX9_comeOfView 40 = .ok (.iload_n 1, 1) := by decide +kernel
theorem dX9_comeOfView_41 : decode cX9_comeOfView 41 = .ok (.iaload, 1) := by decide +kernel
theorem dX9_comeOfView_42 : decode cX9_comeOfView 42 = .ok (.aload_n 0, 1) := by decide +kernel
theorem dX9_comeOfView_43 : decode cX9_comeOfView 43 = .ok (.getfield 31, 3) := by decide +kernel
theorem dX9_comeOfView_46 : decode cX9_comeOfView 46 = .ok (.iload_n 2, 1) := by decide +kernel
theorem dX9_comeOfView_47 : decode cX9_comeOfView 47 = .ok (.iaload, 1) := by decide +kernel
theorem dX9_comeOfView_48 : decode cX9_comeOfView 48 = .ok (.if_icmp .gt 6, 3) := by decide +kernel
theorem dX9_comeOfView_51 : decode cX9_comeOfView 51 = .ok (.goto 433, 3) := by decide +kernel
theorem dX9_comeOfView_54 : decode cX9_comeOfView 54 = .ok (.aload_n 0, 1) := by decide +kernel
theorem dX9_comeOfView_55 : decode cX9_comeOfView 55 = .ok (.getfield 31, 3) := by decide +kernel
theorem dX9_comeOfView_58 : decode cX9_comeOfView 58 = .ok (.iload_n 2, 1) := by decide +kernel
theorem dX9_comeOfView_59 : decode cX9_comeOfView 59 = .ok (.aload_n 0, 1) := by decide +kernel
theorem dX9_comeOfView_60 : decode cX9_comeOfView 60 = .ok (.getfield 80, 3) := by decide +kernel
theorem dX9_comeOfView_63 : decode cX9_comeOfView 63 = .ok (.iload_n 1, 1) := by decide +kernel
theorem dX9_comeOfView_64 : decode cX9_comeOfView 64 = .ok (.iaload, 1) := by decide +kernel
theorem dX9_comeOfView_65 : decode cX9_comeOfView 65 = .ok (.iastore, 1) := by decide +kernel
theorem dX9_comeOfView_66 : decode cX9_comeOfView 66 = .ok (.aload_n 0, 1) := by decide +kernel
theorem dX9_comeOfView_67 : decode cX9_comeOfView 67 = .ok (.getfield 37, 3) := by decide +kernel
theorem dX9_comeOfView_70 : decode cX9_comeOfView 70 = .ok (.iload_n 2, 1) := by decide +kernel
theorem dX9_comeOfView_71 : decode cX9_comeOfView 71 = .ok (.iconst 0, 1) := by decide +kernel
theorem dX9_comeOfView_72 : decode cX9_comeOfView 72 = .ok (.iastore, 1) := by decide +kernel
theorem dX9_comeOfView_73 : decode cX9_comeOfView 73 = .ok (.aload_n 0, 1) := by decide +kernel
theorem dX9_comeOfView_74 : decode cX9_comeOfView 74 = .ok (.getfield 43, 3) := by decide +kernel
theorem dX9_comeOfView_77 : decode cX9_comeOfView 77 = .ok (.iload_n 2, 1) := by decide +kernel
theorem dX9_comeOfView_78 : decode cX9_comeOfView 78 = .ok (.iload_n 3, 1) := by decide +kernel
theorem dX9_comeOfView_79 : decode cX9_comeOfView 79 = .ok (.iastore, 1) := by decide +kernel
theorem dX9_comeOfView_80 : decode cX9_comeOfView 80 = .ok (.aload_n 0, 1) := by decide +kernel
theorem dX9_comeOfView_81 : decode cX9_comeOfView 81 = .ok (.iload_n 2, 1) := by decide +kernel
theorem dX9_comeOfView_82 : decode cX9_comeOfView 82 = .ok (.iload_n 3, 1) := by decide +kernel
theorem dX9_comeOfView_83 : decode cX9_comeOfView 83 = .ok (.bipush 8, 2) := by decide +kernel
theorem dX9_comeOfView_85 : decode cX9_comeOfView 85 = .ok (.aload_n 0, 1) := by decide +kernel
theorem dX9_comeOfView_86 : decode cX9_comeOfView 86 = .ok (.getfield 80, 3) := by decide +kernel
theorem dX9_comeOfView_89 : decode cX9_comeOfView 89 = .ok (.iload_n 1, 1) := by decide +kernel
theorem dX9_comeOfView_90 : decode cX9_comeOfView 90 = .ok (.iaload, 1) := by decide +kernel
theorem dX9_comeOfView_91 : decode cX9_comeOfView 91 = .ok (.aload_n 0, 1) := by decide +kernel
theorem dX9_comeOfView_92 : decode cX9_comeOfView 92 = .ok (.getfield 28, 3) := by decide +kernel
theorem dX9_comeOfView_95 : decode cX9_comeOfView 95 = .ok (.iload_n 2, 1) := by decide +kernel
theorem dX9_comeOfView_96 : decode cX9_comeOfView 96 = .ok (.iaload, 1) := by decide +kernel
theorem dX9_comeOfView_97 : decode cX9_comeOfView 97 = .ok (.aload_n 0, 1) := by decide +kernel
theorem dX9_comeOfView_98 : decode cX9_comeOfView 98 = .ok (.getfield 22, 3) := by decide +kernel
theorem dX9_comeOfView_101 : decode cX9_comeOfView 101 = .ok (.iload_n 2, 1) := by decide +kernel
theorem dX9_comeOfView_102 : decode cX9_comeOfView 102 = .ok (.iaload, 1) := by decide +kernel
theorem dX9_comeOfView_103 : decode cX9_comeOfView 103 = .ok (.iconst 0, 1) := by decide +kernel
theorem dX9_comeOfView_104 : decode cX9_comeOfView 104 = .ok (.invokevirtual 111, 3) := by decide +kernel
theorem dX9_comeOfView_107 : decode cX9_comeOfView 107 = .ok (.goto 377, 3) := by decide +kernel
theorem dX9_comeOfView_110 : decode cX9_comeOfView 110 = .ok (.aload_n 0, 1) := by decide +kernel
theorem dX9_comeOfView_111 : decode cX9_comeOfView 111 = .ok (.getfield 37, 3) := by decide +kernel
theorem dX9_comeOfView_114 : decode cX9_comeOfView 114 = .ok (.iload_n 2, 1) := by decide +kernel
theorem dX9_comeOfView_115 : decode cX9_comeOfView 115 = .ok (.iaload, 1) := by decide +kernel
theorem dX9_comeOfView_116 : decode cX9_comeOfView 116 = .ok (.iconst 3, 1) := by decide +kernel
theorem dX9_comeOfView_117 : decode cX9_comeOfView 117 = .ok (.if_icmp .ne 367, 3) := by decide +kernel
theorem dX9_comeOfView_120 : decode cX9_comeOfView 120 = .ok (.aload_n 0, 1) := by decide +kernel
theorem dX9_comeOfView_121 : decode cX9_comeOfView 121 = .ok (.getfield 80, 3) := by decide +kernel
theorem dX9_comeOfView_124 : decode cX9_comeOfView 124 = .ok (.iload_n 1, 1) := by decide +kernel
theorem dX9_comeOfView_125 : decode cX9_comeOfView 125 = .ok (.iaload, 1) := by decide +kernel
theorem dX9_comeOfView_126 : decode cX9_comeOfView 126 = .ok (.aload_n 0, 1) := by decide +kernel
theorem dX9_comeOfView_127 : decode cX9_comeOfView 127 = .ok (.getfield 31, 3) := by decide +kernel
theorem dX9_comeOfView_130 : decode cX9_comeOfView 130 = .ok (.iload_n 2, 1) := by decide +kernel
theorem dX9_comeOfView_131 : decode cX9_comeOfView 131 = .ok (.iaload, 1) := by decide +kernel
theorem dX9_comeOfView_132 : decode cX9_comeOfView 132 = .ok (.if_icmp .ne 352, 3) := by decide +kernel
theorem dX9_comeOfView_135 : decode cX9_comeOfView 135 = .ok (.aload_n 0, 1) := by decide +kernel
theorem dX9_comeOfView_136 : decode cX9_comeOfView 136 = .ok (.getfield 40, 3) := by decide +kernel
theorem dX9_comeOfView_139 : decode cX9_comeOfView 139 = .ok (.iload_n 2, 1) := by decide +kernel
theorem dX9_comeOfView_140 : decode cX9_comeOfView 140 = .ok (.iaload, 1) := by decide +kernel
theorem dX9_comeOfView_141 : decode cX9_comeOfView 141 = .ok (.iload_n 3, 1) := by decide +kernel
theorem dX9_comeOfView_142 : decode cX9_comeOfView 142 = .ok (.invokestatic 99, 3) := by decide +kernel
theorem dX9_comeOfView_145 : decode cX9_comeOfView 145 = .ok (.ifCond .ne 6, 3) := by decide +kernel
theorem dX9_comeOfView_148 : decode cX9_comeOfView 148 = .ok (.goto 336, 3) := by decide +kernel
theorem dX9_comeOfView_151 : decode cX9_comeOfView 151 = .ok (.aload_n 0, 1) := by decide +kernel
theorem dX9_comeOfView_152 : decode cX9_comeOfView 152 = .ok (.getfield 49, 3) := by decide +kernel
theorem dX9_comeOfView_155 : decode cX9_comeOfView 155 = .ok (.iload_n 2, 1) := by decide +kernel
theorem dX9_comeOfView_156 : decode cX9_comeOfView 156 = .ok (.dup2, 1) := by decide +kernel
theorem dX9_comeOfView_157 : decode cX9_comeOfView 157 = .ok (.iaload, 1) := by decide +kernel
theorem dX9_comeOfView_158 : decode cX9_comeOfView 158 = .ok (.iconst 1, 1) := by decide +kernel
theorem dX9_comeOfView_159 : decode cX9_comeOfView 159 = .ok (.iload_n 3, 1) := by decide +kernel
theorem dX9_comeOfView_160 : decode cX9_comeOfView 160 = .ok (.ishl, 1) := by decide +kernel
theorem dX9_comeOfView_161 : decode cX9_comeOfView 161 = .ok (.ior, 1) := by decide +kernel
theorem dX9_comeOfView_162 : decode cX9_comeOfView 162 = .ok (.iastore, 1) := by decide +kernel
theorem dX9_comeOfView_163 : decode cX9_comeOfView 163 = .ok (.aload_n 0, 1) := by decide +kernel
theorem dX9_comeOfView_164 : decode cX9_comeOfView 164 = .ok (.getfield 52, 3) := by decide +kernel
theorem dX9_comeOfView_167 : decode cX9_comeOfView 167 = .ok (.bipush 7, 2) := by decide +kernel
theorem dX9_comeOfView_169 : decode cX9_comeOfView 169 = .ok (.iload_n 2, 1) := by decide +kernel
theorem dX9_comeOfView_170 : decode cX9_comeOfView 170 = .ok (.imul, 1) := by decide +kernel
theorem dX9_comeOfView_171 : decode cX9_comeOfView 171 = .ok (.iload_n 3, 1) := by decide +kernel
theorem dX9_comeOfView_172 : decode cX9_comeOfView 172 = .ok (.iadd, 1) := by decide +kernel
theorem dX9_comeOfView_173 : decode cX9_comeOfView 173 = .ok (.aload_n 0, 1) := by decide +kernel
theorem dX9_comeOfView_174 : decode cX9_comeOfView 174 = .ok (.getfield 83, 3) := by decide +kernel
theorem dX9_comeOfView_177 : decode cX9_comeOfView 177 = .ok (.iload_n 1, 1) := by decide +kernel
theorem dX9_comeOfView_178 : decode cX9_comeOfView 178 = .ok (.iaload, 1) := by decide +kernel
theorem dX9_comeOfView_179 : decode cX9_comeOfView 179 = .ok (.iastore, 1) := by decide +kernel
theorem dX9_comeOfView_180 : decode cX9_comeOfView 180 = .ok (.aload_n 0, 1) := by decide +kernel
theorem dX9_comeOfView_181 : decode cX9_comeOfView 181 = .ok (.getfield 55, 3) := by decide +kernel
theorem dX9_comeOfView_184 : decode cX9_comeOfView 184 = .ok (.bipush 7, 2) := by decide +kernel
theorem dX9_comeOfView_186 : decode cX9_comeOfView 186 = .ok (.iload_n 2, 1) := by decide +kernel
theorem dX9_comeOfView_187 : decode cX9_comeOfView 187 = .ok (.imul, 1) := by decide +kernel
theorem dX9_comeOfView_188 : decode cX9_comeOfView 188 = .ok (.iload_n 3, 1) := by decide +kernel
theorem dX9_comeOfView_189 : decode cX9_comeOfView 189 = .ok (.iadd, 1) := by decide +kernel
theorem dX9_comeOfView_190 : decode cX9_comeOfView 190 = .ok (.aload_n 0, 1) := by decide +kernel
theorem dX9_comeOfView_191 : decode cX9_comeOfView 191 = .ok (.getfield 86, 3) := by decide +kernel
theorem dX9_comeOfView_194 : decode cX9_comeOfView 194 = .ok (.iload_n 1, 1) := by decide +kernel
theorem dX9_comeOfView_195 : decode cX9_comeOfView 195 = .ok (.iaload, 1) := by decide +kernel
theorem dX9_comeOfView_196 : decode cX9_comeOfView 196 = .ok (.iastore, 1) := by decide +kernel
theorem dX9_comeOfView_197 : decode cX9_comeOfView 197 = .ok (.iconst 0, 1) := by decide +kernel
theorem dX9_comeOfView_198 : decode cX9_comeOfView 198 = .ok (.istore 4, 2) := by decide +kernel
theorem dX9_comeOfView_200 : decode cX9_comeOfView 200 = .ok (.iload 4, 2) := by decide +kernel
theorem dX9_comeOfView_202 : decode cX9_comeOfView 202 = .ok (.aload_n 0, 1) := by decide +kernel
theorem dX9_comeOfView_203 : decode cX9_comeOfView 203 = .ok (.getfield 86, 3) := by decide +kernel
theorem dX9_comeOfView_206 : decode cX9_comeOfView 206 = .ok (.iload_n 1, 1) := by decide +kernel
theorem dX9_comeOfView_207 : decode cX9_comeOfView 207 = .ok (.iaload, 1) := by decide +kernel
theorem dX9_comeOfView_208 : decode cX9_comeOfView 208 = .ok (.if_icmp .ge 39, 3) := by decide +kernel
theorem dX9_comeOfView_211 : decode cX9_comeOfView 211 = .ok (.aload_n 0, 1) := by decide +kernel
theorem dX9_comeOfView_212 : decode cX9_comeOfView 212 = .ok (.getfield 58, 3) := by decide +kernel
theorem dX9_comeOfView_215 : decode cX9_comeOfView 215 = .ok (.sipush 420, 3) := by decide +kernel
theorem dX9_comeOfView_218 : decode cX9_comeOfView 218 = .ok (.iload_n 2, 1) := by decide +kernel
theorem dX9_comeOfView_219 : decode cX9_comeOfView 219 = .ok (.imul, 1) := by decide +kernel
theorem dX9_comeOfView_220 : decode cX9_comeOfView 220 = .ok (.bipush 60, 2) := by decide +kernel
theorem dX9_comeOfView_222 : decode cX9_comeOfView 222 = .ok (.iload_n 3, 1) := by decide +kernel
theorem dX9_comeOfView_223 : decode cX9_comeOfView 223 = .ok (.imul, 1) := by decide +kernel
theorem dX9_comeOfView_224 : decode cX9_comeOfView 224 = .ok (.iadd, 1) := by decide +kernel
theorem dX9_comeOfView_225 : decode cX9_comeOfView 225 = .ok (.iload 4, 2) := by decide +kernel
theorem dX9_comeOfView_227 : decode cX9_comeOfView 227 = .ok (.iadd, 1) := by decide +kernel
theorem dX9_comeOfView_228 : decode cX9_comeOfView 228 = .ok (.aload_n 0, 1) := by decide +kernel
theorem dX9_comeOfView_229 : decode cX9_comeOfView 229 = .ok (.getfield 89, 3) := by decide +kernel
theorem dX9_comeOfView_232 : decode cX9_comeOfView 232 = .ok (.bipush 60, 2) := by decide +kernel
theorem dX9_comeOfView_234 : decode cX9_comeOfView 234 = .ok (.iload_n 1, 1) := by decide +kernel
theorem dX9_comeOfView_235 : decode cX9_comeOfView 235 = .ok (.imul, 1) := by decide +kernel
theorem dX9_comeOfView_236 : decode cX9_comeOfView 236 = .ok (.iload 4, 2) := by decide +kernel
theorem dX9_comeOfView_238 : decode cX9_comeOfView 238 = .ok (.iadd, 1) := by decide +kernel
theorem dX9_comeOfView_239 : decode cX9_comeOfView 239 = .ok (.iaload, 1) := by decide +kernel
theorem dX9_comeOfView_240 : decode cX9_comeOfView 240 = .ok (.iastore, 1) := by decide +kernel
theorem dX9_comeOfView_241 : decode cX9_comeOfView 241 = .ok (.iinc 4 1, 3) := by decide +kernel
theorem dX9_comeOfView_244 : decode cX9_comeOfView 244 = .ok (.goto (-44), 3) := by decide +kernel
theorem dX9_comeOfView_247 : decode cX9_comeOfView 247 = .ok (.aload_n 0, 1) := by decide +kernel
theorem dX9_comeOfView_248 : decode cX9_comeOfView 248 = .ok (.getfield 49, 3) := by decide +kernel
theorem dX9_comeOfView_251 : decode cX9_comeOfView 251 = .ok (.iload_n 2, 1) := by decide +kernel
theorem dX9_comeOfView_252 : decode cX9_comeOfView 252 = .ok (.iaload, 1) := by decide +kernel
theorem dX9_comeOfView_253 : decode cX9_comeOfView 253 = .ok (.aload_n 0, 1) := by decide +kernel
theorem dX9_comeOfView_254 : decode cX9_comeOfView 254 = .ok (.getfield 40, 3) := by decide +kernel
theorem dX9_comeOfView_257 : decode cX9_comeOfView 257 = .ok (.iload_n 2, 1) := by decide +kernel
theorem dX9_comeOfView_258 : decode cX9_comeOfView 258 = .ok (.iaload, 1) := by decide +kernel
theorem dX9_comeOfView_259 : decode cX9_comeOfView 259 = .ok (.if_icmp .ne 225, 3) := by decide +kernel
theorem dX9_comeOfView_262 : decode cX9_comeOfView 262 = .ok (.aload_n 0, 1) := by decide +kernel
theorem dX9_comeOfView_263 : decode cX9_comeOfView 263 = .ok (.iload_n 2, 1) := by decide +kernel
theorem dX9_comeOfView_264 : decode cX9_comeOfView 264 = .ok (.invokevirtual 161, 3) := by decide +kernel
theorem dX9_comeOfView_267 : decode cX9_comeOfView 267 = .ok (.goto 217, 3) := by decide +kernel
theorem dX9_comeOfView_270 : decode cX9_comeOfView 270 = .ok (.aload_n 0, 1) := by decide +kernel
theorem dX9_comeOfView_271 : decode cX9_comeOfView 271 = .ok (.getfield 80, 3) := by decide +kernel
theorem dX9_comeOfView_274 : decode cX9_comeOfView 274 = .ok (.iload_n 1, 1) := by decide +kernel
theorem dX9_comeOfView_275 : decode cX9_comeOfView 275 = .ok (.iaload, 1) := by decide +kernel
theorem dX9_comeOfView_276 : decode cX9_comeOfView 276 = .ok (.aload_n 0, 1) := by decide +kernel
theorem dX9_comeOfView_277 : decode cX9_comeOfView 277 = .ok (.getfield 31, 3) := by decide +kernel
theorem dX9_comeOfView_280 : decode cX9_comeOfView 280 = .ok (.iload_n 2, 1) := by decide +kernel
theorem dX9_comeOfView_281 : decode cX9_comeOfView 281 = .ok (.iaload, 1) := by decide +kernel
theorem dX9_comeOfView_282 : decode cX9_comeOfView 282 = .ok (.if_icmp .eq 6, 3) := by decide +kernel
theorem dX9_comeOfView_285 : decode cX9_comeOfView 285 = .ok (.goto 199, 3) := by decide +kernel
theorem dX9_comeOfView_288 : decode cX9_comeOfView 288 = .ok (.aload_n 0, 1) := by decide +kernel
theorem dX9_comeOfView_289 : decode cX9_comeOfView 289 = .ok (.getfield 22, 3) := by decide +kernel
theorem dX9_comeOfView_292 : decode cX9_comeOfView 292 = .ok (.iload_n 2, 1) := by decide +kernel
theorem dX9_comeOfView_293 : decode cX9_comeOfView 293 = .ok (.aload_n 0, 1) := by decide +kernel
theorem dX9_comeOfView_294 : decode cX9_comeOfView 294 = .ok (.getfield 86, 3) := by decide +kernel
theorem dX9_comeOfView_297 : decode cX9_comeOfView 297 = .ok (.iload_n 1, 1) := by decide +kernel
theorem dX9_comeOfView_298 : decode cX9_comeOfView 298 = .ok (.iaload, 1) := by decide +kernel
theorem dX9_comeOfView_299 : decode cX9_comeOfView 299 = .ok (.iastore, 1) := by decide +kernel
theorem dX9_comeOfView_300 : decode cX9_comeOfView 300 = .ok (.iconst 0, 1) := by decide +kernel
theorem dX9_comeOfView_301 : decode cX9_comeOfView 301 = .ok (.istore 4, 2) := by decide +kernel
theorem dX9_comeOfView_303 : decode cX9_comeOfView 303 = .ok (.iload 4, 2) := by decide +kernel
theorem dX9_comeOfView_305 : decode cX9_comeOfView 305 = .ok (.aload_n 0, 1) := by decide +kernel
theorem dX9_comeOfView_306 : decode cX9_comeOfView 306 = .ok (.getfield 86, 3) := by decide +kernel
theorem dX9_comeOfView_309 : decode cX9_comeOfView 309 = .ok (.iload_n 1, 1) := by decide +kernel
theorem dX9_comeOfView_310 : decode cX9_comeOfView 310 = .ok (.iaload, 1) := by decide +kernel
theorem dX9_comeOfView_311 : decode cX9_comeOfView 311 = .ok (.if_icmp .ge 33, 3) := by decide +kernel
theorem dX9_comeOfView_314 : decode cX9_comeOfView 314 = .ok (.aload_n 0, 1) := by decide +kernel
theorem dX9_comeOfView_315 : decode cX9_comeOfView 315 = .ok (.getfield 19, 3) := by decide +kernel
theorem dX9_comeOfView_318 : decode cX9_comeOfView 318 = .ok (.bipush 60, 2) := by decide +kernel
theorem dX9_comeOfView_320 : decode cX9_comeOfView 320 = .ok (.iload_n 2, 1) := by decide +kernel
theorem dX9_comeOfView_321 : decode cX9_comeOfView 321 = .ok (.imul, 1) := by decide +kernel
theorem dX9_comeOfView_322 : decode cX9_comeOfView 322 = .ok (.iload 4, 2) := by decide +kernel
theorem dX9_comeOfView_324 : decode cX9_comeOfView 324 = .ok (.iadd, 1) := by decide +kernel
theorem dX9_comeOfView_325 : decode cX9_comeOfView 325 = .ok (.aload_n 0, 1) := by decide +kernel
theorem dX9_comeOfView_326 : decode cX9_comeOfView 326 = .ok (.getfield 89, 3) := by decide +kernel
theorem dX9_comeOfView_329 : decode cX9_comeOfView 329 = .ok (.bipush 60, 2) := by decide +kernel
theorem dX9_comeOfView_331 : decode cX9_comeOfView 331 = .ok (.iload_n 1, 1) := by decide +kernel
theorem dX9_comeOfView_332 : decode cX9_comeOfView 332 = .ok (.imul, 1) := by decide +kernel
theorem dX9_comeOfView_333 : decode cX9_comeOfView 333 = .ok (.iload 4, 2) := by decide +kernel
theorem dX9_comeOfView_335 : decode cX9_comeOfView 335 = .ok (.iadd, 1) := by decide +kernel
theorem dX9_comeOfView_336 : decode cX9_comeOfView 336 = .ok (.iaload, 1) := by decide +kernel
theorem dX9_comeOfView_337 : decode cX9_comeOfView 337 = .ok (.iastore, 1) := by decide +kernel
theorem dX9_comeOfView_338 : decode cX9_comeOfView 338 = .ok (.iinc 4 1, 3) := by decide +kernel
theorem dX9_comeOfView_341 : decode cX9_comeOfView 341 = .ok (.goto (-38), 3) := by decide +kernel
theorem dX9_comeOfView_344 : decode cX9_comeOfView 344 = .ok (.aload_n 0, 1) := by decide +kernel
theorem dX9_comeOfView_345 : decode cX9_comeOfView 345 = .ok (.getfield 28, 3) := by decide +kernel
theorem dX9_comeOfView_348 : decode cX9_comeOfView 348 = .ok (.iload_n 2, 1) := by decide +kernel
theorem dX9_comeOfView_349 : decode cX9_comeOfView 349 = .ok (.aload_n 0, 1) := by decide +kernel
theorem dX9_comeOfView_350 : decode cX9_comeOfView 350 = .ok (.getfield 80, 3) := by decide +kernel
theorem dX9_comeOfView_353 : decode cX9_comeOfView 353 = .ok (.iload_n 1, 1) := by decide +kernel
theorem dX9_comeOfView_354 : decode cX9_comeOfView 354 = .ok (.iaload, 1) := by decide +kernel
theorem dX9_comeOfView_355 : decode cX9_comeOfView 355 = .ok (.iastore, 1) := by decide +kernel
theorem dX9_comeOfView_356 : decode cX9_comeOfView 356 = .ok (.aload_n 0, 1) := by decide +kernel
theorem dX9_comeOfView_357 : decode cX9_comeOfView 357 = .ok (.iload_n 2, 1) := by decide +kernel
theorem dX9_comeOfView_358 : decode cX9_comeOfView 358 = .ok (.iload_n 3, 1) := by decide +kernel
theorem dX9_comeOfView_359 : decode cX9_comeOfView 359 = .ok (.bipush 10, 2) := by decide +kernel
theorem dX9_comeOfView_361 : decode cX9_comeOfView 361 = .ok (.aload_n 0, 1) := by decide +kernel
theorem dX9_comeOfView_362 : decode cX9_comeOfView 362 = .ok (.getfield 80, 3) := by decide +kernel
theorem dX9_comeOfView_365 : decode cX9_comeOfView 365 = .ok (.iload_n 1, 1) := by decide +kernel
theorem dX9_comeOfView_366 : decode cX9_comeOfView 366 = .ok (.iaload, 1) := by decide +kernel
theorem dX9_comeOfView_367 : decode cX9_comeOfView 367 = .ok (.iconst 0, 1) := by decide +kernel
theorem dX9_comeOfView_368 : decode cX9_comeOfView 368 = .ok (.iconst 0, 1) := by decide +kernel
theorem dX9_comeOfView_369 : decode cX9_comeOfView 369 = .ok (.iconst 0, 1) := by decide +kernel
theorem dX9_comeOfView_370 : decode cX9_comeOfView 370 = .ok (.invokevirtual 111, 3) := by decide +kernel
theorem dX9_comeOfView_373 : decode cX9_comeOfView 373 = .ok (.goto 111, 3) := by decide +kernel
theorem dX9_comeOfView_376 : decode cX9_comeOfView 376 = .ok (.aload_n 0, 1) := by decide +kernel
theorem dX9_comeOfView_377 : decode cX9_comeOfView 377 = .ok (.getfield 37, 3) := by decide +kernel
theorem dX9_comeOfView_380 : decode cX9_comeOfView 380 = .ok (.iload_n 2, 1) := by decide +kernel
theorem dX9_comeOfView_381 : decode cX9_comeOfView 381 = .ok (.iaload, 1) := by decide +kernel
theorem dX9_comeOfView_382 : decode cX9_comeOfView 382 = .ok (.iconst 4, 1) := by decide +kernel
theorem dX9_comeOfView_383 : decode cX9_comeOfView 383 = .ok (.if_icmp .ne 101, 3) := by decide +kernel
theorem dX9_comeOfView_386 : decode cX9_comeOfView 386 = .ok (.aload_n 0, 1) := by decide +kernel
theorem dX9_comeOfView_387 : decode cX9_comeOfView 387 = .ok (.getfield 80, 3) := by decide +kernel
theorem dX9_comeOfView_390 : decode cX9_comeOfView 390 = .ok (.iload_n 1, 1) := by decide +kernel
theorem dX9_comeOfView_391 : decode cX9_comeOfView 391 = .ok (.iaload, 1) := by decide +kernel
theorem dX9_comeOfView_392 : decode cX9_comeOfView 392 = .ok (.aload_n 0, 1) := by decide +kernel
theorem dX9_comeOfView_393 : decode cX9_comeOfView 393 = .ok (.getfield 31, 3) := by decide +kernel
theorem dX9_comeOfView_396 : decode cX9_comeOfView 396 = .ok (.iload_n 2, 1) := by decide +kernel
theorem dX9_comeOfView_397 : decode cX9_comeOfView 397 = .ok (.iaload, 1) := by decide +kernel
theorem dX9_comeOfView_398 : decode cX9_comeOfView 398 = .ok (.if_icmp .ne 86, 3) := by decide +kernel
theorem dX9_comeOfView_401 : decode cX9_comeOfView 401 = .ok (.aload_n 0, 1) := by decide +kernel
theorem dX9_comeOfView_402 : decode cX9_comeOfView 402 = .ok (.getfield 40, 3) := by decide +kernel
theorem dX9_comeOfView_405 : decode cX9_comeOfView 405 = .ok (.iload_n 2, 1) := by decide +kernel
theorem dX9_comeOfView_406 : decode cX9_comeOfView 406 = .ok (.iaload, 1) := by decide +kernel
theorem dX9_comeOfView_407 : decode cX9_comeOfView 407 = .ok (.iload_n 3, 1) := by decide +kernel
theorem dX9_comeOfView_408 : decode cX9_comeOfView 408 = .ok (.invokestatic 99, 3) := by decide +kernel
theorem dX9_comeOfView_411 : decode cX9_comeOfView 411 = .ok (.ifCond .ne 6, 3) := by decide +kernel
theorem dX9_comeOfView_414 : decode cX9_comeOfView 414 = .ok (.goto 70, 3) := by decide +kernel
theorem dX9_comeOfView_417 : decode cX9_comeOfView 417 = .ok (.aload_n 0, 1) := by decide +kernel
theorem dX9_comeOfView_418 : decode cX9_comeOfView 418 = .ok (.getfield 49, 3) := by decide +kernel
theorem dX9_comeOfView_421 : decode cX9_comeOfView 421 = .ok (.iload_n 2, 1) := by decide +kernel
theorem dX9_comeOfView_422 : decode cX9_comeOfView 422 = .ok (.dup2, 1) := by decide +kernel
theorem dX9_comeOfView_423 : decode cX9_comeOfView 423 = .ok (.iaload, 1) := by decide +kernel
theorem dX9_comeOfView_424 : decode cX9_comeOfView 424 = .ok (.iconst 1, 1) := by decide +kernel
theorem dX9_comeOfView_425 : decode cX9_comeOfView 425 = .ok (.iload_n 3, 1) := by decide +kernel
theorem dX9_comeOfView_426 : decode cX9_comeOfView 426 = .ok (.ishl, 1) := by decide +kernel
theorem dX9_comeOfView_427 : decode cX9_comeOfView 427 = .ok (.ior, 1) := by decide +kernel
theorem dX9_comeOfView_428 : decode cX9_comeOfView 428 = .ok (.iastore, 1) := by decide +kernel
theorem dX9_comeOfView_429 : decode cX9_comeOfView 429 = .ok (.aload_n 0, 1) := by decide +kernel
theorem dX9_comeOfView_430 : decode cX9_comeOfView 430 = .ok (.getfield 49, 3) := by decide +kernel
theorem dX9_comeOfView_433 : decode cX9_comeOfView 433 = .ok (.iload_n 2, 1) := by decide +kernel
theorem dX9_comeOfView_434 : decode cX9_comeOfView 434 = .ok (.iaload, 1) := by decide +kernel
theorem dX9_comeOfView_435 : decode cX9_comeOfView 435 = .ok (.aload_n 0, 1) := by decide +kernel
theorem dX9_comeOfView_436 : decode cX9_comeOfView 436 = .ok (.getfield 40, 3) := by decide +kernel
theorem dX9_comeOfView_439 : decode cX9_comeOfView 439 = .ok (.iload_n 2, 1) := by decide +kernel
theorem dX9_comeOfView_440 : decode cX9_comeOfView 440 = .ok (.iaload, 1) := by decide +kernel
theorem dX9_comeOfView_441 : decode cX9_comeOfView 441 = .ok (.if_icmp .ne 43, 3) := by decide +kernel
theorem dX9_comeOfView_444 : decode cX9_comeOfView 444 = .ok (.aload_n 0, 1) := by decide +kernel
theorem dX9_comeOfView_445 : decode cX9_comeOfView 445 = .ok (.iload_n 2, 1) := by decide +kernel
theorem dX9_comeOfView_446 : decode cX9_comeOfView 446 = .ok (.invokevirtual 164, 3) := by decide +kernel
theorem dX9_comeOfView_449 : decode cX9_comeOfView 449 = .ok (.goto 35, 3) := by decide +kernel
theorem dX9_comeOfView_452 : decode cX9_comeOfView 452 = .ok (.aload_n 0, 1) := by decide +kernel
theorem dX9_comeOfView_453 : decode cX9_comeOfView 453 = .ok (.getfield 80, 3) := by decide +kernel
theorem dX9_comeOfView_456 : decode cX9_comeOfView 456 = .ok (.iload_n 1, 1) := by decide +kernel
theorem dX9_comeOfView_457 : decode cX9_comeOfView 457 = .ok (.iaload, 1) := by decide +kernel
theorem dX9_comeOfView_458 : decode cX9_comeOfView 458 = .ok (.aload_n 0, 1) := by decide +kernel
theorem dX9_comeOfView_459 : decode cX9_comeOfView 459 = .ok (.getfield 31, 3) := by decide +kernel
theorem dX9_comeOfView_462 : decode cX9_comeOfView 462 = .ok (.iload_n 2, 1) := by decide +kernel
theorem dX9_comeOfView_463 : decode cX9_comeOfView 463 = .ok (.iaload, 1) := by decide +kernel
theorem dX9_comeOfView_464 : decode cX9_comeOfView 464 = .ok (.if_icmp .ne 20, 3) := by decide +kernel
theorem dX9_comeOfView_467 : decode cX9_comeOfView 467 = .ok (.aload_n 0, 1) := by decide +kernel
theorem dX9_comeOfView_468 : decode cX9_comeOfView 468 = .ok (.iload_n 2, 1) := by decide +kernel
theorem dX9_comeOfView_469 : decode cX9_comeOfView 469 = .ok (.aload_n 0, 1) := by decide +kernel
theorem dX9_comeOfView_470 : decode cX9_comeOfView 470 = .ok (.getfield 80, 3) := by decide +kernel
theorem dX9_comeOfView_473 : decode cX9_comeOfView 473 = .ok (.iload_n 1, 1) := by decide +kernel
theorem dX9_comeOfView_474 : decode cX9_comeOfView 474 = .ok (.iaload, 1) := by decide +kernel
theorem dX9_comeOfView_475 : decode cX9_comeOfView 475 = .ok (.aload_n 0, 1) := by decide +kernel
theorem dX9_comeOfView_476 : decode cX9_comeOfView 476 = .ok (.getfield 83, 3) := by decide +kernel
theorem dX9_comeOfView_479 : decode cX9_comeOfView 479 = .ok (.iload_n 1, 1) := by decide +kernel
theorem dX9_comeOfView_480 : decode cX9_comeOfView 480 = .ok (.iaload, 1) := by decide +kernel
theorem dX9_comeOfView_481 : decode cX9_comeOfView 481 = .ok (.invokevirtual 167, 3) := by decide +kernel
theorem dX9_comeOfView_484 : decode cX9_comeOfView 484 = .ok (.return_, 1) := by decide +kernel
theorem dX9_deliver_0 : decode cX9_deliver 0 = .ok (.aload_n 0, 1) := by decide +kernel
theorem dX9_deliver_1 : decode cX9_deliver 1 = .ok (.iload_n 1, 1) := by decide +kernel
theorem dX9_deliver_2 : decode cX9_deliver 2 = .ok (.invokevirtual 135, 3) := by decide +kernel
theorem dX9_deliver_5 : decode cX9_deliver 5 = .ok (.ifCond .eq 11, 3) := by decide +kernel
theorem dX9_deliver_8 : decode cX9_deliver 8 = .ok (.aload_n 0, 1) := by decide +kernel
theorem dX9_deliver_9 : decode cX9_deliver 9 = .ok (.iload_n 2, 1) := by decide +kernel
theorem dX9_deliver_10 : decode cX9_deliver 10 = .ok (.invokevirtual 135, 3) := by decide +kernel
theorem dX9_deliver_13 : decode cX9_deliver 13 = .ok (.ifCond .ne 5, 3) := by decide +kernel
theorem dX9_deliver_16 : decode cX9_deliver 16 = .ok (.iconst (-1), 1) := by decide +kernel
theorem dX9_deliver_17 : decode cX9_deliver 17 = .ok (.ireturn, 1) := by decide +kernel
theorem dX9_deliver_18 : decode cX9_deliver 18 = .ok (.aload_n 0, 1) := by decide +kernel
theorem dX9_deliver_19 : decode cX9_deliver 19 = .ok (.iload_n 1, 1) := by decide +kernel
theorem dX9_deliver_20 : decode cX9_deliver 20 = .ok (.iload_n 2, 1) := by decide +kernel
theorem dX9_deliver_21 : decode cX9_deliver 21 = .ok (.invokevirtual 180, 3) := by decide +kernel
theorem dX9_deliver_24 : decode cX9_deliver 24 = .ok (.istore_n 3, 1) := by decide +kernel
theorem dX9_deliver_25 : decode cX9_deliver 25 = .ok (.iload_n 3, 1) := by decide +kernel
theorem dX9_deliver_26 : decode cX9_deliver 26 = .ok (.iconst (-1), 1) := by decide +kernel
theorem dX9_deliver_27 : decode cX9_deliver 27 = .ok (.if_icmp .ne 5, 3) := by decide +kernel
theorem dX9_deliver_30 : decode cX9_deliver 30 = .ok (.iconst 0, 1) := by decide +kernel
theorem dX9_deliver_31 : decode cX9_deliver 31 = .ok (.ireturn, 1) := by decide +kernel
theorem dX9_deliver_32 : decode cX9_deliver 32 = .ok (.aload_n 0, 1) := by decide +kernel
theorem dX9_deliver_33 : decode cX9_deliver 33 = .ok (.getfield 67, 3) := by decide +kernel
theorem dX9_deliver_36 : decode cX9_deliver 36 = .ok (.iload_n 3, 1) := by decide +kernel
theorem dX9_deliver_37 : decode cX9_deliver 37 = .ok (.iconst 0, 1) := by decide +kernel
theorem dX9_deliver_38 : decode cX9_deliver 38 = .ok (.bastore, 1) := by decide +kernel
theorem dX9_deliver_39 : decode cX9_deliver 39 = .ok (.aload_n 0, 1) := by decide +kernel
theorem dX9_deliver_40 : decode cX9_deliver 40 = .ok (.dup, 1) := by decide +kernel
theorem dX9_deliver_41 : decode cX9_deliver 41 = .ok (.getfield 105, 3) := by decide +kernel
theorem dX9_deliver_44 : decode cX9_deliver 44 = .ok (.iconst 1, 1) := by decide +kernel
theorem dX9_deliver_45 : decode cX9_deliver 45 = .ok (.isub, 1) := by decide +kernel
theorem dX9_deliver_46 : decode cX9_deliver 46 = .ok (.putfield 105, 3) := by decide +kernel
theorem dX9_deliver_49 : decode cX9_deliver 49 = .ok (.aload_n 0, 1) := by decide +kernel
theorem dX9_deliver_50 : decode cX9_deliver 50 = .ok (.getfield 7, 3) := by decide +kernel
theorem dX9_deliver_53 : decode cX9_deliver 53 = .ok (.iload_n 2, 1) := by decide +kernel
theorem dX9_deliver_54 : decode cX9_deliver 54 = .ok (.iaload, 1) := by decide +kernel
theorem dX9_deliver_55 : decode cX9_deliver 55 = .ok (.ifCond .eq 23, 3) := by decide +kernel
theorem dX9_deliver_58 : decode cX9_deliver 58 = .ok (.aload_n 0, 1) := by decide +kernel
theorem dX9_deliver_59 : decode cX9_deliver 59 = .ok (.dup, 1) := by decide +kernel
theorem dX9_deliver_60 : decode cX9_deliver 60 = .ok (.getfield 108, 3) := by decide +kernel
theorem dX9_deliver_63 : decode cX9_deliver 63 = .ok (.iconst 1, 1) := by decide +kernel
theorem dX9_deliver_64 : decode cX9_deliver 64 = .ok (.iadd, 1) := by decide +kernel
theorem dX9_deliver_65 : decode cX9_deliver 65 = .ok (.putfield 108, 3) := by decide +kernel
theorem dX9_deliver_68 : decode cX9_deliver 68 = .ok (.bipush 20, 2) := by decide +kernel
theorem dX9_deliver_70 : decode cX9_deliver 70 = .ok (.aload_n 0, 1) := by decide +kernel
theorem dX9_deliver_71 : decode cX9_deliver 71 = .ok (.getfield 77, 3) := by decide +kernel
theorem dX9_deliver_74 : decode cX9_deliver 74 = .ok (.iload_n 3, 1) := by decide +kernel
theorem dX9_deliver_75 : decode cX9_deliver 75 = .ok (.iaload, 1) := by decide +kernel
theorem dX9_deliver_76 : decode cX9_deliver 76 = .ok (.iadd, 1) := by decide +kernel
theorem dX9_deliver_77 : decode cX9_deliver 77 = .ok (.ireturn, 1) := by decide +kernel
theorem dX9_deliver_78 : decode cX9_deliver 78 = .ok (.aload_n 0, 1) := by decide +kernel
theorem dX9_deliver_79 : decode cX9_deliver 79 = .ok (.getfield 77, 3) := by decide +kernel
theorem dX9_deliver_82 : decode cX9_deliver 82 = .ok (.iload_n 3, 1) := by decide +kernel
theorem dX9_deliver_83 : decode cX9_deliver 83 = .ok (.iaload, 1) := by decide +kernel
theorem dX9_deliver_84 : decode cX9_deliver 84 = .ok (.istore 4, 2) := by decide +kernel
theorem dX9_deliver_86 : decode cX9_deliver 86 = .ok (.aload_n 0, 1) := by decide +kernel
theorem dX9_deliver_87 : decode cX9_deliver 87 = .ok (.iload_n 3, 1) := by decide +kernel
theorem dX9_deliver_88 : decode cX9_deliver 88 = .ok (.invokevirtual 184, 3) := by decide +kernel
theorem dX9_deliver_91 : decode cX9_deliver 91 = .ok (.aload_n 0, 1) := by decide +kernel
theorem dX9_deliver_92 : decode cX9_deliver 92 = .ok (.sipush 500, 3) := by decide +kernel
theorem dX9_deliver_95 : decode cX9_deliver 95 = .ok (.invokevirtual 187, 3) := by decide +kernel
theorem dX9_deliver_98 : decode cX9_deliver 98 = .ok (.iload 4, 2) := by decide +kernel
theorem dX9_deliver_100 : decode cX9_deliver 100 = .ok (.ireturn, 1) := by decide +kernel
theorem dX9_keepLetter_0 : decode cX9_keepLetter 0 = .ok (.aload_n 0, 1) := by decide +kernel
theorem dX9_keepLetter_1 : decode cX9_keepLetter 1 = .ok (.getfield 71, 3) := by decide +kernel
theorem dX9_keepLetter_4 : decode cX9_keepLetter 4 = .ok (.sipush 500, 3) := by decide +kernel
theorem dX9_keepLetter_7 : decode cX9_keepLetter 7 = .ok (.aload_n 0, 1) := by decide +kernel
theorem dX9_keepLetter_8 : decode cX9_keepLetter 8 = .ok (.getfield 71, 3) := by decide +kernel
theorem dX9_keepLetter_11 : decode cX9_keepLetter 11 = .ok (.iload_n 1, 1) := by decide +kernel
theorem dX9_keepLetter_12 : decode cX9_keepLetter 12 = .ok (.iaload, 1) := by decide +kernel
theorem dX9_keepLetter_13 : decode cX9_keepLetter 13 = .ok (.iastore, 1) := by decide +kernel
theorem dX9_keepLetter_14 : decode cX9_keepLetter 14 = .ok (.aload_n 0, 1) := by decide +kernel
theorem dX9_keepLetter_15 : decode cX9_keepLetter 15 = .ok (.getfield 74, 3) := by decide +kernel
theorem dX9_keepLetter_18 : decode cX9_keepLetter 18 = .ok (.sipush 500, 3) := by decide +kernel
theorem dX9_keepLetter_21 : decode cX9_keepLetter 21 = .ok (.aload_n 0, 1) := by decide +kernel
theorem dX9_keepLetter_22 : decode cX9_keepLetter 22 = .ok (.getfield 74, 3) := by decide +kernel
theorem dX9_keepLetter_25 : decode cX9_keepLetter 25 = .ok (.iload_n 1, 1) := by decide +kernel
theorem dX9_keepLetter_26 : decode cX9_keepLetter 26 = .ok (.iaload, 1) := by decide +kernel
theorem dX9_keepLetter_27 : decode cX9_keepLetter 27 = .ok (.iastore, 1) := by decide +kernel
theorem dX9_keepLetter_28 : decode cX9_keepLetter 28 = .ok (.aload_n 0, 1) := by decide +kernel
theorem dX9_keepLetter_29 : decode cX9_keepLetter 29 = .ok (.getfield 77, 3) := by decide +kernel
theorem dX9_keepLetter_32 : decode cX9_keepLetter 32 = .ok (.sipush 500, 3) := by decide +kernel
theorem dX9_keepLetter_35 : decode cX9_keepLetter 35 = .ok (.aload_n 0, 1) := by decide +kernel
theorem dX9_keepLetter_36 : decode cX9_keepLetter 36 = .ok (.getfield 77, 3) := by decide +kernel
theorem dX9_keepLetter_39 : decode cX9_keepLetter 39 = .ok (.iload_n 1, 1) := by decide +kernel
theorem dX9_keepLetter_40 : decode cX9_keepLetter 40 = .ok (.iaload, 1) := by decide +kernel
theorem dX9_keepLetter_41 : decode cX9_keepLetter 41 = .ok (.iastore, 1) := by decide +kernel
theorem dX9_keepLetter_42 : decode cX9_keepLetter 42 = .ok (.aload_n 0, 1) := by decide +kernel
theorem dX9_keepLetter_43 : decode cX9_keepLetter 43 = .ok (.getfield 80, 3) := by decide +kernel
theorem dX9_keepLetter_46 : decode cX9_keepLetter 46 = .ok (.sipush 500, 3) := by decide +kernel
theorem dX9_keepLetter_49 : decode cX9_keepLetter 49 = .ok (.aload_n 0, 1) := by decide +kernel
theorem dX9_keepLetter_50 : decode cX9_keepLetter 50 = .ok (.getfield 80, 3) := by decide +kernel
theorem dX9_keepLetter_53 : decode cX9_keepLetter 53 = .ok (.iload_n 1, 1) := by decide +kernel
theorem dX9_keepLetter_54 : decode cX9_keepLetter 54 = .ok (.iaload, 1) := by decide +kernel
theorem dX9_keepLetter_55 : decode cX9_keepLetter 55 = .ok (.iastore, 1) := by decide +kernel
theorem dX9_keepLetter_56 : decode cX9_keepLetter 56 = .ok (.aload_n 0, 1) := by decide +kernel
theorem dX9_keepLetter_57 : decode cX9_keepLetter 57 = .ok (.getfield 83, 3) := by decide +kernel
theorem dX9_keepLetter_60 : decode cX9_keepLetter 60 = .ok (.sipush 500, 3) := by decide +kernel
theorem dX9_keepLetter_63 : decode cX9_keepLetter 63 = .ok (.aload_n 0, 1) := by decide +kernel
theorem dX9_keepLetter_64 : decode cX9_keepLetter 64 = .ok (.getfield 83, 3) := by decide +kernel
theorem dX9_keepLetter_67 : decode cX9_keepLetter 67 = .ok (.iload_n 1, 1) := by decide +kernel
theorem dX9_keepLetter_68 : decode cX9_keepLetter 68 = .ok (.iaload, 1) := by decide +kernel
theorem dX9_keepLetter_69 : decode cX9_keepLetter 69 = .ok (.iastore, 1) := by decide +kernel
theorem dX9_keepLetter_70 : decode cX9_keepLetter 70 = .ok (.aload_n 0, 1) := by decide +kernel
theorem dX9_keepLetter_71 : decode cX9_keepLetter 71 = .ok (.getfield 86, 3) := by decide +kernel
theorem dX9_keepLetter_74 : decode cX9_keepLetter 74 = .ok (.sipush 500, 3) := by decide +kernel
theorem dX9_keepLetter_77 : decode cX9_keepLetter 77 = .ok (.aload_n 0, 1) := by decide +kernel
theorem dX9_keepLetter_78 : decode cX9_keepLetter 78 = .ok (.getfield 86, 3) := by decide +kernel
theorem dX9_keepLetter_81 : decode cX9_keepLetter 81 = .ok (.iload_n 1, 1) := by decide +kernel
theorem dX9_keepLetter_82 : decode cX9_keepLetter 82 = .ok (.iaload, 1) := by decide +kernel
theorem dX9_keepLetter_83 : decode cX9_keepLetter 83 = .ok (.iastore, 1) := by decide +kernel
theorem dX9_keepLetter_84 : decode cX9_keepLetter 84 = .ok (.iconst 0, 1) := by decide +kernel
theorem dX9_keepLetter_85 : decode cX9_keepLetter 85 = .ok (.istore_n 2, 1) := by decide +kernel
theorem dX9_keepLetter_86 : decode cX9_keepLetter 86 = .ok (.iload_n 2, 1) := by decide +kernel
theorem dX9_keepLetter_87 : decode cX9_keepLetter 87 = .ok (.bipush 60, 2) := by decide +kernel
theorem dX9_keepLetter_89 : decode cX9_keepLetter 89 = .ok (.if_icmp .ge 30, 3) := by decide +kernel
theorem dX9_keepLetter_92 : decode cX9_keepLetter 92 = .ok (.aload_n 0, 1) := by decide +kernel
theorem dX9_keepLetter_93 : decode cX9_keepLetter 93 = .ok (.getfield 89, 3) := by decide +kernel
theorem dX9_keepLetter_96 : decode cX9_keepLetter 96 = .ok (.sipush 30000, 3) := by decide +kernel
theorem dX9_keepLetter_99 : decode cX9_keepLetter 99 = .ok (.iload_n 2, 1) := by decide +kernel
theorem dX9_keepLetter_100 : decode cX9_keepLetter 100 = .ok (.iadd, 1) := by decide +kernel
theorem dX9_keepLetter_101 : decode cX9_keepLetter 101 = .ok (.aload_n 0, 1) := by decide +kernel
theorem dX9_keepLetter_102 : decode cX9_keepLetter 102 = .ok (.getfield 89, 3) := by decide +kernel
theorem dX9_keepLetter_105 : decode cX9_keepLetter 105 = .ok (.bipush 60, 2) := by decide +kernel
theorem dX9_keepLetter_107 : decode cX9_keepLetter 107 = .ok (.iload_n 1, 1) := by decide +kernel
theorem dX9_keepLetter_108 : decode cX9_keepLetter 108 = .ok (.imul, 1) := by decide +kernel
theorem dX9_keepLetter_109 : decode cX9_keepLetter 109 = .ok (.iload_n 2, 1) := by decide +kernel
theorem dX9_keepLetter_110 : decode cX9_keepLetter 110 = .ok (.iadd, 1) := by decide +kernel
theorem dX9_keepLetter_111 : decode cX9_keepLetter 111 = .ok (.iaload, 1) := by decide +kernel
theorem dX9_keepLetter_112 : decode cX9_keepLetter 112 = .ok (.iastore, 1) := by decide +kernel
theorem dX9_keepLetter_113 : decode cX9_keepLetter 113 = .ok (.iinc 2 1, 3) := by decide +kernel
theorem dX9_keepLetter_116 : decode cX9_keepLetter 116 = .ok (.goto (-30), 3) := by decide +kernel
theorem dX9_keepLetter_119 : decode cX9_keepLetter 119 = .ok (.return_, 1) := by decide +kernel
theorem dX9_suspect_0 : decode cX9_suspect 0 = .ok (.aload_n 0, 1) := by decide +kernel
theorem dX9_suspect_1 : decode cX9_suspect 1 = .ok (.iload_n 1, 1) := by decide +kernel
theorem dX9_suspect_2 : decode cX9_suspect 2 = .ok (.invokevirtual 135, 3) := by decide +kernel
theorem dX9_suspect_5 : decode cX9_suspect 5 = .ok (.ifCond .eq 11, 3) := by decide +kernel
theorem dX9_suspect_8 : decode cX9_suspect 8 = .ok (.aload_n 0, 1) := by decide +kernel
theorem dX9_suspect_9 : decode cX9_suspect 9 = .ok (.iload_n 2, 1) := by decide +kernel
theorem dX9_suspect_10 : decode cX9_suspect 10 = .ok (.invokevirtual 135, 3) := by decide +kernel
theorem dX9_suspect_13 : decode cX9_suspect 13 = .ok (.ifCond .ne 5, 3) := by decide +kernel
theorem dX9_suspect_16 : decode cX9_suspect 16 = .ok (.iconst (-1), 1) := by decide +kernel
theorem dX9_suspect_17 : decode cX9_suspect 17 = .ok (.ireturn, 1) := by decide +kernel
theorem dX9_suspect_18 : decode cX9_suspect 18 = .ok (.aload_n 0, 1) := by decide +kernel
theorem dX9_suspect_19 : decode cX9_suspect 19 = .ok (.getfield 7, 3) := by decide +kernel
theorem dX9_suspect_22 : decode cX9_suspect 22 = .ok (.iload_n 1, 1) := by decide +kernel
theorem dX9_suspect_23 : decode cX9_suspect 23 = .ok (.iaload, 1) := by decide +kernel
theorem dX9_suspect_24 : decode cX9_suspect 24 = .ok (.ifCond .ne 21, 3) := by decide +kernel
theorem dX9_suspect_27 : decode cX9_suspect 27 = .ok (.iload_n 1, 1) := by decide +kernel
theorem dX9_suspect_28 : decode cX9_suspect 28 = .ok (.iload_n 2, 1) := by decide +kernel
theorem dX9_suspect_29 : decode cX9_suspect 29 = .ok (.if_icmp .eq 16, 3) := by decide +kernel
theorem dX9_suspect_32 : decode cX9_suspect 32 = .ok (.aload_n 0, 1) := by decide +kernel
theorem dX9_suspect_33 : decode cX9_suspect 33 = .ok (.getfield 34, 3) := by decide +kernel
theorem dX9_suspect_36 : decode cX9_suspect 36 = .ok (.iload_n 1, 1) := by decide +kernel
theorem dX9_suspect_37 : decode cX9_suspect 37 = .ok (.iaload, 1) := by decide +kernel
theorem dX9_suspect_38 : decode cX9_suspect 38 = .ok (.iload_n 2, 1) := by decide +kernel
theorem dX9_suspect_39 : decode cX9_suspect 39 = .ok (.invokestatic 99, 3) := by decide +kernel
theorem dX9_suspect_42 : decode cX9_suspect 42 = .ok (.ifCond .eq 5, 3) := by decide +kernel
theorem dX9_suspect_45 : decode cX9_suspect 45 = .ok (.iconst 0, 1) := by decide +kernel
theorem dX9_suspect_46 : decode cX9_suspect 46 = .ok (.ireturn, 1) := by decide +kernel
theorem dX9_suspect_47 : decode cX9_suspect 47 = .ok (.aload_n 0, 1) := by decide +kernel
theorem dX9_suspect_48 : decode cX9_suspect 48 = .ok (.getfield 34, 3) := by decide +kernel
theorem dX9_suspect_51 : decode cX9_suspect 51 = .ok (.iload_n 1, 1) := by decide +kernel
theorem dX9_suspect_52 : decode cX9_suspect 52 = .ok (.dup2, 1) := by decide +kernel
theorem dX9_suspect_53 : decode cX9_suspect 53 = .ok (.iaload, 1) := by decide +kernel
theorem dX9_suspect_54 : decode cX9_suspect 54 = .ok (.iconst 1, 1) := by decide +kernel
theorem dX9_suspect_55 : decode cX9_suspect 55 = .ok (.iload_n 2, 1) := by decide +kernel
theorem dX9_suspect_56 : decode cX9_suspect 56 = .ok (.ishl, 1) := by decide +kernel
theorem dX9_suspect_57 : decode cX9_suspect 57 = .ok (.ior, 1) := by decide +kernel
theorem dX9_suspect_58 : decode cX9_suspect 58 = .ok (.iastore, 1) := by decide +kernel
theorem dX9_suspect_59 : decode cX9_suspect 59 = .ok (.aload_n 0, 1) := by decide +kernel
theorem dX9_suspect_60 : decode cX9_suspect 60 = .ok (.getfield 37, 3) := by decide +kernel
theorem dX9_suspect_63 : decode cX9_suspect 63 = .ok (.iload_n 1, 1) := by decide +kernel
theorem dX9_suspect_64 : decode cX9_suspect 64 = .ok (.iaload, 1) := by decide +kernel
theorem dX9_suspect_65 : decode cX9_suspect 65 = .ok (.iconst 3, 1) := by decide +kernel
theorem dX9_suspect_66 : decode cX9_suspect 66 = .ok (.if_icmp .lt 24, 3) := by decide +kernel
theorem dX9_suspect_69 : decode cX9_suspect 69 = .ok (.aload_n 0, 1) := by decide +kernel
theorem dX9_suspect_70 : decode cX9_suspect 70 = .ok (.getfield 40, 3) := by decide +kernel
theorem dX9_suspect_73 : decode cX9_suspect 73 = .ok (.iload_n 1, 1) := by decide +kernel
theorem dX9_suspect_74 : decode cX9_suspect 74 = .ok (.iaload, 1) := by decide +kernel
theorem dX9_suspect_75 : decode cX9_suspect 75 = .ok (.iload_n 2, 1) := by decide +kernel
theorem dX9_suspect_76 : decode cX9_suspect 76 = .ok (.invokestatic 99, 3) := by decide +kernel
theorem dX9_suspect_79 : decode cX9_suspect 79 = .ok (.ifCond .eq 11, 3) := by decide +kernel
theorem dX9_suspect_82 : decode cX9_suspect 82 = .ok (.aload_n 0, 1) := by decide +kernel
theorem dX9_suspect_83 : decode cX9_suspect 83 = .ok (.iload_n 1, 1) := by decide +kernel
theorem dX9_suspect_84 : decode cX9_suspect 84 = .ok (.invokevirtual 152, 3) := by decide +kernel
theorem dX9_suspect_87 : decode cX9_suspect 87 = .ok (.goto 74, 3) := by decide +kernel
theorem dX9_suspect_90 : decode cX9_suspect 90 = .ok (.aload_n 0, 1) := by decide +kernel
theorem dX9_suspect_91 : decode cX9_suspect 91 = .ok (.iload_n 1, 1) := by decide +kernel
theorem dX9_suspect_92 : decode cX9_suspect 92 = .ok (.invokevirtual 142, 3) := by decide +kernel
theorem dX9_suspect_95 : decode cX9_suspect 95 = .ok (.ifCond .ne 33, 3) := by decide +kernel
theorem dX9_suspect_98 : decode cX9_suspect 98 = .ok (.aload_n 0, 1) := by decide +kernel
theorem dX9_suspect_99 : decode cX9_suspect 99 = .ok (.iload_n 1, 1) := by decide +kernel
theorem dX9_suspect_100 : decode cX9_suspect 100 = .ok (.invokevirtual 145, 3) := by decide +kernel
theorem dX9_suspect_103 : decode cX9_suspect 103 = .ok (.iload_n 1, 1) := by decide +kernel
theorem dX9_suspect_104 : decode cX9_suspect 104 = .ok (.if_icmp .ne 24, 3) := by decide +kernel
theorem dX9_suspect_107 : decode cX9_suspect 107 = .ok (.aload_n 0, 1) := by decide +kernel
theorem dX9_suspect_108 : decode cX9_suspect 108 = .ok (.getfield 16, 3) := by decide +kernel
theorem dX9_suspect_111 : decode cX9_suspect 111 = .ok (.iload_n 1, 1) := by decide +kernel
theorem dX9_suspect_112 : decode cX9_suspect 112 = .ok (.iaload, 1) := by decide +kernel
theorem dX9_suspect_113 : decode cX9_suspect 113 = .ok (.iload_n 2, 1) := by decide +kernel
theorem dX9_suspect_114 : decode cX9_suspect 114 = .ok (.invokestatic 99, 3) := by decide +kernel
theorem dX9_suspect_117 : decode cX9_suspect 117 = .ok (.ifCond .eq 11, 3) := by decide +kernel
theorem dX9_suspect_120 : decode cX9_suspect 120 = .ok (.aload_n 0, 1) := by decide +kernel
theorem dX9_suspect_121 : decode cX9_suspect 121 = .ok (.iload_n 1, 1) := by decide +kernel
theorem dX9_suspect_122 : decode cX9_suspect 122 = .ok (.invokevirtual 152, 3) := by decide +kernel
theorem dX9_suspect_125 : decode cX9_suspect 125 = .ok (.goto 36, 3) := by decide +kernel
theorem dX9_suspect_128 : decode cX9_suspect 128 = .ok (.aload_n 0, 1) := by decide +kernel
theorem dX9_suspect_129 : decode cX9_suspect 129 = .ok (.iload_n 1, 1) := by decide +kernel
theorem dX9_suspect_130 : decode cX9_suspect 130 = .ok (.invokevirtual 145, 3) := by decide +kernel
theorem dX9_suspect_133 : decode cX9_suspect 133 = .ok (.iload_n 2, 1) := by decide +kernel
theorem dX9_suspect_134 : decode cX9_suspect 134 = .ok (.if_icmp .eq 13, 3) := by decide +kernel
theorem dX9_suspect_137 : decode cX9_suspect 137 = .ok (.aload_n 0, 1) := by decide +kernel
theorem dX9_suspect_138 : decode cX9_suspect 138 = .ok (.getfield 43, 3) := by decide +kernel
theorem dX9_suspect_141 : decode cX9_suspect 141 = .ok (.iload_n 1, 1) := by decide +kernel
theorem dX9_suspect_142 : decode cX9_suspect 142 = .ok (.iaload, 1) := by decide +kernel
theorem dX9_suspect_143 : decode cX9_suspect 143 = .ok (.iload_n 2, 1) := by decide +kernel
theorem dX9_suspect_144 : decode cX9_suspect 144 = .ok (.if_icmp .ne 17, 3) := by decide +kernel
theorem dX9_suspect_147 : decode cX9_suspect 147 = .ok (.aload_n 0, 1) := by decide +kernel
theorem dX9_suspect_148 : decode cX9_suspect 148 = .ok (.getfield 37, 3) := by decide +kernel
theorem dX9_suspect_151 : decode cX9_suspect 151 = .ok (.iload_n 1, 1) := by decide +kernel
theorem dX9_suspect_152 : decode cX9_suspect 152 = .ok (.iaload, 1) := by decide +kernel
theorem dX9_suspect_153 : decode cX9_suspect 153 = .ok (.ifCond .ne 8, 3) := by decide +kernel
theorem dX9_suspect_156 : decode cX9_suspect 156 = .ok (.aload_n 0, 1) := by decide +kernel
theorem dX9_suspect_157 : decode cX9_suspect 157 = .ok (.iload_n 1, 1) := by decide +kernel
theorem dX9_suspect_158 : decode cX9_suspect 158 = .ok (.invokevirtual 174, 3) := by decide +kernel
theorem dX9_suspect_161 : decode cX9_suspect 161 = .ok (.iconst 1, 1) := by decide +kernel
theorem dX9_suspect_162 : decode cX9_suspect 162 = .ok (.ireturn, 1) := by decide +kernel
theorem dX9_crash_0 : decode cX9_crash 0 = .ok (.aload_n 0, 1) := by decide +kernel
theorem dX9_crash_1 : decode cX9_crash 1 = .ok (.iload_n 1, 1) := by decide +kernel
theorem dX9_crash_2 : decode cX9_crash 2 = .ok (.invokevirtual 135, 3) := by decide +kernel
theorem dX9_crash_5 : decode cX9_crash 5 = .ok (.ifCond .eq 12, 3) := by decide +kernel
theorem dX9_crash_8 : decode cX9_crash 8 = .ok (.aload_n 0, 1) := by decide +kernel
theorem dX9_crash_9 : decode cX9_crash 9 = .ok (.getfield 7, 3) := by decide +kernel
theorem dX9_crash_12 : decode cX9_crash 12 = .ok (.iload_n 1, 1) := by decide +kernel
theorem dX9_crash_13 : decode cX9_crash 13 = .ok (.iaload, 1) := by decide +kernel
theorem dX9_crash_14 : decode cX9_crash 14 = .ok (.ifCond .eq 5, 3) := by decide +kernel
theorem dX9_crash_17 : decode cX9_crash 17 = .ok (.iconst 0, 1) := by decide +kernel
theorem dX9_crash_18 : decode cX9_crash 18 = .ok (.ireturn, 1) := by decide +kernel
theorem dX9_crash_19 : decode cX9_crash 19 = .ok (.aload_n 0, 1) := by decide +kernel
theorem dX9_crash_20 : decode cX9_crash 20 = .ok (.getfield 7, 3) := by decide +kernel
theorem dX9_crash_23 : decode cX9_crash 23 = .ok (.iload_n 1, 1) := by decide +kernel
theorem dX9_crash_24 : decode cX9_crash 24 = .ok (.iconst 1, 1) := by decide +kernel
theorem dX9_crash_25 : decode cX9_crash 25 = .ok (.iastore, 1) := by decide +kernel
theorem dX9_crash_26 : decode cX9_crash 26 = .ok (.iconst 1, 1) := by decide +kernel
theorem dX9_crash_27 : decode cX9_crash 27 = .ok (.ireturn, 1) := by decide +kernel
theorem dX9_timeout_0 : decode cX9_timeout 0 = .ok (.aload_n 0, 1) := by decide +kernel
theorem dX9_timeout_1 : decode cX9_timeout 1 = .ok (.iload_n 1, 1) := by decide +kernel
theorem dX9_timeout_2 : decode cX9_timeout 2 = .ok (.invokevirtual 135, 3) := by decide +kernel
theorem dX9_timeout_5 : decode cX9_timeout 5 = .ok (.ifCond .ne 5, 3) := by decide +kernel
theorem dX9_timeout_8 : decode cX9_timeout 8 = .ok (.iconst (-1), 1) := by decide +kernel
theorem dX9_timeout_9 : decode cX9_timeout 9 = .ok (.ireturn, 1) := by decide +kernel
theorem dX9_timeout_10 : decode cX9_timeout 10 = .ok (.aload_n 0, 1) := by decide +kernel
theorem dX9_timeout_11 : decode cX9_timeout 11 = .ok (.getfield 7, 3) := by decide +kernel
theorem dX9_timeout_14 : decode cX9_timeout 14 = .ok (.iload_n 1, 1) := by decide +kernel
theorem dX9_timeout_15 : decode cX9_timeout 15 = .ok (.iaload, 1) := by decide +kernel
theorem dX9_timeout_16 : decode cX9_timeout 16 = .ok (.ifCond .ne 12, 3) := by decide +kernel
theorem dX9_timeout_19 : decode cX9_timeout 19 = .ok (.aload_n 0, 1) := by decide +kernel
theorem dX9_timeout_20 : decode cX9_timeout 20 = .ok (.getfield 37, 3) := by decide +kernel
theorem dX9_timeout_23 : decode cX9_timeout 23 = .ok (.iload_n 1, 1) := by decide +kernel
theorem dX9_timeout_24 : decode cX9_timeout 24 = .ok (.iaload, 1) := by decide +kernel
theorem dX9_timeout_25 : decode cX9_timeout 25 = .ok (.ifCond .ne 5, 3) := by decide +kernel
theorem dX9_timeout_28 : decode cX9_timeout 28 = .ok (.iconst 0, 1) := by decide +kernel
theorem dX9_timeout_29 : decode cX9_timeout 29 = .ok (.ireturn, 1) := by decide +kernel
theorem dX9_timeout_30 : decode cX9_timeout 30 = .ok (.aload_n 0, 1) := by decide +kernel
theorem dX9_timeout_31 : decode cX9_timeout 31 = .ok (.getfield 37, 3) := by decide +kernel
theorem dX9_timeout_34 : decode cX9_timeout 34 = .ok (.iload_n 1, 1) := by decide +kernel
theorem dX9_timeout_35 : decode cX9_timeout 35 = .ok (.iaload, 1) := by decide +kernel
theorem dX9_timeout_36 : decode cX9_timeout 36 = .ok (.iconst 2, 1) := by decide +kernel
theorem dX9_timeout_37 : decode cX9_timeout 37 = .ok (.if_icmp .ne 11, 3) := by decide +kernel
theorem dX9_timeout_40 : decode cX9_timeout 40 = .ok (.aload_n 0, 1) := by decide +kernel
theorem dX9_timeout_41 : decode cX9_timeout 41 = .ok (.iload_n 1, 1) := by decide +kernel
theorem dX9_timeout_42 : decode cX9_timeout 42 = .ok (.invokevirtual 174, 3) := by decide +kernel
theorem dX9_timeout_45 : decode cX9_timeout 45 = .ok (.goto 8, 3) := by decide +kernel
theorem dX9_timeout_48 : decode cX9_timeout 48 = .ok (.aload_n 0, 1) := by decide +kernel
theorem dX9_timeout_49 : decode cX9_timeout 49 = .ok (.iload_n 1, 1) := by decide +kernel
theorem dX9_timeout_50 : decode cX9_timeout 50 = .ok (.invokevirtual 152, 3) := by decide +kernel
theorem dX9_timeout_53 : decode cX9_timeout 53 = .ok (.iconst 1, 1) := by decide +kernel
theorem dX9_timeout_54 : decode cX9_timeout 54 = .ok (.ireturn, 1) := by decide +kernel
theorem dX9_node_0 : decode cX9_node 0 = .ok (.aload_n 0, 1) := by decide +kernel
theorem dX9_node_1 : decode cX9_node 1 = .ok (.iload_n 1, 1) := by decide +kernel
theorem dX9_node_2 : decode cX9_node 2 = .ok (.invokevirtual 135, 3) := by decide +kernel
theorem dX9_node_5 : decode cX9_node 5 = .ok (.ifCond .ne 5, 3) := by decide +kernel
theorem dX9_node_8 : decode cX9_node 8 = .ok (.iconst (-1), 1) := by decide +kernel
theorem dX9_node_9 : decode cX9_node 9 = .ok (.ireturn, 1) := by decide +kernel
theorem dX9_node_10 : decode cX9_node 10 = .ok (.iload_n 2, 1) := by decide +kernel
theorem dX9_node_11 : decode cX9_node 11 = .ok (.tableswitch 165 0 11 #[61, 68, 75, 82, 89, 95, 102, 109, 116, 123, 130, 144], 61) := by decide +kernel
theorem dX9_node_72 : decode cX9_node 72 = .ok (.aload_n 0, 1) := by decide +kernel
theorem dX9_node_73 : decode cX9_node 73 = .ok (.getfield 7, 3) := by decide +kernel
theorem dX9_node_76 : decode cX9_node 76 = .ok (.iload_n 1, 1) := by decide +kernel
theorem dX9_node_77 : decode cX9_node 77 = .ok (.iaload, 1) := by decide +kernel
theorem dX9_node_78 : decode cX9_node 78 = .ok (.ireturn, 1) := by decide +kernel
theorem dX9_node_79 : decode cX9_node 79 = .ok (.aload_n 0, 1) := by decide +kernel
theorem dX9_node_80 : decode cX9_node 80 = .ok (.getfield 37, 3) := by decide +kernel
theorem dX9_node_83 : decode cX9_node 83 = .ok (.iload_n 1, 1) := by decide +kernel
theorem dX9_node_84 : decode cX9_node 84 = .ok (.iaload, 1) := by decide +kernel
theorem dX9_node_85 : decode cX9_node 85 = .ok (.ireturn, 1) := by decide +kernel
theorem dX9_node_86 : decode cX9_node 86 = .ok (.aload_n 0, 1) := by decide +kernel
theorem dX9_node_87 : decode cX9_node 87 = .ok (.getfield 13, 3) := by decide +kernel
theorem dX9_node_90 : decode cX9_node 90 = .ok (.iload_n 1, 1) := by decide +kernel
theorem dX9_node_91 : decode cX9_node 91 = .ok (.iaload, 1) := by decide +kernel
theorem dX9_node_92 : decode cX9_node 92 = .ok (.ireturn, 1) := by decide +kernel
theorem dX9_node_93 : decode cX9_node 93 = .ok (.aload_n 0, 1) := by decide +kernel
theorem dX9_node_94 : decode cX9_node 94 = .ok (.getfield 16, 3) := by decide +kernel
theorem dX9_node_97 : decode cX9_node 97 = .ok (.iload_n 1, 1) := by decide +kernel
theorem dX9_node_98 : decode cX9_node 98 = .ok (.iaload, 1) := by decide +kernel
theorem dX9_node_99 : decode cX9_node 99 = .ok (.ireturn, 1) := by decide +kernel
theorem dX9_node_100 : decode cX9_node 100 = .ok (.aload_n 0, 1) := by decide +kernel
theorem dX9_node_101 : decode cX9_node 101 = .ok (.iload_n 1, 1) := by decide +kernel
theorem dX9_node_102 : decode cX9_node 102 = .ok (.invokevirtual 145, 3) := by decide +kernel
theorem dX9_node_105 : decode cX9_node 105 = .ok (.ireturn, 1) := by decide +kernel
theorem dX9_node_106 : decode cX9_node 106 = .ok (.aload_n 0, 1) := by decide +kernel
theorem dX9_node_107 : decode cX9_node 107 = .ok (.getfield 31, 3) := by decide +kernel
theorem dX9_node_110 : decode cX9_node 110 = .ok (.iload_n 1, 1) := by decide +kernel
theorem dX9_node_111 : decode cX9_node 111 = .ok (.iaload, 1) := by decide +kernel
theorem dX9_node_112 : decode cX9_node 112 = .ok (.ireturn, 1) := by decide +kernel
theorem dX9_node_113 : decode cX9_node 113 = .ok (.aload_n 0, 1) := by decide +kernel
theorem dX9_node_114 : decode cX9_node 114 = .ok (.getfield 34, 3) := by decide +kernel
theorem dX9_node_117 : decode cX9_node 117 = .ok (.iload_n 1, 1) := by decide +kernel
theorem dX9_node_118 : decode cX9_node 118 = .ok (.iaload, 1) := by decide +kernel
theorem dX9_node_119 : decode cX9_node 119 = .ok (.ireturn, 1) := by decide +kernel
theorem dX9_node_120 : decode cX9_node 120 = .ok (.aload_n 0, 1) := by decide +kernel
theorem dX9_node_121 : decode cX9_node 121 = .ok (.getfield 22, 3) := by decide +kernel
theorem dX9_node_124 : decode cX9_node 124 = .ok (.iload_n 1, 1) := by decide +kernel
theorem dX9_node_125 : decode cX9_node 125 = .ok (.iaload, 1) := by decide +kernel
theorem dX9_node_126 : decode cX9_node 126 = .ok (.ireturn, 1) := by decide +kernel
theorem dX9_node_127 : decode cX9_node 127 = .ok (.aload_n 0, 1) := by decide +kernel
theorem dX9_node_128 : decode cX9_node 128 = .ok (.getfield 25, 3) := by decide +kernel
theorem dX9_node_131 : decode cX9_node 131 = .ok (.iload_n 1, 1) := by decide +kernel
theorem dX9_node_132 : decode cX9_node 132 = .ok (.iaload, 1) := by decide +kernel
theorem dX9_node_133 : decode cX9_node 133 = .ok (.ireturn, 1) := by decide +kernel
theorem dX9_node_134 : decode cX9_node 134 = .ok (.aload_n 0, 1) := by decide +kernel
theorem dX9_node_135 : decode cX9_node 135 = .ok (.getfield 28, 3) := by decide +kernel
theorem dX9_node_138 : decode cX9_node 138 = .ok (.iload_n 1, 1) := by decide +kernel
theorem dX9_node_139 : decode cX9_node 139 = .ok (.iaload, 1) := by decide +kernel
theorem dX9_node_140 : decode cX9_node 140 = .ok (.ireturn, 1) := by decide +kernel
theorem dX9_node_141 : decode cX9_node 141 = .ok (.aload_n 0, 1) := by decide +kernel
theorem dX9_node_142 : decode cX9_node 142 = .ok (.iload_n 1, 1) := by decide +kernel
theorem dX9_node_143 : decode cX9_node 143 = .ok (.invokevirtual 142, 3) := by decide +kernel
theorem dX9_node_146 : decode cX9_node 146 = .ok (.ifCond .eq 7, 3) := by decide +kernel
theorem dX9_node_149 : decode cX9_node 149 = .ok (.iconst 1, 1) := by decide +kernel
theorem dX9_node_150 : decode cX9_node 150 = .ok (.goto 4, 3) := by decide +kernel
theorem dX9_node_153 : decode cX9_node 153 = .ok (.iconst 0, 1) := by decide +kernel
theorem dX9_node_154 : decode cX9_node 154 = .ok (.ireturn, 1) := by decide +kernel
theorem dX9_node_155 : decode cX9_node 155 = .ok (.aload_n 0, 1) := by decide +kernel
theorem dX9_node_156 : decode cX9_node 156 = .ok (.getfield 37, 3) := by decide +kernel
theorem dX9_node_159 : decode cX9_node 159 = .ok (.iload_n 1, 1) := by decide +kernel
theorem dX9_node_160 : decode cX9_node 160 = .ok (.iaload, 1) := by decide +kernel
theorem dX9_node_161 : decode cX9_node 161 = .ok (.iconst 3, 1) := by decide +kernel
theorem dX9_node_162 : decode cX9_node 162 = .ok (.if_icmp .lt 12, 3) := by decide +kernel
theorem dX9_node_165 : decode cX9_node 165 = .ok (.aload_n 0, 1) := by decide +kernel
theorem dX9_node_166 : decode cX9_node 166 = .ok (.getfield 40, 3) := by decide +kernel
theorem dX9_node_169 : decode cX9_node 169 = .ok (.iload_n 1, 1) := by decide +kernel
theorem dX9_node_170 : decode cX9_node 170 = .ok (.iaload, 1) := by decide +kernel
theorem dX9_node_171 : decode cX9_node 171 = .ok (.goto 4, 3) := by decide +kernel
theorem dX9_node_174 : decode cX9_node 174 = .ok (.iconst 0, 1) := by decide +kernel
theorem dX9_node_175 : decode cX9_node 175 = .ok (.ireturn, 1) := by decide +kernel
theorem dX9_node_176 : decode cX9_node 176 = .ok (.iconst (-1), 1) := by decide +kernel
theorem dX9_node_177 : decode cX9_node 177 = .ok (.ireturn, 1) := by decide +kernel
theorem dX9_held_0 : decode cX9_held 0 = .ok (.aload_n 0, 1) := by decide +kernel
theorem dX9_held_1 : decode cX9_held 1 = .ok (.iload_n 1, 1) := by decide +kernel
theorem dX9_held_2 : decode cX9_held 2 = .ok (.invokevirtual 135, 3) := by decide +kernel
theorem dX9_held_5 : decode cX9_held 5 = .ok (.ifCond .eq 31, 3) := by decide +kernel
theorem dX9_held_8 : decode cX9_held 8 = .ok (.iload_n 2, 1) := by decide +kernel
theorem dX9_held_9 : decode cX9_held 9 = .ok (.ifCond .lt 27, 3) := by decide +kernel
theorem dX9_held_12 : decode cX9_held 12 = .ok (.iload_n 2, 1) := by decide +kernel
theorem dX9_held_13 : decode cX9_held 13 = .ok (.aload_n 0, 1) := by decide +kernel
theorem dX9_held_14 : decode cX9_held 14 = .ok (.getfield 22, 3) := by decide +kernel
theorem dX9_held_17 : decode cX9_held 17 = .ok (.iload_n 1, 1) := by decide +kernel
theorem dX9_held_18 : decode cX9_held 18 = .ok (.iaload, 1) := by decide +kernel
theorem dX9_held_19 : decode cX9_held 19 = .ok (.if_icmp .ge 17, 3) := by decide +kernel
theorem dX9_held_22 : decode cX9_held 22 = .ok (.aload_n 0, 1) := by decide +kernel
theorem dX9_held_23 : decode cX9_held 23 = .ok (.getfield 19, 3) := by decide +kernel
theorem dX9_held_26 : decode cX9_held 26 = .ok (.bipush 60, 2) := by decide +kernel
theorem dX9_held_28 : decode cX9_held 28 = .ok (.iload_n 1, 1) := by decide +kernel
theorem dX9_held_29 : decode cX9_held 29 = .ok (.imul, 1) := by decide +kernel
theorem dX9_held_30 : decode cX9_held 30 = .ok (.iload_n 2, 1) := by decide +kernel
theorem dX9_held_31 : decode cX9_held 31 = .ok (.iadd, 1) := by decide +kernel
theorem dX9_held_32 : decode cX9_held 32 = .ok (.iaload, 1) := by decide +kernel
theorem dX9_held_33 : decode cX9_held 33 = .ok (.goto 5, 3) := by decide +kernel
theorem dX9_held_36 : decode cX9_held 36 = .ok (.ldc 190, 2) := by decide +kernel
theorem dX9_held_38 : decode cX9_held 38 = .ok (.ireturn, 1) := by decide +kernel
theorem dX9_depth_0 : decode cX9_depth 0 = .ok (.aload_n 0, 1) := by decide +kernel
theorem dX9_depth_1 : decode cX9_depth 1 = .ok (.iload_n 1, 1) := by decide +kernel
theorem dX9_depth_2 : decode cX9_depth 2 = .ok (.invokevirtual 135, 3) := by decide +kernel
theorem dX9_depth_5 : decode cX9_depth 5 = .ok (.ifCond .eq 12, 3) := by decide +kernel
theorem dX9_depth_8 : decode cX9_depth 8 = .ok (.aload_n 0, 1) := by decide +kernel
theorem dX9_depth_9 : decode cX9_depth 9 = .ok (.getfield 64, 3) := by decide +kernel
theorem dX9_depth_12 : decode cX9_depth 12 = .ok (.iload_n 1, 1) := by decide +kernel
theorem dX9_depth_13 : decode cX9_depth 13 = .ok (.iaload, 1) := by decide +kernel
theorem dX9_depth_14 : decode cX9_depth 14 = .ok (.goto 4, 3) := by decide +kernel
theorem dX9_depth_17 : decode cX9_depth 17 = .ok (.iconst (-1), 1) := by decide +kernel
theorem dX9_depth_18 : decode cX9_depth 18 = .ok (.ireturn, 1) := by decide +kernel
theorem dX9_top_0 : decode cX9_top 0 = .ok (.aload_n 0, 1) := by decide +kernel
theorem dX9_top_1 : decode cX9_top 1 = .ok (.iload_n 1, 1) := by decide +kernel
theorem dX9_top_2 : decode cX9_top 2 = .ok (.invokevirtual 135, 3) := by decide +kernel
theorem dX9_top_5 : decode cX9_top 5 = .ok (.ifCond .eq 40, 3) := by decide +kernel
theorem dX9_top_8 : decode cX9_top 8 = .ok (.iload_n 2, 1) := by decide +kernel
theorem dX9_top_9 : decode cX9_top 9 = .ok (.ifCond .lt 36, 3) := by decide +kernel
theorem dX9_top_12 : decode cX9_top 12 = .ok (.iload_n 2, 1) := by decide +kernel
theorem dX9_top_13 : decode cX9_top 13 = .ok (.aload_n 0, 1) := by decide +kernel
theorem dX9_top_14 : decode cX9_top 14 = .ok (.getfield 64, 3) := by decide +kernel
theorem dX9_top_17 : decode cX9_top 17 = .ok (.iload_n 1, 1) := by decide +kernel
theorem dX9_top_18 : decode cX9_top 18 = .ok (.iaload, 1) := by decide +kernel
theorem dX9_top_19 : decode cX9_top 19 = .ok (.if_icmp .ge 26, 3) := by decide +kernel
theorem dX9_top_22 : decode cX9_top 22 = .ok (.aload_n 0, 1) := by decide +kernel
theorem dX9_top_23 : decode cX9_top 23 = .ok (.getfield 61, 3) := by decide +kernel
theorem dX9_top_26 : decode cX9_top 26 = .ok (.bipush 20, 2) := by decide +kernel
theorem dX9_top_28 : decode cX9_top 28 = .ok (.iload_n 1, 1) := by decide +kernel
theorem dX9_top_29 : decode cX9_top 29 = .ok (.imul, 1) := by decide +kernel
theorem dX9_top_30 : decode cX9_top 30 = .ok (.aload_n 0, 1) := by decide +kernel
theorem dX9_top_31 : decode cX9_top 31 = .ok (.getfield 64, 3) := by decide +kernel
theorem dX9_top_34 : decode cX9_top 34 = .ok (.iload_n 1, 1) := by decide +kernel
theorem dX9_top_35 : decode cX9_top 35 = .ok (.iaload, 1) := by decide +kernel
theorem dX9_top_36 : decode cX9_top 36 = .ok (.iadd, 1) := by decide +kernel
theorem dX9_top_37 : decode cX9_top 37 = .ok (.iconst 1, 1) := by decide +kernel
theorem dX9_top_38 : decode cX9_top 38 = .ok (.isub, 1) := by decide +kernel
theorem dX9_top_39 : decode cX9_top 39 = .ok (.iload_n 2, 1) := by decide +kernel
theorem dX9_top_40 : decode cX9_top 40 = .ok (.isub, 1) := by decide +kernel
theorem dX9_top_41 : decode cX9_top 41 = .ok (.iaload, 1) := by decide +kernel
theorem dX9_top_42 : decode cX9_top 42 = .ok (.goto 4, 3) := by decide +kernel
theorem dX9_top_45 : decode cX9_top 45 = .ok (.iconst 0, 1) := by decide +kernel
theorem dX9_top_46 : decode cX9_top 46 = .ok (.ireturn, 1) := by decide +kernel
theorem dX9_flying_0 : decode cX9_flying 0 = .ok (.iload_n 1, 1) := by decide +kernel
theorem dX9_flying_1 : decode cX9_flying 1 = .ok (.iconst (-1), 1) := by decide +kernel
theorem dX9_flying_2 : decode cX9_flying 2 = .ok (.if_icmp .ne 8, 3) := by decide +kernel
theorem dX9_flying_5 : decode cX9_flying 5 = .ok (.aload_n 0, 1) := by decide +kernel
theorem dX9_flying_6 : decode cX9_flying 6 = .ok (.getfield 105, 3) := by decide +kernel
theorem dX9_flying_9 : decode cX9_flying 9 = .ok (.ireturn, 1) := by decide +kernel
theorem dX9_flying_10 : decode cX9_flying 10 = .ok (.aload_n 0, 1) := by decide +kernel
theorem dX9_flying_11 : decode cX9_flying 11 = .ok (.iload_n 1, 1) := by decide +kernel
theorem dX9_flying_12 : decode cX9_flying 12 = .ok (.invokevirtual 135, 3) := by decide +kernel
theorem dX9_flying_15 : decode cX9_flying 15 = .ok (.ifCond .eq 11, 3) := by decide +kernel
theorem dX9_flying_18 : decode cX9_flying 18 = .ok (.aload_n 0, 1) := by decide +kernel
theorem dX9_flying_19 : decode cX9_flying 19 = .ok (.iload_n 2, 1) := by decide +kernel
theorem dX9_flying_20 : decode cX9_flying 20 = .ok (.invokevirtual 135, 3) := by decide +kernel
theorem dX9_flying_23 : decode cX9_flying 23 = .ok (.ifCond .ne 5, 3) := by decide +kernel
theorem dX9_flying_26 : decode cX9_flying 26 = .ok (.iconst (-1), 1) := by decide +kernel
theorem dX9_flying_27 : decode cX9_flying 27 = .ok (.ireturn, 1) := by decide +kernel
theorem dX9_flying_28 : decode cX9_flying 28 = .ok (.iconst 0, 1) := by decide +kernel
theorem dX9_flying_29 : decode cX9_flying 29 = .ok (.istore_n 3, 1) := by decide +kernel
theorem dX9_flying_30 : decode cX9_flying 30 = .ok (.iconst 0, 1) := by decide +kernel
theorem dX9_flying_31 : decode cX9_flying 31 = .ok (.istore 4, 2) := by decide +kernel
theorem dX9_flying_33 : decode cX9_flying 33 = .ok (.iload 4, 2) := by decide +kernel
theorem dX9_flying_35 : decode cX9_flying 35 = .ok (.sipush 500, 3) := by decide +kernel
theorem dX9_flying_38 : decode cX9_flying 38 = .ok (.if_icmp .ge 49, 3) := by decide +kernel
theorem dX9_flying_41 : decode cX9_flying 41 = .ok (.iload_n 3, 1) := by decide +kernel
theorem dX9_flying_42 : decode cX9_flying 42 = .ok (.aload_n 0, 1) := by decide +kernel
theorem dX9_flying_43 : decode cX9_flying 43 = .ok (.getfield 67, 3) := by decide +kernel
theorem dX9_flying_46 : decode cX9_flying 46 = .ok (.iload 4, 2) := by decide +kernel
theorem dX9_flying_48 : decode cX9_flying 48 = .ok (.baload, 1) := by decide +kernel
theorem dX9_flying_49 : decode cX9_flying 49 = .ok (.ifCond .eq 29, 3) := by decide +kernel
theorem dX9_flying_52 : decode cX9_flying 52 = .ok (.aload_n 0, 1) := by decide +kernel
theorem dX9_flying_53 : decode cX9_flying 53 = .ok (.getfield 71, 3) := by decide +kernel
theorem dX9_flying_56 : decode cX9_flying 56 = .ok (.iload 4, 2) := by decide +kernel
theorem dX9_flying_58 : decode cX9_flying 58 = .ok (.iaload, 1) := by decide +kernel
theorem dX9_flying_59 : decode cX9_flying 59 = .ok (.iload_n 1, 1) := by decide +kernel
theorem dX9_flying_60 : decode cX9_flying 60 = .ok (.if_icmp .ne 18, 3) := by decide +kernel
theorem dX9_flying_63 : decode cX9_flying 63 = .ok (.aload_n 0, 1) := by decide +kernel
theorem dX9_flying_64 : decode cX9_flying 64 = .ok (.getfield 74, 3) := by decide +kernel
theorem dX9_flying_67 : decode cX9_flying 67 = .ok (.iload 4, 2) := by decide +kernel
theorem dX9_flying_69 : decode cX9_flying 69 = .ok (.iaload, 1) := by decide +kernel
theorem dX9_flying_70 : decode cX9_flying 70 = .ok (.iload_n 2, 1) := by decide +kernel
theorem dX9_flying_71 : decode cX9_flying 71 = .ok (.if_icmp .ne 7, 3) := by decide +kernel
theorem dX9_flying_74 : decode cX9_flying 74 = .ok (.iconst 1, 1) := by decide +kernel
theorem dX9_flying_75 : decode cX9_flying 75 = .ok (.goto 4, 3) := by decide +kernel
theorem dX9_flying_78 : decode cX9_flying 78 = .ok (.iconst 0, 1) := by decide +kernel
theorem dX9_flying_79 : decode cX9_flying 79 = .ok (.iadd, 1) := by decide +kernel
theorem dX9_flying_80 : decode cX9_flying 80 = .ok (.istore_n 3, 1) := by decide +kernel
theorem dX9_flying_81 : decode cX9_flying 81 = .ok (.iinc 4 1, 3) := by decide +kernel
theorem dX9_flying_84 : decode cX9_flying 84 = .ok (.goto (-51), 3) := by decide +kernel
theorem dX9_flying_87 : decode cX9_flying 87 = .ok (.iload_n 3, 1) := by decide +kernel
theorem dX9_flying_88 : decode cX9_flying 88 = .ok (.ireturn, 1) := by decide +kernel
theorem dX9_letter_0 : decode cX9_letter 0 = .ok (.aload_n 0, 1) := by decide +kernel
theorem dX9_letter_1 : decode cX9_letter 1 = .ok (.iload_n 1, 1) := by decide +kernel
theorem dX9_letter_2 : decode cX9_letter 2 = .ok (.invokevirtual 135, 3) := by decide +kernel
theorem dX9_letter_5 : decode cX9_letter 5 = .ok (.ifCond .eq 11, 3) := by decide +kernel
theorem dX9_letter_8 : decode cX9_letter 8 = .ok (.aload_n 0, 1) := by decide +kernel
theorem dX9_letter_9 : decode cX9_letter 9 = .ok (.iload_n 2, 1) := by decide +kernel
theorem dX9_letter_10 : decode cX9_letter 10 = .ok (.invokevirtual 135, 3) := by decide +kernel
theorem dX9_letter_13 : decode cX9_letter 13 = .ok (.ifCond .ne 5, 3) := by decide +kernel
theorem dX9_letter_16 : decode cX9_letter 16 = .ok (.iconst (-1), 1) := by decide +kernel
theorem dX9_letter_17 : decode cX9_letter 17 = .ok (.ireturn, 1) := by decide +kernel
theorem dX9_letter_18 : decode cX9_letter 18 = .ok (.aload_n 0, 1) := by decide +kernel
theorem dX9_letter_19 : decode cX9_letter 19 = .ok (.iload_n 1, 1) := by decide +kernel
theorem dX9_letter_20 : decode cX9_letter 20 = .ok (.iload_n 2, 1) := by decide +kernel
theorem dX9_letter_21 : decode cX9_letter 21 = .ok (.invokevirtual 180, 3) := by decide +kernel
theorem dX9_letter_24 : decode cX9_letter 24 = .ok (.istore 4, 2) := by decide +kernel
theorem dX9_letter_26 : decode cX9_letter 26 = .ok (.iload 4, 2) := by decide +kernel
theorem dX9_letter_28 : decode cX9_letter 28 = .ok (.iconst (-1), 1) := by decide +kernel
theorem dX9_letter_29 : decode cX9_letter 29 = .ok (.if_icmp .ne 5, 3) := by decide +kernel
theorem dX9_letter_32 : decode cX9_letter 32 = .ok (.iconst (-1), 1) := by decide +kernel
theorem dX9_letter_33 : decode cX9_letter 33 = .ok (.ireturn, 1) := by decide +kernel
theorem dX9_letter_34 : decode cX9_letter 34 = .ok (.iload_n 3, 1) := by decide +kernel
theorem dX9_letter_35 : decode cX9_letter 35 = .ok (.tableswitch 61 0 3 #[29, 37, 45, 53], 29) := by decide +kernel
theorem dX9_letter_64 : decode cX9_letter 64 = .ok (.aload_n 0, 1) := by decide +kernel
theorem dX9_letter_65 : decode cX9_letter 65 = .ok (.getfield 77, 3) := by decide +kernel
theorem dX9_letter_68 : decode cX9_letter 68 = .ok (.iload 4, 2) := by decide +kernel
theorem dX9_letter_70 : decode cX9_letter 70 = .ok (.iaload, 1) := by decide +kernel
theorem dX9_letter_71 : decode cX9_letter 71 = .ok (.ireturn, 1) := by decide +kernel
theorem dX9_letter_72 : decode cX9_letter 72 = .ok (.aload_n 0, 1) := by decide +kernel
theorem dX9_letter_73 : decode cX9_letter 73 = .ok (.getfield 80, 3) := by decide +kernel
theorem dX9_letter_76 : decode cX9_letter 76 = .ok (.iload 4, 2) := by decide +kernel
theorem dX9_letter_78 : decode cX9_letter 78 = .ok (.iaload, 1) := by decide +kernel
theorem dX9_letter_79 : decode cX9_letter 79 = .ok (.ireturn, 1) := by decide +kernel
theorem dX9_letter_80 : decode cX9_letter 80 = .ok (.aload_n 0, 1) := by decide +kernel
theorem dX9_letter_81 : decode cX9_letter 81 = .ok (.getfield 83, 3) := by decide +kernel
theorem dX9_letter_84 : decode cX9_letter 84 = .ok (.iload 4, 2) := by decide +kernel
theorem dX9_letter_86 : decode cX9_letter 86 = .ok (.iaload, 1) := by decide +kernel
theorem dX9_letter_87 : decode cX9_letter 87 = .ok (.ireturn, 1) := by decide +kernel
theorem dX9_letter_88 : decode cX9_letter 88 = .ok (.aload_n 0, 1) := by decide +kernel
theorem dX9_letter_89 : decode cX9_letter 89 = .ok (.getfield 86, 3) := by decide +kernel
theorem dX9_letter_92 : decode cX9_letter 92 = .ok (.iload 4, 2) := by decide +kernel
theorem dX9_letter_94 : decode cX9_letter 94 = .ok (.iaload, 1) := by decide +kernel
theorem dX9_letter_95 : decode cX9_letter 95 = .ok (.ireturn, 1) := by decide +kernel
theorem dX9_letter_96 : decode cX9_letter 96 = .ok (.iconst (-1), 1) := by decide +kernel
theorem dX9_letter_97 : decode cX9_letter 97 = .ok (.ireturn, 1) := by decide +kernel
theorem dX9_count_0 : decode cX9_count 0 = .ok (.iload_n 1, 1) := by decide +kernel
theorem dX9_count_1 : decode cX9_count 1 = .ok (.tableswitch 60 0 4 #[35, 40, 45, 50, 55], 35) := by decide +kernel
theorem dX9_count_36 : decode cX9_count 36 = .ok (.aload_n 0, 1) := by decide +kernel
theorem dX9_count_37 : decode cX9_count 37 = .ok (.getfield 102, 3) := by decide +kernel
theorem dX9_count_40 : decode cX9_count 40 = .ok (.ireturn, 1) := by decide +kernel
theorem dX9_count_41 : decode cX9_count 41 = .ok (.aload_n 0, 1) := by decide +kernel
theorem dX9_count_42 : decode cX9_count 42 = .ok (.getfield 108, 3) := by decide +kernel
theorem dX9_count_45 : decode cX9_count 45 = .ok (.ireturn, 1) := by decide +kernel
theorem dX9_count_46 : decode cX9_count 46 = .ok (.aload_n 0, 1) := by decide +kernel
theorem dX9_count_47 : decode cX9_count 47 = .ok (.getfield 115, 3) := by decide +kernel
theorem dX9_count_50 : decode cX9_count 50 = .ok (.ireturn, 1) := by decide +kernel
theorem dX9_count_51 : decode cX9_count 51 = .ok (.aload_n 0, 1) := by decide +kernel
theorem dX9_count_52 : decode cX9_count 52 = .ok (.getfield 171, 3) := by decide +kernel
theorem dX9_count_55 : decode cX9_count 55 = .ok (.ireturn, 1) := by decide +kernel
theorem dX9_count_56 : decode cX9_count 56 = .ok (.aload_n 0, 1) := by decide +kernel
theorem dX9_count_57 : decode cX9_count 57 = .ok (.getfield 158, 3) := by decide +kernel
theorem dX9_count_60 : decode cX9_count 60 = .ok (.ireturn, 1) := by decide +kernel
theorem dX9_count_61 : decode cX9_count 61 = .ok (.iconst (-1), 1) := by decide +kernel
theorem dX9_count_62 : decode cX9_count 62 = .ok (.ireturn, 1) := by decide +kernel
theorem dJ6_bitCount_0f7a4_0 : decode cJ6_bitCount_0f7a4 0 = .ok (.iload_n 0, 1) := by decide +kernel
theorem dJ6_bitCount_0f7a4_1 : decode cJ6_bitCount_0f7a4 1 = .ok (.iload_n 0, 1) := by decide +kernel
theorem dJ6_bitCount_0f7a4_2 : decode cJ6_bitCount_0f7a4 2 = .ok (.iconst 1, 1) := by decide +kernel
theorem dJ6_bitCount_0f7a4_3 : decode cJ6_bitCount_0f7a4 3 = .ok (.iushr, 1) := by decide +kernel
theorem dJ6_bitCount_0f7a4_4 : decode cJ6_bitCount_0f7a4 4 = .ok (.ldc_w 265, 3) := by decide +kernel
theorem dJ6_bitCount_0f7a4_7 : decode cJ6_bitCount_0f7a4 7 = .ok (.iand, 1) := by decide +kernel
theorem dJ6_bitCount_0f7a4_8 : decode cJ6_bitCount_0f7a4 8 = .ok (.isub, 1) := by decide +kernel
theorem dJ6_bitCount_0f7a4_9 : decode cJ6_bitCount_0f7a4 9 = .ok (.istore_n 0, 1) := by decide +kernel
theorem dJ6_bitCount_0f7a4_10 : decode cJ6_bitCount_0f7a4 10 = .ok (.iload_n 0, 1) := by decide +kernel
theorem dJ6_bitCount_0f7a4_11 : decode cJ6_bitCount_0f7a4 11 = .ok (.ldc_w 266, 3) := by decide +kernel
theorem dJ6_bitCount_0f7a4_14 : decode cJ6_bitCount_0f7a4 14 = .ok (.iand, 1) := by decide +kernel
theorem dJ6_bitCount_0f7a4_15 : decode cJ6_bitCount_0f7a4 15 = .ok (.iload_n 0, 1) := by decide +kernel
theorem dJ6_bitCount_0f7a4_16 : decode cJ6_bitCount_0f7a4 16 = .ok (.iconst 2, 1) := by decide +kernel
theorem dJ6_bitCount_0f7a4_17 : decode cJ6_bitCount_0f7a4 17 = .ok (.iushr, 1) := by decide +kernel
theorem dJ6_bitCount_0f7a4_18 : decode cJ6_bitCount_0f7a4 18 = .ok (.ldc_w 266, 3) := by decide +kernel
theorem dJ6_bitCount_0f7a4_21 : decode cJ6_bitCount_0f7a4 21 = .ok (.iand, 1) := by decide +kernel
theorem dJ6_bitCount_0f7a4_22 : decode cJ6_bitCount_0f7a4 22 = .ok (.iadd, 1) := by decide +kernel
theorem dJ6_bitCount_0f7a4_23 : decode cJ6_bitCount_0f7a4 23 = .ok (.istore_n 0, 1) := by decide +kernel
theorem dJ6_bitCount_0f7a4_24 : decode cJ6_bitCount_0f7a4 24 = .ok (.iload_n 0, 1) := by decide +kernel
theorem dJ6_bitCount_0f7a4_25 : decode cJ6_bitCount_0f7a4 25 = .ok (.iload_n 0, 1) := by decide +kernel
theorem dJ6_bitCount_0f7a4_26 : decode cJ6_bitCount_0f7a4 26 = .ok (.iconst 4, 1) := by decide +kernel
theorem dJ6_bitCount_0f7a4_27 : decode cJ6_bitCount_0f7a4 27 = .ok (.iushr, 1) := by decide +kernel
theorem dJ6_bitCount_0f7a4_28 : decode cJ6_bitCount_0f7a4 28 = .ok (.iadd, 1) := by decide +kernel
theorem dJ6_bitCount_0f7a4_29 : decode cJ6_bitCount_0f7a4 29 = .ok (.ldc_w 267, 3) := by decide +kernel
theorem dJ6_bitCount_0f7a4_32 : decode cJ6_bitCount_0f7a4 32 = .ok (.iand, 1) := by decide +kernel
theorem dJ6_bitCount_0f7a4_33 : decode cJ6_bitCount_0f7a4 33 = .ok (.istore_n 0, 1) := by decide +kernel
theorem dJ6_bitCount_0f7a4_34 : decode cJ6_bitCount_0f7a4 34 = .ok (.iload_n 0, 1) := by decide +kernel
theorem dJ6_bitCount_0f7a4_35 : decode cJ6_bitCount_0f7a4 35 = .ok (.iload_n 0, 1) := by decide +kernel
theorem dJ6_bitCount_0f7a4_36 : decode cJ6_bitCount_0f7a4 36 = .ok (.bipush 8, 2) := by decide +kernel
theorem dJ6_bitCount_0f7a4_38 : decode cJ6_bitCount_0f7a4 38 = .ok (.iushr, 1) := by decide +kernel
theorem dJ6_bitCount_0f7a4_39 : decode cJ6_bitCount_0f7a4 39 = .ok (.iadd, 1) := by decide +kernel
theorem dJ6_bitCount_0f7a4_40 : decode cJ6_bitCount_0f7a4 40 = .ok (.istore_n 0, 1) := by decide +kernel
theorem dJ6_bitCount_0f7a4_41 : decode cJ6_bitCount_0f7a4 41 = .ok (.iload_n 0, 1) := by decide +kernel
theorem dJ6_bitCount_0f7a4_42 : decode cJ6_bitCount_0f7a4 42 = .ok (.iload_n 0, 1) := by decide +kernel
theorem dJ6_bitCount_0f7a4_43 : decode cJ6_bitCount_0f7a4 43 = .ok (.bipush 16, 2) := by decide +kernel
theorem dJ6_bitCount_0f7a4_45 : decode cJ6_bitCount_0f7a4 45 = .ok (.iushr, 1) := by decide +kernel
theorem dJ6_bitCount_0f7a4_46 : decode cJ6_bitCount_0f7a4 46 = .ok (.iadd, 1) := by decide +kernel
theorem dJ6_bitCount_0f7a4_47 : decode cJ6_bitCount_0f7a4 47 = .ok (.istore_n 0, 1) := by decide +kernel
theorem dJ6_bitCount_0f7a4_48 : decode cJ6_bitCount_0f7a4 48 = .ok (.iload_n 0, 1) := by decide +kernel
theorem dJ6_bitCount_0f7a4_49 : decode cJ6_bitCount_0f7a4 49 = .ok (.bipush 63, 2) := by decide +kernel
theorem dJ6_bitCount_0f7a4_51 : decode cJ6_bitCount_0f7a4 51 = .ok (.iand, 1) := by decide +kernel
theorem dJ6_bitCount_0f7a4_52 : decode cJ6_bitCount_0f7a4 52 = .ok (.ireturn, 1) := by decide +kernel
theorem dJ9_floorMod_7cf53_0 : decode cJ9_floorMod_7cf53 0 = .ok (.iload_n 0, 1) := by decide +kernel
theorem dJ9_floorMod_7cf53_1 : decode cJ9_floorMod_7cf53 1 = .ok (.iload_n 1, 1) := by decide +kernel
theorem dJ9_floorMod_7cf53_2 : decode cJ9_floorMod_7cf53 2 = .ok (.irem, 1) := by decide +kernel
theorem dJ9_floorMod_7cf53_3 : decode cJ9_floorMod_7cf53 3 = .ok (.istore_n 2, 1) := by decide +kernel
theorem dJ9_floorMod_7cf53_4 : decode cJ9_floorMod_7cf53 4 = .ok (.iload_n 0, 1) := by decide +kernel
theorem dJ9_floorMod_7cf53_5 : decode cJ9_floorMod_7cf53 5 = .ok (.iload_n 1, 1) := by decide +kernel
theorem dJ9_floorMod_7cf53_6 : decode cJ9_floorMod_7cf53 6 = .ok (.ixor, 1) := by decide +kernel
theorem dJ9_floorMod_7cf53_7 : decode cJ9_floorMod_7cf53 7 = .ok (.ifCond .ge 11, 3) := by decide +kernel
theorem dJ9_floorMod_7cf53_10 : decode cJ9_floorMod_7cf53 10 = .ok (.iload_n 2, 1) := by decide +kernel
theorem dJ9_floorMod_7cf53_11 : decode cJ9_floorMod_7cf53 11 = .ok (.ifCond .eq 7, 3) := by decide +kernel
theorem dJ9_floorMod_7cf53_14 : decode cJ9_floorMod_7cf53 14 = .ok (.iload_n 2, 1) := by decide +kernel
theorem dJ9_floorMod_7cf53_15 : decode cJ9_floorMod_7cf53 15 = .ok (.iload_n 1, 1) := by decide +kernel
theorem dJ9_floorMod_7cf53_16 : decode cJ9_floorMod_7cf53 16 = .ok (.iadd, 1) := by decide +kernel
theorem dJ9_floorMod_7cf53_17 : decode cJ9_floorMod_7cf53 17 = .ok (.ireturn, 1) := by decide +kernel
theorem dJ9_floorMod_7cf53_18 : decode cJ9_floorMod_7cf53 18 = .ok (.iload_n 2, 1) := by decide +kernel
theorem dJ9_floorMod_7cf53_19 : decode cJ9_floorMod_7cf53 19 = .ok (.ireturn, 1) := by decide +kernel
theorem dJ9_max_7cf53_0 : decode cJ9_max_7cf53 0 = .ok (.iload_n 0, 1) := by decide +kernel
theorem dJ9_max_7cf53_1 : decode cJ9_max_7cf53 1 = .ok (.iload_n 1, 1) := by decide +kernel
theorem dJ9_max_7cf53_2 : decode cJ9_max_7cf53 2 = .ok (.if_icmp .lt 7, 3) := by decide +kernel
theorem dJ9_max_7cf53_5 : decode cJ9_max_7cf53 5 = .ok (.iload_n 0, 1) := by decide +kernel
theorem dJ9_max_7cf53_6 : decode cJ9_max_7cf53 6 = .ok (.goto 4, 3) := by decide +kernel
theorem dJ9_max_7cf53_9 : decode cJ9_max_7cf53 9 = .ok (.iload_n 1, 1) := by decide +kernel
theorem dJ9_max_7cf53_10 : decode cJ9_max_7cf53 10 = .ok (.ireturn, 1) := by decide +kernel
theorem dJ9_min_7cf53_0 : decode cJ9_min_7cf53 0 = .ok (.iload_n 0, 1) := by decide +kernel
theorem dJ9_min_7cf53_1 : decode cJ9_min_7cf53 1 = .ok (.iload_n 1, 1) := by decide +kernel
theorem dJ9_min_7cf53_2 : decode cJ9_min_7cf53 2 = .ok (.if_icmp .gt 7, 3) := by decide +kernel
theorem dJ9_min_7cf53_5 : decode cJ9_min_7cf53 5 = .ok (.iload_n 0, 1) := by decide +kernel
theorem dJ9_min_7cf53_6 : decode cJ9_min_7cf53 6 = .ok (.goto 4, 3) := by decide +kernel
theorem dJ9_min_7cf53_9 : decode cJ9_min_7cf53 9 = .ok (.iload_n 1, 1) := by decide +kernel
theorem dJ9_min_7cf53_10 : decode cJ9_min_7cf53 10 = .ok (.ireturn, 1) := by decide +kernel
theorem dJ7_fill_53178_0 : decode cJ7_fill_53178 0 = .ok (.iconst 0, 1) := by decide +kernel
theorem dJ7_fill_53178_1 : decode cJ7_fill_53178 1 = .ok (.istore_n 2, 1) := by decide +kernel
theorem dJ7_fill_53178_2 : decode cJ7_fill_53178 2 = .ok (.aload_n 0, 1) := by decide +kernel
theorem dJ7_fill_53178_3 : decode cJ7_fill_53178 3 = .ok (.arraylength, 1) := by decide +kernel
theorem dJ7_fill_53178_4 : decode cJ7_fill_53178 4 = .ok (.istore_n 3, 1) := by decide +kernel
theorem dJ7_fill_53178_5 : decode cJ7_fill_53178 5 = .ok (.iload_n 2, 1) := by decide +kernel
theorem dJ7_fill_53178_6 : decode cJ7_fill_53178 6 = .ok (.iload_n 3, 1) := by decide +kernel
theorem dJ7_fill_53178_7 : decode cJ7_fill_53178 7 = .ok (.if_icmp .ge 13, 3) := by decide +kernel
theorem dJ7_fill_53178_10 : decode cJ7_fill_53178 10 = .ok (.aload_n 0, 1) := by decide +kernel
theorem dJ7_fill_53178_11 : decode cJ7_fill_53178 11 = .ok (.iload_n 2, 1) := by decide +kernel
theorem dJ7_fill_53178_12 : decode cJ7_fill_53178 12 = .ok (.iload_n 1, 1) := by decide +kernel
theorem dJ7_fill_53178_13 : decode cJ7_fill_53178 13 = .ok (.iastore, 1) := by decide +kernel
theorem dJ7_fill_53178_14 : decode cJ7_fill_53178 14 = .ok (.iinc 2 1, 3) := by decide +kernel
theorem dJ7_fill_53178_17 : decode cJ7_fill_53178 17 = .ok (.goto (-12), 3) := by decide +kernel
theorem dJ7_fill_53178_20 : decode cJ7_fill_53178 20 = .ok (.return_, 1) := by decide +kernel
theorem dJ7_copyOf_59c91_0 : decode cJ7_copyOf_59c91 0 = .ok (.iload_n 1, 1) := by decide +kernel
theorem dJ7_copyOf_59c91_1 : decode cJ7_copyOf_59c91 1 = .ok (.aload_n 0, 1) := by decide +kernel
theorem dJ7_copyOf_59c91_2 : decode cJ7_copyOf_59c91 2 = .ok (.arraylength, 1) := by decide +kernel
theorem dJ7_copyOf_59c91_3 : decode cJ7_copyOf_59c91 3 = .ok (.if_icmp .ne 11, 3) := by decide +kernel
theorem dJ7_copyOf_59c91_6 : decode cJ7_copyOf_59c91 6 = .ok (.aload_n 0, 1) := by decide +kernel
theorem dJ7_copyOf_59c91_7 : decode cJ7_copyOf_59c91 7 = .ok (.invokevirtual 316, 3) := by decide +kernel
theorem dJ7_copyOf_59c91_10 : decode cJ7_copyOf_59c91 10 = .ok (.checkcast 317, 3) := by decide +kernel
theorem dJ7_copyOf_59c91_13 : decode cJ7_copyOf_59c91 13 = .ok (.areturn, 1) := by decide +kernel
theorem dJ7_copyOf_59c91_14 : decode cJ7_copyOf_59c91 14 = .ok (.iload_n 1, 1) := by decide +kernel
theorem dJ7_copyOf_59c91_15 : decode cJ7_copyOf_59c91 15 = .ok (.newarray .int, 2) := by decide +kernel
theorem dJ7_copyOf_59c91_17 : decode cJ7_copyOf_59c91 17 = .ok (.astore_n 2, 1) := by decide +kernel
theorem dJ7_copyOf_59c91_18 : decode cJ7_copyOf_59c91 18 = .ok (.aload_n 0, 1) := by decide +kernel
theorem dJ7_copyOf_59c91_19 : decode cJ7_copyOf_59c91 19 = .ok (.iconst 0, 1) := by decide +kernel
theorem dJ7_copyOf_59c91_20 : decode cJ7_copyOf_59c91 20 = .ok (.aload_n 2, 1) := by decide +kernel
theorem dJ7_copyOf_59c91_21 : decode cJ7_copyOf_59c91 21 = .ok (.iconst 0, 1) := by decide +kernel
theorem dJ7_copyOf_59c91_22 : decode cJ7_copyOf_59c91 22 = .ok (.aload_n 0, 1) := by decide +kernel
theorem dJ7_copyOf_59c91_23 : decode cJ7_copyOf_59c91 23 = .ok (.arraylength, 1) := by decide +kernel
theorem dJ7_copyOf_59c91_24 : decode cJ7_copyOf_59c91 24 = .ok (.iload_n 1, 1) := by decide +kernel
theorem dJ7_copyOf_59c91_25 : decode cJ7_copyOf_59c91 25 = .ok (.invokestatic 304, 3) := by decide +kernel
theorem dJ7_copyOf_59c91_28 : decode cJ7_copyOf_59c91 28 = .ok (.invokestatic 150, 3) := by decide +kernel
theorem dJ7_copyOf_59c91_31 : decode cJ7_copyOf_59c91 31 = .ok (.aload_n 2, 1) := by decide +kernel
theorem dJ7_copyOf_59c91_32 : decode cJ7_copyOf_59c91 32 = .ok (.areturn, 1) := by decide +kernel
theorem dL_cell_0 : decode cL_cell 0 = .ok (.iload_n 1, 1) := by decide +kernel
theorem dL_cell_1 : decode cL_cell 1 = .ok (.aload_n 0, 1) := by decide +kernel
theorem dL_cell_2 : decode cL_cell 2 = .ok (.arraylength, 1) := by decide +kernel
theorem dL_cell_3 : decode cL_cell 3 = .ok (.if_icmp .ge 9, 3) := by decide +kernel
theorem dL_cell_6 : decode cL_cell 6 = .ok (.aload_n 0, 1) := by decide +kernel
theorem dL_cell_7 : decode cL_cell 7 = .ok (.iload_n 1, 1) := by decide +kernel
theorem dL_cell_8 : decode cL_cell 8 = .ok (.iaload, 1) := by decide +kernel
theorem dL_cell_9 : decode cL_cell 9 = .ok (.goto 4, 3) := by decide +kernel
theorem dL_cell_12 : decode cL_cell 12 = .ok (.iconst 0, 1) := by decide +kernel
theorem dL_cell_13 : decode cL_cell 13 = .ok (.ireturn, 1) := by decide +kernel
theorem dL_law_0 : decode cL_law 0 = .ok (.new 7, 3) := by decide +kernel
theorem dL_law_3 : decode cL_law 3 = .ok (.dup, 1) := by decide +kernel
theorem dL_law_4 : decode cL_law 4 = .ok (.aload_n 0, 1) := by decide +kernel
theorem dL_law_5 : decode cL_law 5 = .ok (.iconst 0, 1) := by decide +kernel
theorem dL_law_6 : decode cL_law 6 = .ok (.invokestatic 9, 3) := by decide +kernel
theorem dL_law_9 : decode cL_law 9 = .ok (.invokespecial 15, 3) := by decide +kernel
theorem dL_law_12 : decode cL_law 12 = .ok (.astore_n 1, 1) := by decide +kernel
theorem dL_law_13 : decode cL_law 13 = .ok (.new 18, 3) := by decide +kernel
theorem dL_law_16 : decode cL_law 16 = .ok (.dup, 1) := by decide +kernel
theorem dL_law_17 : decode cL_law 17 = .ok (.aload_n 0, 1) := by decide +kernel
theorem dL_law_18 : decode cL_law 18 = .ok (.iconst 0, 1) := by decide +kernel
theorem dL_law_19 : decode cL_law 19 = .ok (.invokestatic 9, 3) := by decide +kernel
theorem dL_law_22 : decode cL_law 22 = .ok (.invokespecial 20, 3) := by decide +kernel
theorem dL_law_25 : decode cL_law 25 = .ok (.astore_n 2, 1) := by decide +kernel
theorem dL_law_26 : decode cL_law 26 = .ok (.iconst 1, 1) := by decide +kernel
theorem dL_law_27 : decode cL_law 27 = .ok (.istore_n 3, 1) := by decide +kernel
theorem dL_law_28 : decode cL_law 28 = .ok (.iload_n 3, 1) := by decide +kernel
theorem dL_law_29 : decode cL_law 29 = .ok (.aload_n 0, 1) := by decide +kernel
theorem dL_law_30 : decode cL_law 30 = .ok (.arraylength, 1) := by decide +kernel
theorem dL_law_31 : decode cL_law 31 = .ok (.iconst 4, 1) := by decide +kernel
theorem dL_law_32 : decode cL_law 32 = .ok (.isub, 1) := by decide +kernel
theorem dL_law_33 : decode cL_law 33 = .ok (.if_icmp .gt 443, 3) := by decide +kernel
theorem dL_law_36 : decode cL_law 36 = .ok (.aload_n 0, 1) := by decide +kernel
theorem dL_law_37 : decode cL_law 37 = .ok (.iload_n 3, 1) := by decide +kernel
theorem dL_law_38 : decode cL_law 38 = .ok (.iaload, 1) := by decide +kernel
theorem dL_law_39 : decode cL_law 39 = .ok (.bipush 15, 2) := by decide +kernel
theorem dL_law_41 : decode cL_law 41 = .ok (.iand, 1) := by decide +kernel
theorem dL_law_42 : decode cL_law 42 = .ok (.tableswitch 428 0 11 #[62, 95, 128, 161, 184, 207, 240, 273, 296, 329, 362, 405], 62) := by decide +kernel
theorem dL_law_104 : decode cL_law 104 = .ok (.aload_n 1, 1) := by decide +kernel
theorem dL_law_105 : decode cL_law 105 = .ok (.aload_n 0, 1) := by decide +kernel
theorem dL_law_106 : decode cL_law 106 = .ok (.iload_n 3, 1) := by decide +kernel
theorem dL_law_107 : decode cL_law 107 = .ok (.iconst 1, 1) := by decide +kernel
theorem dL_law_108 : decode cL_law 108 = .ok (.iadd, 1) := by decide +kernel
theorem dL_law_109 : decode cL_law 109 = .ok (.iaload, 1) := by decide +kernel
theorem dL_law_110 : decode cL_law 110 = .ok (.aload_n 0, 1) := by decide +kernel
theorem dL_law_111 : decode cL_law 111 = .ok (.iload_n 3, 1) := by decide +kernel
theorem dL_law_112 : decode cL_law 112 = .ok (.iconst 2, 1) := by decide +kernel
theorem dL_law_113 : decode cL_law 113 = .ok (.iadd, 1) := by decide +kernel
theorem dL_law_114 : decode cL_law 114 = .ok (.iaload, 1) := by decide +kernel
theorem dL_law_115 : decode cL_law 115 = .ok (.invokevirtual 21, 3) := by decide +kernel
theorem dL_law_118 : decode cL_law 118 = .ok (.aload_n 2, 1) := by decide +kernel
theorem dL_law_119 : decode cL_law 119 = .ok (.aload_n 0, 1) := by decide +kernel
theorem dL_law_120 : decode cL_law 120 = .ok (.iload_n 3, 1) := by decide +kernel
theorem dL_law_121 : decode cL_law 121 = .ok (.iconst 1, 1) := by decide +kernel
theorem dL_law_122 : decode cL_law 122 = .ok (.iadd, 1) := by decide +kernel
theorem dL_law_123 : decode cL_law 123 = .ok (.iaload, 1) := by decide +kernel
theorem dL_law_124 : decode cL_law 124 = .ok (.aload_n 0, 1) := by decide +kernel
theorem dL_law_125 : decode cL_law 125 = .ok (.iload_n 3, 1) := by decide +kernel
theorem dL_law_126 : decode cL_law 126 = .ok (.iconst 2, 1) := by decide +kernel
theorem dL_law_127 : decode cL_law 127 = .ok (.iadd, 1) := by decide +kernel
theorem dL_law_128 : decode cL_law 128 = .ok (.iaload, 1) := by decide +kernel
theorem dL_law_129 : decode cL_law 129 = .ok (.invokevirtual 25, 3) := by decide +kernel
theorem dL_law_132 : decode cL_law 132 = .ok (.if_icmp .eq 338, 3) := by decide +kernel
theorem dL_law_135 : decode cL_law 135 = .ok (.iconst 0, 1) := by decide +kernel
theorem dL_law_136 : decode cL_law 136 = .ok (.ireturn, 1) := by decide +kernel
theorem dL_law_137 : decode cL_law 137 = .ok (.aload_n 1, 1) := by decide +kernel
theorem dL_law_138 : decode cL_law 138 = .ok (.aload_n 0, 1) := by decide +kernel
theorem dL_law_139 : decode cL_law 139 = .ok (.iload_n 3, 1) := by decide +kernel
theorem dL_law_140 : decode cL_law 140 = .ok (.iconst 1, 1) := by decide +kernel
theorem dL_law_141 : decode cL_law 141 = .ok (.iadd, 1) := by decide +kernel
theorem dL_law_142 : decode cL_law 142 = .ok (.iaload, 1) := by decide +kernel
theorem dL_law_143 : decode cL_law 143 = .ok (.aload_n 0, 1) := by decide +kernel
theorem dL_law_144 : decode cL_law 144 = .ok (.iload_n 3, 1) := by decide +kernel
theorem dL_law_145 : decode cL_law 145 = .ok (.iconst 2, 1) := by decide +kernel
theorem dL_law_146 : decode cL_law 146 = .ok (.iadd, 1) := by decide +kernel
theorem dL_law_147 : decode cL_law 147 = .ok (.iaload, 1) := by decide +kernel
theorem dL_law_148 : decode cL_law 148 = .ok (.invokevirtual 26, 3) := by decide +kernel
theorem dL_law_151 : decode cL_law 151 = .ok (.aload_n 2, 1) := by decide +kernel
theorem dL_law_152 : decode cL_law 152 = .ok (.aload_n 0, 1) := by decide +kernel
theorem dL_law_153 : decode cL_law 153 = .ok (.iload_n 3, 1) := by decide +kernel
theorem dL_law_154 : decode cL_law 154 = .ok (.iconst 1, 1) := by decide +kernel
theorem dL_law_155 : decode cL_law 155 = .ok (.iadd, 1) := by decide +kernel
theorem dL_law_156 : decode cL_law 156 = .ok (.iaload, 1) := by decide +kernel
theorem dL_law_157 : decode cL_law 157 = .ok (.aload_n 0, 1) := by decide +kernel
theorem dL_law_158 : decode cL_law 158 = .ok (.iload_n 3, 1) := by decide +kernel
theorem dL_law_159 : decode cL_law 159 = .ok (.iconst 2, 1) := by decide +kernel
theorem dL_law_160 : decode cL_law 160 = .ok (.iadd, 1) := by decide +kernel
theorem dL_law_161 : decode cL_law 161 = .ok (.iaload, 1) := by decide +kernel
theorem dL_law_162 : decode cL_law 162 = .ok (.invokevirtual 29, 3) := by decide +kernel
theorem dL_law_165 : decode cL_law 165 = .ok (.if_icmp .eq 305, 3) := by decide +kernel
theorem dL_law_168 : decode cL_law 168 = .ok (.iconst 0, 1) := by decide +kernel
theorem dL_law_169 : decode cL_law 169 = .ok (.ireturn, 1) := by decide +kernel
theorem dL_law_170 : decode cL_law 170 = .ok (.aload_n 1, 1) := by decide +kernel
theorem dL_law_171 : decode cL_law 171 = .ok (.aload_n 0, 1) := by decide +kernel
theorem dL_law_172 : decode cL_law 172 = .ok (.iload_n 3, 1) := by decide +kernel
theorem dL_law_173 : decode cL_law 173 = .ok (.iconst 1, 1) := by decide +kernel
theorem dL_law_174 : decode cL_law 174 = .ok (.iadd, 1) := by decide +kernel
theorem dL_law_175 : decode cL_law 175 = .ok (.iaload, 1) := by decide +kernel
theorem dL_law_176 : decode cL_law 176 = .ok (.aload_n 0, 1) := by decide +kernel
theorem dL_law_177 : decode cL_law 177 = .ok (.iload_n 3, 1) := by decide +kernel
theorem dL_law_178 : decode cL_law 178 = .ok (.iconst 2, 1) := by decide +kernel
theorem dL_law_179 : decode cL_law 179 = .ok (.iadd, 1) := by decide +kernel
theorem dL_law_180 : decode cL_law 180 = .ok (.iaload, 1) := by decide +kernel
theorem dL_law_181 : decode cL_law 181 = .ok (.invokevirtual 30, 3) := by decide +kernel
theorem dL_law_184 : decode cL_law 184 = .ok (.aload_n 2, 1) := by decide +kernel
theorem dL_law_185 : decode cL_law 185 = .ok (.aload_n 0, 1) := by decide +kernel
theorem dL_law_186 : decode cL_law 186 = .ok (.iload_n 3, 1) := by decide +kernel
theorem dL_law_187 : decode cL_law 187 = .ok (.iconst 1, 1) := by decide +kernel
theorem dL_law_188 : decode cL_law 188 = .ok (.iadd, 1) := by decide +kernel
theorem dL_law_189 : decode cL_law 189 = .ok (.iaload, 1) := by decide +kernel
theorem dL_law_190 : decode cL_law 190 = .ok (.aload_n 0, 1) := by decide +kernel
theorem dL_law_191 : decode cL_law 191 = .ok (.iload_n 3, 1) := by decide +kernel
theorem dL_law_192 : decode cL_law 192 = .ok (.iconst 2, 1) := by decide +kernel
theorem dL_law_193 : decode cL_law 193 = .ok (.iadd, 1) := by decide +kernel
theorem dL_law_194 : decode cL_law 194 = .ok (.iaload, 1) := by decide +kernel
theorem dL_law_195 : decode cL_law 195 = .ok (.invokevirtual 33, 3) := by decide +kernel
theorem dL_law_198 : decode cL_law 198 = .ok (.if_icmp .eq 272, 3) := by decide +kernel
theorem dL_law_201 : decode cL_law 201 = .ok (.iconst 0, 1) := by decide +kernel
theorem dL_law_202 : decode cL_law 202 = .ok (.ireturn, 1) := by decide +kernel
theorem dL_law_203 : decode cL_law 203 = .ok (.aload_n 1, 1) := by decide +kernel
theorem dL_law_204 : decode cL_law 204 = .ok (.aload_n 0, 1) := by decide +kernel
theorem dL_law_205 : decode cL_law 205 = .ok (.iload_n 3, 1) := by decide +kernel
theorem dL_law_206 : decode cL_law 206 = .ok (.iconst 1, 1) := by decide +kernel
theorem dL_law_207 : decode cL_law 207 = .ok (.iadd, 1) := by decide +kernel
theorem dL_law_208 : decode cL_law 208 = .ok (.iaload, 1) := by decide +kernel
theorem dL_law_209 : decode cL_law 209 = .ok (.invokevirtual 34, 3) := by decide +kernel
theorem dL_law_212 : decode cL_law 212 = .ok (.aload_n 2, 1) := by decide +kernel
theorem dL_law_213 : decode cL_law 213 = .ok (.aload_n 0, 1) := by decide +kernel
theorem dL_law_214 : decode cL_law 214 = .ok (.iload_n 3, 1) := by decide +kernel
theorem dL_law_215 : decode cL_law 215 = .ok (.iconst 1, 1) := by decide +kernel
theorem dL_law_216 : decode cL_law 216 = .ok (.iadd, 1) := by decide +kernel
theorem dL_law_217 : decode cL_law 217 = .ok (.iaload, 1) := by decide +kernel
theorem dL_law_218 : decode cL_law 218 = .ok (.invokevirtual 38, 3) := by decide +kernel
theorem dL_law_221 : decode cL_law 221 = .ok (.if_icmp .eq 249, 3) := by decide +kernel
theorem dL_law_224 : decode cL_law 224 = .ok (.iconst 0, 1) := by decide +kernel
theorem dL_law_225 : decode cL_law 225 = .ok (.ireturn, 1) := by decide +kernel
theorem dL_law_226 : decode cL_law 226 = .ok (.aload_n 1, 1) := by decide +kernel
theorem dL_law_227 : decode cL_law 227 = .ok (.aload_n 0, 1) := by decide +kernel
theorem dL_law_228 : decode cL_law 228 = .ok (.iload_n 3, 1) := by decide +kernel
theorem dL_law_229 : decode cL_law 229 = .ok (.iconst 1, 1) := by decide +kernel
theorem dL_law_230 : decode cL_law 230 = .ok (.iadd, 1) := by decide +kernel
theorem dL_law_231 : decode cL_law 231 = .ok (.iaload, 1) := by decide +kernel
theorem dL_law_232 : decode cL_law 232 = .ok (.invokevirtual 39, 3) := by decide +kernel
theorem dL_law_235 : decode cL_law 235 = .ok (.aload_n 2, 1) := by decide +kernel
theorem dL_law_236 : decode cL_law 236 = .ok (.aload_n 0, 1) := by decide +kernel
theorem dL_law_237 : decode cL_law 237 = .ok (.iload_n 3, 1) := by decide +kernel
theorem dL_law_238 : decode cL_law 238 = .ok (.iconst 1, 1) := by decide +kernel
theorem dL_law_239 : decode cL_law 239 = .ok (.iadd, 1) := by decide +kernel
theorem dL_law_240 : decode cL_law 240 = .ok (.iaload, 1) := by decide +kernel
theorem dL_law_241 : decode cL_law 241 = .ok (.invokevirtual 43, 3) := by decide +kernel
theorem dL_law_244 : decode cL_law 244 = .ok (.if_icmp .eq 226, 3) := by decide +kernel
theorem dL_law_247 : decode cL_law 247 = .ok (.iconst 0, 1) := by decide +kernel
theorem dL_law_248 : decode cL_law 248 = .ok (.ireturn, 1) := by decide +kernel
theorem dL_law_249 : decode cL_law 249 = .ok (.aload_n 1, 1) := by decide +kernel
theorem dL_law_250 : decode cL_law 250 = .ok (.aload_n 0, 1) := by decide +kernel
theorem dL_law_251 : decode cL_law 251 = .ok (.iload_n 3, 1) := by decide +kernel
theorem dL_law_252 : decode cL_law 252 = .ok (.iconst 1, 1) := by decide +kernel
theorem dL_law_253 : decode cL_law 253 = .ok (.iadd, 1) := by decide +kernel
theorem dL_law_254 : decode cL_law 254 = .ok (.iaload, 1) := by decide +kernel
theorem dL_law_255 : decode cL_law 255 = .ok (.aload_n 0, 1) := by decide +kernel
theorem dL_law_256 : decode cL_law 256 = .ok (.iload_n 3, 1) := by decide +kernel
theorem dL_law_257 : decode cL_law 257 = .ok (.iconst 2, 1) := by decide +kernel
theorem dL_law_258 : decode cL_law 258 = .ok (.iadd, 1) := by decide +kernel
theorem dL_law_259 : decode cL_law 259 = .ok (.iaload, 1) := by decide +kernel
theorem dL_law_260 : decode cL_law 260 = .ok (.invokevirtual 44, 3) := by decide +kernel
theorem dL_law_263 : decode cL_law 263 = .ok (.aload_n 2, 1) := by decide +kernel
theorem dL_law_264 : decode cL_law 264 = .ok (.aload_n 0, 1) := by decide +kernel
theorem dL_law_265 : decode cL_law 265 = .ok (.iload_n 3, 1) := by decide +kernel
theorem dL_law_266 : decode cL_law 266 = .ok (.iconst 1, 1) := by decide +kernel
theorem dL_law_267 : decode cL_law 267 = .ok (.iadd, 1) := by decide +kernel
theorem dL_law_268 : decode cL_law 268 = .ok (.iaload, 1) := by decide +kernel
theorem dL_law_269 : decode cL_law 269 = .ok (.aload_n 0, 1) := by decide +kernel
theorem dL_law_270 : decode cL_law 270 = .ok (.iload_n 3, 1) := by decide +kernel
theorem dL_law_271 : decode cL_law 271 = .ok (.iconst 2, 1) := by decide +kernel
theorem dL_law_272 : decode cL_law 272 = .ok (.iadd, 1) := by decide +kernel
theorem dL_law_273 : decode cL_law 273 = .ok (.iaload, 1) := by decide +kernel
theorem dL_law_274 : decode cL_law 274 = .ok (.invokevirtual 47, 3) := by decide +kernel
theorem dL_law_277 : decode cL_law 277 = .ok (.if_icmp .eq 193, 3) := by decide +kernel
theorem dL_law_280 : decode cL_law 280 = .ok (.iconst 0, 1) := by decide +kernel
theorem dL_law_281 : decode cL_law 281 = .ok (.ireturn, 1) := by decide +kernel
theorem dL_law_282 : decode cL_law 282 = .ok (.aload_n 1, 1) := by decide +kernel
theorem dL_law_283 : decode cL_law 283 = .ok (.aload_n 0, 1) := by decide +kernel
theorem dL_law_284 : decode cL_law 284 = .ok (.iload_n 3, 1) := by decide +kernel
theorem dL_law_285 : decode cL_law 285 = .ok (.iconst 1, 1) := by decide +kernel
theorem dL_law_286 : decode cL_law 286 = .ok (.iadd, 1) := by decide +kernel
theorem dL_law_287 : decode cL_law 287 = .ok (.iaload, 1) := by decide +kernel
theorem dL_law_288 : decode cL_law 288 = .ok (.aload_n 0, 1) := by decide +kernel
theorem dL_law_289 : decode cL_law 289 = .ok (.iload_n 3, 1) := by decide +kernel
theorem dL_law_290 : decode cL_law 290 = .ok (.iconst 2, 1) := by decide +kernel
theorem dL_law_291 : decode cL_law 291 = .ok (.iadd, 1) := by decide +kernel
theorem dL_law_292 : decode cL_law 292 = .ok (.iaload, 1) := by decide +kernel
theorem dL_law_293 : decode cL_law 293 = .ok (.invokevirtual 48, 3) := by decide +kernel
theorem dL_law_296 : decode cL_law 296 = .ok (.aload_n 2, 1) := by decide +kernel
theorem dL_law_297 : decode cL_law 297 = .ok (.aload_n 0, 1) := by decide +kernel
theorem dL_law_298 : decode cL_law 298 = .ok (.iload_n 3, 1) := by decide +kernel
theorem dL_law_299 : decode cL_law 299 = .ok (.iconst 1, 1) := by decide +kernel
theorem dL_law_300 : decode cL_law 300 = .ok (.iadd, 1) := by decide +kernel
end
section
theorem dL_law_301 : decode cL_law 301 = .ok (.iaload, 1) := by decide +kernel
theorem dL_law_302 : decode cL_law 302 = .ok (.aload_n 0, 1) := by decide +kernel
theorem dL_law_303 : decode cL_law 303 = .ok (.iload_n 3, 1) := by decide +kernel
theorem dL_law_304 : decode cL_law 304 = .ok (.iconst 2, 1) := by decide +kernel
theorem dL_law_305 : decode cL_law 305 = .ok (.iadd, 1) := by decide +kernel
theorem dL_law_306 : decode cL_law 306 = .ok (.iaload, 1) := by decide +kernel
theorem dL_law_307 : decode cL_law 307 = .ok (.invokevirtual 51, 3) := by decide +kernel
theorem dL_law_310 : decode cL_law 310 = .ok (.if_icmp .eq 160, 3) := by decide +kernel
theorem dL_law_313 : decode cL_law 313 = .ok (.iconst 0, 1) := by decide +kernel
theorem dL_law_314 : decode cL_law 314 = .ok (.ireturn, 1) := by decide +kernel
theorem dL_law_315 : decode cL_law 315 = .ok (.aload_n 1, 1) := by decide +kernel
theorem dL_law_316 : decode cL_law 316 = .ok (.aload_n 0, 1) := by decide +kernel
theorem dL_law_317 : decode cL_law 317 = .ok (.iload_n 3, 1) := by decide +kernel
theorem dL_law_318 : decode cL_law 318 = .ok (.iconst 1, 1) := by decide +kernel
theorem dL_law_319 : decode cL_law 319 = .ok (.iadd, 1) := by decide +kernel
theorem dL_law_320 : decode cL_law 320 = .ok (.iaload, 1) := by decide +kernel
theorem dL_law_321 : decode cL_law 321 = .ok (.invokevirtual 52, 3) := by decide +kernel
theorem dL_law_324 : decode cL_law 324 = .ok (.aload_n 2, 1) := by decide +kernel
theorem dL_law_325 : decode cL_law 325 = .ok (.aload_n 0, 1) := by decide +kernel
theorem dL_law_326 : decode cL_law 326 = .ok (.iload_n 3, 1) := by decide +kernel
theorem dL_law_327 : decode cL_law 327 = .ok (.iconst 1, 1) := by decide +kernel
theorem dL_law_328 : decode cL_law 328 = .ok (.iadd, 1) := by decide +kernel
theorem dL_law_329 : decode cL_law 329 = .ok (.iaload, 1) := by decide +kernel
theorem dL_law_330 : decode cL_law 330 = .ok (.invokevirtual 55, 3) := by decide +kernel
theorem dL_law_333 : decode cL_law 333 = .ok (.if_icmp .eq 137, 3) := by decide +kernel
theorem dL_law_336 : decode cL_law 336 = .ok (.iconst 0, 1) := by decide +kernel
theorem dL_law_337 : decode cL_law 337 = .ok (.ireturn, 1) := by decide +kernel
theorem dL_law_338 : decode cL_law 338 = .ok (.aload_n 1, 1) := by decide +kernel
theorem dL_law_339 : decode cL_law 339 = .ok (.aload_n 0, 1) := by decide +kernel
theorem dL_law_340 : decode cL_law 340 = .ok (.iload_n 3, 1) := by decide +kernel
theorem dL_law_341 : decode cL_law 341 = .ok (.iconst 1, 1) := by decide +kernel
theorem dL_law_342 : decode cL_law 342 = .ok (.iadd, 1) := by decide +kernel
theorem dL_law_343 : decode cL_law 343 = .ok (.iaload, 1) := by decide +kernel
theorem dL_law_344 : decode cL_law 344 = .ok (.aload_n 0, 1) := by decide +kernel
theorem dL_law_345 : decode cL_law 345 = .ok (.iload_n 3, 1) := by decide +kernel
theorem dL_law_346 : decode cL_law 346 = .ok (.iconst 2, 1) := by decide +kernel
theorem dL_law_347 : decode cL_law 347 = .ok (.iadd, 1) := by decide +kernel
theorem dL_law_348 : decode cL_law 348 = .ok (.iaload, 1) := by decide +kernel
theorem dL_law_349 : decode cL_law 349 = .ok (.invokevirtual 56, 3) := by decide +kernel
theorem dL_law_352 : decode cL_law 352 = .ok (.aload_n 2, 1) := by decide +kernel
theorem dL_law_353 : decode cL_law 353 = .ok (.aload_n 0, 1) := by decide +kernel
theorem dL_law_354 : decode cL_law 354 = .ok (.iload_n 3, 1) := by decide +kernel
theorem dL_law_355 : decode cL_law 355 = .ok (.iconst 1, 1) := by decide +kernel
theorem dL_law_356 : decode cL_law 356 = .ok (.iadd, 1) := by decide +kernel
theorem dL_law_357 : decode cL_law 357 = .ok (.iaload, 1) := by decide +kernel
theorem dL_law_358 : decode cL_law 358 = .ok (.aload_n 0, 1) := by decide +kernel
theorem dL_law_359 : decode cL_law 359 = .ok (.iload_n 3, 1) := by decide +kernel
theorem dL_law_360 : decode cL_law 360 = .ok (.iconst 2, 1) := by decide +kernel
theorem dL_law_361 : decode cL_law 361 = .ok (.iadd, 1) := by decide +kernel
theorem dL_law_362 : decode cL_law 362 = .ok (.iaload, 1) := by decide +kernel
theorem dL_law_363 : decode cL_law 363 = .ok (.invokevirtual 59, 3) := by decide +kernel
theorem dL_law_366 : decode cL_law 366 = .ok (.if_icmp .eq 104, 3) := by decide +kernel
theorem dL_law_369 : decode cL_law 369 = .ok (.iconst 0, 1) := by decide +kernel
theorem dL_law_370 : decode cL_law 370 = .ok (.ireturn, 1) := by decide +kernel
theorem dL_law_371 : decode cL_law 371 = .ok (.aload_n 1, 1) := by decide +kernel
theorem dL_law_372 : decode cL_law 372 = .ok (.aload_n 0, 1) := by decide +kernel
theorem dL_law_373 : decode cL_law 373 = .ok (.iload_n 3, 1) := by decide +kernel
theorem dL_law_374 : decode cL_law 374 = .ok (.iconst 1, 1) := by decide +kernel
theorem dL_law_375 : decode cL_law 375 = .ok (.iadd, 1) := by decide +kernel
theorem dL_law_376 : decode cL_law 376 = .ok (.iaload, 1) := by decide +kernel
theorem dL_law_377 : decode cL_law 377 = .ok (.aload_n 0, 1) := by decide +kernel
theorem dL_law_378 : decode cL_law 378 = .ok (.iload_n 3, 1) := by decide +kernel
theorem dL_law_379 : decode cL_law 379 = .ok (.iconst 2, 1) := by decide +kernel
theorem dL_law_380 : decode cL_law 380 = .ok (.iadd, 1) := by decide +kernel
theorem dL_law_381 : decode cL_law 381 = .ok (.iaload, 1) := by decide +kernel
theorem dL_law_382 : decode cL_law 382 = .ok (.invokevirtual 60, 3) := by decide +kernel
theorem dL_law_385 : decode cL_law 385 = .ok (.aload_n 2, 1) := by decide +kernel
theorem dL_law_386 : decode cL_law 386 = .ok (.aload_n 0, 1) := by decide +kernel
theorem dL_law_387 : decode cL_law 387 = .ok (.iload_n 3, 1) := by decide +kernel
theorem dL_law_388 : decode cL_law 388 = .ok (.iconst 1, 1) := by decide +kernel
theorem dL_law_389 : decode cL_law 389 = .ok (.iadd, 1) := by decide +kernel
theorem dL_law_390 : decode cL_law 390 = .ok (.iaload, 1) := by decide +kernel
theorem dL_law_391 : decode cL_law 391 = .ok (.aload_n 0, 1) := by decide +kernel
theorem dL_law_392 : decode cL_law 392 = .ok (.iload_n 3, 1) := by decide +kernel
theorem dL_law_393 : decode cL_law 393 = .ok (.iconst 2, 1) := by decide +kernel
theorem dL_law_394 : decode cL_law 394 = .ok (.iadd, 1) := by decide +kernel
theorem dL_law_395 : decode cL_law 395 = .ok (.iaload, 1) := by decide +kernel
theorem dL_law_396 : decode cL_law 396 = .ok (.invokevirtual 63, 3) := by decide +kernel
theorem dL_law_399 : decode cL_law 399 = .ok (.if_icmp .eq 71, 3) := by decide +kernel
theorem dL_law_402 : decode cL_law 402 = .ok (.iconst 0, 1) := by decide +kernel
theorem dL_law_403 : decode cL_law 403 = .ok (.ireturn, 1) := by decide +kernel
theorem dL_law_404 : decode cL_law 404 = .ok (.aload_n 1, 1) := by decide +kernel
theorem dL_law_405 : decode cL_law 405 = .ok (.aload_n 0, 1) := by decide +kernel
theorem dL_law_406 : decode cL_law 406 = .ok (.iload_n 3, 1) := by decide +kernel
theorem dL_law_407 : decode cL_law 407 = .ok (.iconst 1, 1) := by decide +kernel
theorem dL_law_408 : decode cL_law 408 = .ok (.iadd, 1) := by decide +kernel
theorem dL_law_409 : decode cL_law 409 = .ok (.iaload, 1) := by decide +kernel
theorem dL_law_410 : decode cL_law 410 = .ok (.aload_n 0, 1) := by decide +kernel
theorem dL_law_411 : decode cL_law 411 = .ok (.iload_n 3, 1) := by decide +kernel
theorem dL_law_412 : decode cL_law 412 = .ok (.iconst 2, 1) := by decide +kernel
theorem dL_law_413 : decode cL_law 413 = .ok (.iadd, 1) := by decide +kernel
theorem dL_law_414 : decode cL_law 414 = .ok (.iaload, 1) := by decide +kernel
theorem dL_law_415 : decode cL_law 415 = .ok (.aload_n 0, 1) := by decide +kernel
theorem dL_law_416 : decode cL_law 416 = .ok (.iload_n 3, 1) := by decide +kernel
theorem dL_law_417 : decode cL_law 417 = .ok (.iconst 3, 1) := by decide +kernel
theorem dL_law_418 : decode cL_law 418 = .ok (.iadd, 1) := by decide +kernel
theorem dL_law_419 : decode cL_law 419 = .ok (.iaload, 1) := by decide +kernel
theorem dL_law_420 : decode cL_law 420 = .ok (.invokevirtual 64, 3) := by decide +kernel
theorem dL_law_423 : decode cL_law 423 = .ok (.aload_n 2, 1) := by decide +kernel
theorem dL_law_424 : decode cL_law 424 = .ok (.aload_n 0, 1) := by decide +kernel
theorem dL_law_425 : decode cL_law 425 = .ok (.iload_n 3, 1) := by decide +kernel
theorem dL_law_426 : decode cL_law 426 = .ok (.iconst 1, 1) := by decide +kernel
theorem dL_law_427 : decode cL_law 427 = .ok (.iadd, 1) := by decide +kernel
theorem dL_law_428 : decode cL_law 428 = .ok (.iaload, 1) := by decide +kernel
theorem dL_law_429 : decode cL_law 429 = .ok (.aload_n 0, 1) := by decide +kernel
theorem dL_law_430 : decode cL_law 430 = .ok (.iload_n 3, 1) := by decide +kernel
theorem dL_law_431 : decode cL_law 431 = .ok (.iconst 2, 1) := by decide +kernel
theorem dL_law_432 : decode cL_law 432 = .ok (.iadd, 1) := by decide +kernel
theorem dL_law_433 : decode cL_law 433 = .ok (.iaload, 1) := by decide +kernel
theorem dL_law_434 : decode cL_law 434 = .ok (.aload_n 0, 1) := by decide +kernel
theorem dL_law_435 : decode cL_law 435 = .ok (.iload_n 3, 1) := by decide +kernel
theorem dL_law_436 : decode cL_law 436 = .ok (.iconst 3, 1) := by decide +kernel
theorem dL_law_437 : decode cL_law 437 = .ok (.iadd, 1) := by decide +kernel
theorem dL_law_438 : decode cL_law 438 = .ok (.iaload, 1) := by decide +kernel
theorem dL_law_439 : decode cL_law 439 = .ok (.invokevirtual 68, 3) := by decide +kernel
theorem dL_law_442 : decode cL_law 442 = .ok (.if_icmp .eq 28, 3) := by decide +kernel
theorem dL_law_445 : decode cL_law 445 = .ok (.iconst 0, 1) := by decide +kernel
theorem dL_law_446 : decode cL_law 446 = .ok (.ireturn, 1) := by decide +kernel
theorem dL_law_447 : decode cL_law 447 = .ok (.aload_n 1, 1) := by decide +kernel
theorem dL_law_448 : decode cL_law 448 = .ok (.aload_n 0, 1) := by decide +kernel
theorem dL_law_449 : decode cL_law 449 = .ok (.iload_n 3, 1) := by decide +kernel
theorem dL_law_450 : decode cL_law 450 = .ok (.iconst 1, 1) := by decide +kernel
theorem dL_law_451 : decode cL_law 451 = .ok (.iadd, 1) := by decide +kernel
theorem dL_law_452 : decode cL_law 452 = .ok (.iaload, 1) := by decide +kernel
theorem dL_law_453 : decode cL_law 453 = .ok (.invokevirtual 69, 3) := by decide +kernel
theorem dL_law_456 : decode cL_law 456 = .ok (.aload_n 2, 1) := by decide +kernel
theorem dL_law_457 : decode cL_law 457 = .ok (.aload_n 0, 1) := by decide +kernel
theorem dL_law_458 : decode cL_law 458 = .ok (.iload_n 3, 1) := by decide +kernel
theorem dL_law_459 : decode cL_law 459 = .ok (.iconst 1, 1) := by decide +kernel
theorem dL_law_460 : decode cL_law 460 = .ok (.iadd, 1) := by decide +kernel
theorem dL_law_461 : decode cL_law 461 = .ok (.iaload, 1) := by decide +kernel
theorem dL_law_462 : decode cL_law 462 = .ok (.invokevirtual 72, 3) := by decide +kernel
theorem dL_law_465 : decode cL_law 465 = .ok (.if_icmp .eq 5, 3) := by decide +kernel
theorem dL_law_468 : decode cL_law 468 = .ok (.iconst 0, 1) := by decide +kernel
theorem dL_law_469 : decode cL_law 469 = .ok (.ireturn, 1) := by decide +kernel
theorem dL_law_470 : decode cL_law 470 = .ok (.iinc 3 4, 3) := by decide +kernel
theorem dL_law_473 : decode cL_law 473 = .ok (.goto (-445), 3) := by decide +kernel
theorem dL_law_476 : decode cL_law 476 = .ok (.iconst 1, 1) := by decide +kernel
theorem dL_law_477 : decode cL_law 477 = .ok (.ireturn, 1) := by decide +kernel
end
section
/-! abstract cells and heaps: a heap is how many cells there are (addresses 1, 2, ..) and what each holds; address 0 is the static array NO_ACTS -/
abbrev HC : Type := (Nat × vp_A) ⊕ (Nat × List Value)
abbrev HP : Type := Nat × (Nat → HC)
abbrev EV : Type := va_G × (Nat → ClassId) × (Nat → Nat)
def hz_ty : Nat → FieldType := fun t => match t with
  | 0 => .int
  | 1 => .boolean
  | 2 => .object "GroupCast$Channel"
  | _ => .object "GroupCast$Node"
abbrev hz_tys (E : EV) : List (ClassId × FieldType) := [(E.2.1 0, hz_ty 0), (E.2.1 1, hz_ty 1), (E.2.1 2, hz_ty 2), (E.2.1 3, hz_ty 3)]
def hz_v (E : EV) (v : Value) : Value := match v with
  | .ref a => .ref (E.2.2 a)
  | .int x => .int x
  | .null => .null
  | w => w
def hz_A (E : EV) (a : vp_A) : vp_A := (a.1, match a.2 with
  | .inr (.inr (.inr (.inr f))) => .inr (.inr (.inr (.inr (fun j => (f j).map E.2.2))))
  | w => w)
def hz_C (E : EV) (c : HC) : va_E := match c with
  | .inl a => .inl (E.2.1 a.1, hz_A E a.2)
  | .inr o => .inr (o.1, o.2.map (hz_v E))
def hz_w (E : EV) (h : HP) : va_W := (List.range h.1).map fun k => (E.2.2 (k + 1), hz_C E (h.2 (k + 1)))
theorem hz_vi (E : EV) (x : Int32) : hz_v E (.int x) = .int x := rfl
theorem hz_vr (E : EV) (r : Option Nat) : hz_v E (va_rf r) = va_rf (r.map E.2.2) := by cases r <;> rfl
theorem hz_vc (E : EV) (v : Value) : (hz_v E v).category = v.category := by cases v <;> rfl
theorem hz_cr (r : Option Nat) : (va_rf r).category = 1 := by cases r <;> rfl
theorem hz_wget {E : EV} {h : HP} {a : Nat} (h1 : 1 ≤ a) (h2 : a ≤ h.1) : (hz_w E h)[a - 1]? = some (E.2.2 a, hz_C E (h.2 a)) := by
  unfold hz_w
  rw [List.getElem?_map, List.getElem?_range (by omega)]
  simp only [Option.map_some, Nat.sub_add_cancel h1]
theorem hz_wlen {E : EV} {h : HP} : (hz_w E h).length = h.1 := by simp [hz_w]
theorem hz_wof {E : EV} {h : HP} {k : Nat} {q : Nat × va_E} (hq : (hz_w E h)[k]? = some q) : k < h.1 ∧ q = (E.2.2 (k + 1), hz_C E (h.2 (k + 1))) := by
  have hk : k < (hz_w E h).length := (List.getElem?_eq_some_iff.mp hq).1
  rw [hz_wlen] at hk
  have := hz_wget (E := E) (h := h) (a := k + 1) (by omega) (by omega)
  rw [Nat.add_sub_cancel, hq] at this
  exact ⟨hk, Option.some.inj this⟩
theorem hz_wset {E : EV} {h : HP} {a : Nat} (c : HC) (h1 : 1 ≤ a) (h2 : a ≤ h.1) : hz_w E (h.1, va_up h.2 a c) = (hz_w E h).set (a - 1) (E.2.2 a, hz_C E c) := by
  apply List.ext_getElem?
  intro k
  rw [List.getElem?_set]
  by_cases hk : k < h.1
  · have e1 := hz_wget (E := E) (h := (h.1, va_up h.2 a c)) (a := k + 1) (by omega) (by show k + 1 ≤ h.1; omega)
    have e2 := hz_wget (E := E) (h := h) (a := k + 1) (by omega) (by omega)
    rw [Nat.add_sub_cancel] at e1 e2
    rw [e1, e2, hz_wlen]
    by_cases hka : a - 1 = k
    · have : k + 1 = a := by omega
      subst this
      simp [va_up, hk]
    · have : ¬ k + 1 = a := by omega
      simp [va_up, this, hka]
  · have e1 : (hz_w E (h.1, va_up h.2 a c))[k]? = none := List.getElem?_eq_none (by rw [hz_wlen]; show h.1 ≤ k; omega)
    have e2 : (hz_w E h)[k]? = none := List.getElem?_eq_none (by rw [hz_wlen]; omega)
    rw [e1, e2]
    have : ¬ a - 1 = k := by omega
    simp [this]
theorem hz_wpush {E : EV} {h : HP} (c : HC) : hz_w E (h.1 + 1, va_up h.2 (h.1 + 1) c) = hz_w E h ++ [(E.2.2 (h.1 + 1), hz_C E c)] := by
  unfold hz_w
  rw [List.range_succ, List.map_append]
  congr 1
  · apply List.map_congr_left
    intro k hk
    have : k < h.1 := List.mem_range.mp hk
    have : ¬ k = h.1 := by omega
    simp [va_up, this]
  · simp [va_up]
def hz_In (E : EV) : Prop := ∀ i j : Nat, 1 ≤ i → 1 ≤ j → E.2.2 i = E.2.2 j → i = j
def hz_R (E : EV) : Nat → Prop := fun q => ∃ k : Nat, 1 ≤ k ∧ q = E.2.2 k
theorem hz_wD {E : EV} {h : HP} (hi : hz_In E) : va_D (hz_R E) (hz_w E h) := by
  refine ⟨fun i j p q hp hq e => ?_, fun k q hq => ?_⟩
  · obtain ⟨-, rfl⟩ := hz_wof hp
    obtain ⟨-, rfl⟩ := hz_wof hq
    have := hi (i + 1) (j + 1) (by omega) (by omega) e
    omega
  · obtain ⟨-, rfl⟩ := hz_wof hq
    exact ⟨k + 1, by omega, rfl⟩
/-- the heap holds the world, and what comes next is told -/
def hz_W (E : EV) (h : HP) (H : Heap) : Prop := va_P E.1 vwCl (hz_w E h) H ∧ ∀ k : Nat, h.1 < k → E.2.2 k = H.size + (k - h.1 - 1)
theorem hz_Wset {E : EV} {h : HP} {H H1 : Heap} {a : Nat} {c : HC} (hW : hz_W E h H) (h1 : 1 ≤ a) (h2 : a ≤ h.1) (hP : va_P E.1 vwCl ((hz_w E h).set (a - 1) (E.2.2 a, hz_C E c)) H1) (hz : H1.size = H.size) : hz_W E (h.1, va_up h.2 a c) H1 :=
  ⟨by rw [hz_wset c h1 h2]; exact hP, fun k hk => by rw [hz]; exact hW.2 k hk⟩
theorem hz_all {E : EV} {h : HP} {H : Heap} (hW : hz_W E h H) : ∀ q : Nat, H.size ≤ q → hz_R E q := fun q hq => ⟨h.1 + 1 + (q - H.size), by omega, by rw [hW.2 _ (by omega)]; omega⟩
def hz_isN : Cond → Bool := fun w => match w with
  | .fieldLinkNest .. => true
  | .methodLinkNest .. => true
  | .castable .. => true
  | _ => false
def hz_N : List Cond := lw_tbl.filter hz_isN
def hz_T : List Cond := lw_tbl.filter goodWord
theorem hz_T_good : hz_T.all goodWord = true := by
  unfold hz_T
  rw [List.all_eq_true]
  intro w hw
  exact (List.mem_filter.mp hw).2
theorem hz_Nw {w : Cond} (hw : w ∈ hz_N) {s U : State} (hW : s.WarmedH U.vm) (h : va_Nw w s) : va_Nw w U := by
  have hi : hz_isN w = true := (List.mem_filter.mp hw).2
  unfold hz_isN at hi
  split at hi
  · exact va_Nw.warmF hW h
  · exact va_Nw.warmM hW h
  · exact va_Nw.warmC hW h
  · cases hi
theorem hz_Ns {w : Cond} (hw : w ∈ hz_N) {s U : State} (hv : s.vm = U.vm) (h : va_Nw w s) : va_Nw w U := by
  have hi : hz_isN w = true := (List.mem_filter.mp hw).2
  unfold hz_isN at hi
  split at hi
  · exact va_Nw.same rfl hv h
  · exact va_Nw.same rfl hv h
  · exact va_Nw.same rfl hv h
  · cases hi
/-- what is known of the tables and of what lies outside -/
def hz_K (E : EV) (U : State) : Prop := hz_In E ∧ va_K E.1 vwCl (hz_tys E) U ∧ (∀ w ∈ hz_N, va_Nw w U) ∧ va_Z "GroupCast" "NO_ACTS" "[I" (.ref (E.2.2 0)) (hz_R E) U U.heap ∧ va_T .int (E.2.2 0) 0 (fun _ => .int 0) (hz_R E) U U.heap ∧ va_AO "GroupCast$Channel" U ∧ va_AO "GroupCast$Node" U
theorem hz_Kmove {E : EV} {s U : State} (h : hz_K E s) (hW : s.WarmedH U.vm) {locs : List Loc} (hS : va_S (hz_R E) s.heap U.heap locs) : hz_K E U := by
  obtain ⟨h1, h2, h3, h4, h5, h6, h7⟩ := h
  have kp : ∀ a : Nat, a < s.heap.size → ¬ hz_R E a → U.heap[a]? = s.heap[a]? := hS.2.1
  exact ⟨h1, va_K.moved hW.alike h2, fun w hw => hz_Nw hw hW (h3 w hw), va_Z.moved hW.alike (va_Z.kept h4 kp), va_T.moved hW.alike (va_T.kept h5 kp), va_AO.moved hW.alike h6, va_AO.moved hW.alike h7⟩
theorem hz_Kcall {E : EV} {U V : State} (h : hz_K E U) (hh : V.heap = U.heap) (hv : V.vm = U.vm) : hz_K E V := by
  obtain ⟨h1, h2, h3, h4, h5, h6, h7⟩ := h
  have al : U.vm.Alike V.vm := by rw [hv]; exact Vm.Alike.refl U.vm
  exact ⟨h1, va_K.moved al h2, fun w hw => hz_Ns hw hv.symm (h3 w hw), by rw [hh]; exact va_Z.moved al h4, by rw [hh]; exact va_T.moved al h5, va_AO.moved al h6, va_AO.moved al h7⟩
end
section
/-! what instructions do to abstract heaps: functions that answer none where the machine would throw -/
def hz_gF (h : HP) (r : Option Nat) (ci k : Nat) : Option Value := match r with
  | none => none
  | some a => if 1 ≤ a ∧ a ≤ h.1 then (match h.2 a with
    | .inr o => if o.1 = ci then o.2[k]? else none
    | .inl _ => none) else none
def hz_oI (v : Option Value) : Option Int32 := match v with
  | some (.int x) => some x
  | _ => none
def hz_oR (v : Option Value) : Option (Option Nat) := match v with
  | some .null => some none
  | some (.ref a) => some (some a)
  | _ => none
def hz_gI (h : HP) (r : Option Nat) (ci k : Nat) : Option Int32 := hz_oI (hz_gF h r ci k)
def hz_gR (h : HP) (r : Option Nat) (ci k : Nat) : Option (Option Nat) := hz_oR (hz_gF h r ci k)
def hz_pF (h : HP) (r : Option Nat) (ci k : Nat) (v : Value) : Option HP := match r with
  | none => none
  | some a => if 1 ≤ a ∧ a ≤ h.1 then (match h.2 a with
    | .inr o => if o.1 = ci ∧ k < o.2.length then some (h.1, va_up h.2 a (.inr (ci, o.2.set k v))) else none
    | .inl _ => none) else none
/-- an object of the class is there -/
def hz_ob (h : HP) (r : Option Nat) (ci : Nat) : Bool := match r with
  | none => false
  | some a => if 1 ≤ a ∧ a ≤ h.1 then (match h.2 a with
    | .inr o => decide (o.1 = ci)
    | .inl _ => false) else false
def hz_aL (h : HP) (r : Option Nat) : Option Int32 := match r with
  | none => none
  | some a => if a = 0 then some 0 else if a ≤ h.1 then (match h.2 a with
    | .inl x => if x.1 < 4 then some (Int32.ofNat x.2.1) else none
    | .inr _ => none) else none
/-- an array of ints (t = 0) or booleans (t = 1) -/
def hz_ar (h : HP) (r : Option Nat) (t : Nat) : Option (Nat × (Nat → Int32)) := match r with
  | none => none
  | some a => if 1 ≤ a ∧ a ≤ h.1 then (match h.2 a with
    | .inl x => if x.1 = t then (match x.2.2 with
      | .inl f => some (x.2.1, f)
      | .inr _ => none) else none
    | .inr _ => none) else none
def hz_aI (h : HP) (r : Option Nat) (t : Nat) (i : Int32) : Option Int32 := match hz_ar h r t with
  | none => none
  | some x => if 0 ≤ i ∧ i.toNatClampNeg < x.1 then some (x.2 i.toNatClampNeg) else none
def hz_nar (t : Nat) (x : Int32) : Int32 := if t = 1 then x &&& 1 else x
def hz_pA (h : HP) (r : Option Nat) (t : Nat) (n : Nat) (f : Nat → Int32) : HP := (h.1, va_up h.2 (r.getD 0) (.inl (t, n, .inl f)))
def hz_aS (h : HP) (r : Option Nat) (t : Nat) (i x : Int32) : Option HP := match hz_ar h r t with
  | none => none
  | some y => if 0 ≤ i ∧ i.toNatClampNeg < y.1 then some (hz_pA h r t y.1 (va_up y.2 i.toNatClampNeg (hz_nar t x))) else none
/-- an array of references (t = 2, 3) -/
def hz_aq (h : HP) (r : Option Nat) (t : Nat) : Option (Nat × (Nat → Option Nat)) := match r with
  | none => none
  | some a => if 1 ≤ a ∧ a ≤ h.1 then (match h.2 a with
    | .inl x => if x.1 = t then (match x.2.2 with
      | .inr (.inr (.inr (.inr f))) => some (x.2.1, f)
      | _ => none) else none
    | .inr _ => none) else none
def hz_aR (h : HP) (r : Option Nat) (t : Nat) (i : Int32) : Option (Option Nat) := match hz_aq h r t with
  | none => none
  | some x => if 0 ≤ i ∧ i.toNatClampNeg < x.1 then some (x.2 i.toNatClampNeg) else none
def hz_pQ (h : HP) (r : Option Nat) (t : Nat) (n : Nat) (f : Nat → Option Nat) : HP := (h.1, va_up h.2 (r.getD 0) (.inl (t, n, .inr (.inr (.inr (.inr f))))))
def hz_aT (h : HP) (r : Option Nat) (t ci : Nat) (i : Int32) (v : Option Nat) : Option HP := match hz_aq h r t with
  | none => none
  | some y => if (0 ≤ i ∧ i.toNatClampNeg < y.1) ∧ hz_ob h v ci = true then some (hz_pQ h r t y.1 (va_up y.2 i.toNatClampNeg v)) else none
def hz_nO (h : HP) (ci : Nat) (fs : List Value) : HP := (h.1 + 1, va_up h.2 (h.1 + 1) (.inr (ci, fs)))
def hz_nA (h : HP) (t cap : Nat) (n : Int32) : Option HP := if 0 ≤ n ∧ n.toNatClampNeg ≤ cap then some (h.1 + 1, va_up h.2 (h.1 + 1) (.inl (t, n.toNatClampNeg, .inl (fun _ => 0)))) else none
def hz_nQ (h : HP) (t cap : Nat) (n : Int32) : Option HP := if 0 ≤ n ∧ n.toNatClampNeg ≤ cap then some (h.1 + 1, va_up h.2 (h.1 + 1) (.inl (t, n.toNatClampNeg, .inr (.inr (.inr (.inr (fun _ => none))))))) else none
def hz_cp (h : HP) (r0 : Option Nat) (sp : Int32) (r1 : Option Nat) (dp n : Int32) : Option HP := match hz_ar h r0 0, hz_ar h r1 0 with
  | some x, some y => if (0 ≤ sp ∧ 0 ≤ dp ∧ 0 ≤ n) ∧ sp.toNatClampNeg + n.toNatClampNeg ≤ x.1 ∧ dp.toNatClampNeg + n.toNatClampNeg ≤ y.1 then some (hz_pA h r1 0 y.1 (va_cpy x.2 y.2 sp.toNatClampNeg dp.toNatClampNeg n.toNatClampNeg)) else none
  | _, _ => none
/-! what they say when they answer -/
theorem hz_gF_of {h : HP} {r : Option Nat} {ci k : Nat} {v : Value} (H : hz_gF h r ci k = some v) : ∃ (a : Nat) (fs : List Value), r = some a ∧ 1 ≤ a ∧ a ≤ h.1 ∧ h.2 a = .inr (ci, fs) ∧ fs[k]? = some v := by
  unfold hz_gF at H
  split at H
  · cases H
  · rename_i a
    split at H
    · rename_i h1
      split at H
      · rename_i o ho
        split at H
        · rename_i h2
          exact ⟨a, o.2, rfl, h1.1, h1.2, by rw [ho, ← h2], H⟩
        · cases H
      · cases H
    · cases H
theorem hz_gI_of {h : HP} {r : Option Nat} {ci k : Nat} {x : Int32} (H : hz_gI h r ci k = some x) : hz_gF h r ci k = some (.int x) := by
  unfold hz_gI hz_oI at H
  split at H
  · rename_i y e
    rw [e]; cases H; rfl
  · cases H
theorem hz_gR_of {h : HP} {r : Option Nat} {ci k : Nat} {x : Option Nat} (H : hz_gR h r ci k = some x) : hz_gF h r ci k = some (va_rf x) := by
  unfold hz_gR hz_oR at H
  split at H
  · rename_i e
    rw [e]; cases H; rfl
  · rename_i y e
    rw [e]; cases H; rfl
  · cases H
theorem hz_pF_of {h h1 : HP} {r : Option Nat} {ci k : Nat} {v : Value} (H : hz_pF h r ci k v = some h1) : ∃ (a : Nat) (fs : List Value), r = some a ∧ 1 ≤ a ∧ a ≤ h.1 ∧ h.2 a = .inr (ci, fs) ∧ k < fs.length ∧ h1 = (h.1, va_up h.2 a (.inr (ci, fs.set k v))) := by
  unfold hz_pF at H
  split at H
  · cases H
  · rename_i a
    split at H
    · rename_i h1
      split at H
      · rename_i o ho
        split at H
        · rename_i h2
          exact ⟨a, o.2, rfl, h1.1, h1.2, by rw [ho, ← h2.1], h2.2, (Option.some.inj H).symm⟩
        · cases H
      · cases H
    · cases H
theorem hz_ob_of {h : HP} {r : Option Nat} {ci : Nat} (H : hz_ob h r ci = true) : ∃ (a : Nat) (fs : List Value), r = some a ∧ 1 ≤ a ∧ a ≤ h.1 ∧ h.2 a = .inr (ci, fs) := by
  unfold hz_ob at H
  split at H
  · cases H
  · rename_i a
    split at H
    · rename_i h1
      split at H
      · rename_i o ho
        exact ⟨a, o.2, rfl, h1.1, h1.2, by rw [ho, ← of_decide_eq_true H]⟩
      · cases H
    · cases H
theorem hz_ar_of {h : HP} {r : Option Nat} {t : Nat} {x : Nat × (Nat → Int32)} (H : hz_ar h r t = some x) : ∃ a : Nat, r = some a ∧ 1 ≤ a ∧ a ≤ h.1 ∧ h.2 a = .inl (t, x.1, .inl x.2) := by
  unfold hz_ar at H
  split at H
  · cases H
  · rename_i a
    split at H
    · rename_i h1
      split at H
      · rename_i o ho
        split at H
        · rename_i h2
          split at H
          · rename_i f hf
            cases H
            exact ⟨a, rfl, h1.1, h1.2, by rw [ho, ← h2, ← hf]⟩
          · cases H
        · cases H
      · cases H
    · cases H
theorem hz_aq_of {h : HP} {r : Option Nat} {t : Nat} {x : Nat × (Nat → Option Nat)} (H : hz_aq h r t = some x) : ∃ a : Nat, r = some a ∧ 1 ≤ a ∧ a ≤ h.1 ∧ h.2 a = .inl (t, x.1, .inr (.inr (.inr (.inr x.2)))) := by
  unfold hz_aq at H
  split at H
  · cases H
  · rename_i a
    split at H
    · rename_i h1
      split at H
      · rename_i o ho
        split at H
        · rename_i h2
          split at H
          · rename_i f hf
            cases H
            exact ⟨a, rfl, h1.1, h1.2, by rw [ho, ← h2, ← hf]⟩
          · cases H
        · cases H
      · cases H
    · cases H
theorem hz_in {i : Int32} {n : Nat} (h : 0 ≤ i ∧ i.toNatClampNeg < n) : vp_in i n := fun q => q.elim (fun z => absurd h.1 (Int32.not_le.mpr z)) (fun z => by omega)
theorem hz_aI_of {h : HP} {r : Option Nat} {t : Nat} {i x : Int32} (H : hz_aI h r t i = some x) : ∃ (a n : Nat) (f : Nat → Int32), r = some a ∧ 1 ≤ a ∧ a ≤ h.1 ∧ h.2 a = .inl (t, n, .inl f) ∧ vp_in i n ∧ x = f i.toNatClampNeg := by
  unfold hz_aI at H
  split at H
  · cases H
  · rename_i y hy
    obtain ⟨a, e1, e2, e3, e4⟩ := hz_ar_of hy
    split at H
    · rename_i hi
      exact ⟨a, y.1, y.2, e1, e2, e3, e4, hz_in hi, (Option.some.inj H).symm⟩
    · cases H
theorem hz_aS_of {h h1 : HP} {r : Option Nat} {t : Nat} {i x : Int32} (H : hz_aS h r t i x = some h1) : ∃ (a n : Nat) (f : Nat → Int32), r = some a ∧ 1 ≤ a ∧ a ≤ h.1 ∧ h.2 a = .inl (t, n, .inl f) ∧ vp_in i n ∧ h1 = (h.1, va_up h.2 a (.inl (t, n, .inl (va_up f i.toNatClampNeg (hz_nar t x))))) := by
  unfold hz_aS at H
  split at H
  · cases H
  · rename_i y hy
    obtain ⟨a, e1, e2, e3, e4⟩ := hz_ar_of hy
    split at H
    · rename_i hi
      refine ⟨a, y.1, y.2, e1, e2, e3, e4, hz_in hi, ?_⟩
      rw [← Option.some.inj H, hz_pA, e1]
      rfl
    · cases H
theorem hz_aR_of {h : HP} {r : Option Nat} {t : Nat} {i : Int32} {x : Option Nat} (H : hz_aR h r t i = some x) : ∃ (a n : Nat) (f : Nat → Option Nat), r = some a ∧ 1 ≤ a ∧ a ≤ h.1 ∧ h.2 a = .inl (t, n, .inr (.inr (.inr (.inr f)))) ∧ vp_in i n ∧ x = f i.toNatClampNeg := by
  unfold hz_aR at H
  split at H
  · cases H
  · rename_i y hy
    obtain ⟨a, e1, e2, e3, e4⟩ := hz_aq_of hy
    split at H
    · rename_i hi
      exact ⟨a, y.1, y.2, e1, e2, e3, e4, hz_in hi, (Option.some.inj H).symm⟩
    · cases H
theorem hz_aT_of {h h1 : HP} {r v : Option Nat} {t ci : Nat} {i : Int32} (H : hz_aT h r t ci i v = some h1) : ∃ (a n : Nat) (f : Nat → Option Nat) (b : Nat) (fs : List Value), r = some a ∧ 1 ≤ a ∧ a ≤ h.1 ∧ h.2 a = .inl (t, n, .inr (.inr (.inr (.inr f)))) ∧ vp_in i n ∧ v = some b ∧ 1 ≤ b ∧ b ≤ h.1 ∧ h.2 b = .inr (ci, fs) ∧ h1 = (h.1, va_up h.2 a (.inl (t, n, .inr (.inr (.inr (.inr (va_up f i.toNatClampNeg v))))))) := by
  unfold hz_aT at H
  split at H
  · cases H
  · rename_i y hy
    obtain ⟨a, e1, e2, e3, e4⟩ := hz_aq_of hy
    split at H
    · rename_i hi
      obtain ⟨b, fs, g1, g2, g3, g4⟩ := hz_ob_of hi.2
      refine ⟨a, y.1, y.2, b, fs, e1, e2, e3, e4, hz_in hi.1, g1, g2, g3, g4, ?_⟩
      rw [← Option.some.inj H, hz_pQ, e1]
      rfl
    · cases H
theorem hz_aL_of {h : HP} {r : Option Nat} {x : Int32} (H : hz_aL h r = some x) : ∃ a : Nat, r = some a ∧ ((a = 0 ∧ x = 0) ∨ ∃ (t : Nat) (y : vp_A), t < 4 ∧ 1 ≤ a ∧ a ≤ h.1 ∧ h.2 a = .inl (t, y) ∧ x = Int32.ofNat y.1) := by
  unfold hz_aL at H
  split at H
  · cases H
  · rename_i a
    split at H
    · rename_i h0
      exact ⟨a, rfl, Or.inl ⟨h0, (Option.some.inj H).symm⟩⟩
    · rename_i h0
      split at H
      · rename_i h1
        split at H
        · rename_i o ho
          split at H
          · rename_i h2
            exact ⟨a, rfl, Or.inr ⟨o.1, o.2, h2, by omega, h1, ho, (Option.some.inj H).symm⟩⟩
          · cases H
        · cases H
      · cases H
theorem hz_nA_of {h h1 : HP} {t cap : Nat} {n : Int32} (H : hz_nA h t cap n = some h1) : ¬ n < 0 ∧ n.toNatClampNeg ≤ cap ∧ h1 = (h.1 + 1, va_up h.2 (h.1 + 1) (.inl (t, n.toNatClampNeg, .inl (fun _ => 0)))) := by
  unfold hz_nA at H
  split at H
  · rename_i hi
    exact ⟨Int32.not_lt.mpr hi.1, hi.2, (Option.some.inj H).symm⟩
  · cases H
theorem hz_nQ_of {h h1 : HP} {t cap : Nat} {n : Int32} (H : hz_nQ h t cap n = some h1) : ¬ n < 0 ∧ n.toNatClampNeg ≤ cap ∧ h1 = (h.1 + 1, va_up h.2 (h.1 + 1) (.inl (t, n.toNatClampNeg, .inr (.inr (.inr (.inr (fun _ => none))))))) := by
  unfold hz_nQ at H
  split at H
  · rename_i hi
    exact ⟨Int32.not_lt.mpr hi.1, hi.2, (Option.some.inj H).symm⟩
  · cases H
theorem hz_cp_of {h h1 : HP} {r0 r1 : Option Nat} {sp dp n : Int32} (H : hz_cp h r0 sp r1 dp n = some h1) : ∃ (a n0 : Nat) (f : Nat → Int32) (b n1 : Nat) (g : Nat → Int32), r0 = some a ∧ 1 ≤ a ∧ a ≤ h.1 ∧ h.2 a = .inl (0, n0, .inl f) ∧ r1 = some b ∧ 1 ≤ b ∧ b ≤ h.1 ∧ h.2 b = .inl (0, n1, .inl g) ∧ ¬ sp < 0 ∧ ¬ dp < 0 ∧ ¬ n < 0 ∧ sp.toNatClampNeg + n.toNatClampNeg ≤ n0 ∧ dp.toNatClampNeg + n.toNatClampNeg ≤ n1 ∧ h1 = (h.1, va_up h.2 b (.inl (0, n1, .inl (va_cpy f g sp.toNatClampNeg dp.toNatClampNeg n.toNatClampNeg)))) := by
  unfold hz_cp at H
  split at H
  · rename_i x y hx hy
    obtain ⟨a, e1, e2, e3, e4⟩ := hz_ar_of hx
    obtain ⟨b, g1, g2, g3, g4⟩ := hz_ar_of hy
    split at H
    · rename_i hi
      refine ⟨a, x.1, x.2, b, y.1, y.2, e1, e2, e3, e4, g1, g2, g3, g4, Int32.not_lt.mpr hi.1.1, Int32.not_lt.mpr hi.1.2.1, Int32.not_lt.mpr hi.1.2.2, hi.2.1, hi.2.2, ?_⟩
      rw [← Option.some.inj H, hz_pA, g1]
      rfl
    · cases H
  · cases H
end
section
/-! the machine at an instruction, over an abstract heap -/
abbrev GX : Type := Program × Launch × Env × Room × State × MethodId × Array Value × List Frame × Method × Code × (State → Prop) × EV × Nat
def hz_L (E : EV) : Nat → List (Option Value) → List (Nat × Value)
  | _, [] => []
  | i, some v :: r => (i, hz_v E v) :: hz_L E (i + 1) r
  | i, none :: r => hz_L E (i + 1) r
theorem hz_Lmem {E : EV} : ∀ (L : List (Option Value)) (i k : Nat) (v : Value), L[k]? = some (some v) → (i + k, hz_v E v) ∈ hz_L E i L
  | [], i, k, v, h => by simp at h
  | none :: r, i, 0, v, h => by simp at h
  | some w :: r, i, 0, v, h => by
    simp at h
    subst h
    simp [hz_L]
  | none :: r, i, k + 1, v, h => by
    have := hz_Lmem (E := E) r (i + 1) k v (by simpa using h)
    rw [show i + (k + 1) = i + 1 + k by omega]
    exact this
  | some w :: r, i, k + 1, v, h => by
    have := hz_Lmem (E := E) r (i + 1) k v (by simpa using h)
    rw [show i + (k + 1) = i + 1 + k by omega]
    exact List.mem_cons_of_mem _ this
theorem hz_Lof {E : EV} : ∀ (L : List (Option Value)) (i : Nat) (q : Nat × Value), q ∈ hz_L E i L → ∃ (k : Nat) (v : Value), L[k]? = some (some v) ∧ q = (i + k, hz_v E v)
  | [], i, q, h => by simp [hz_L] at h
  | none :: r, i, q, h => by
    obtain ⟨k, v, h1, h2⟩ := hz_Lof (E := E) r (i + 1) q h
    exact ⟨k + 1, v, by simpa using h1, by rw [h2, show i + 1 + k = i + (k + 1) by omega]⟩
  | some w :: r, i, q, h => by
    rcases List.mem_cons.mp h with h | h
    · exact ⟨0, w, by simp, by rw [h]; rfl⟩
    · obtain ⟨k, v, h1, h2⟩ := hz_Lof (E := E) r (i + 1) q h
      exact ⟨k + 1, v, by simpa using h1, by rw [h2, show i + 1 + k = i + (k + 1) by omega]⟩
def hz_c1 (L : List (Option Value)) : Prop := ∀ (k : Nat) (v : Value), L[k]? = some (some v) → v.category = 1
def hz_s1 (st : List Value) : Prop := ∀ v ∈ st, v.category = 1
def aw (G : GX) (pc : Nat) (L : List (Option Value)) (st : List Value) (h : HP) (cs sl : Nat) : Prop := match G with
  | (p, l, e, R, s, m, args, below, meth, c, Q, E, nL) => hz_c1 L → hz_s1 st → ∀ (H : Heap) (locs : List Loc) (ls : Array Slot), hz_W E h H → va_S (hz_R E) s.heap H locs → lv_has ls nL (hz_L E 0 L) → W p l e R s m args below meth c H locs cs sl Q (F0 m pc ls (st.map (hz_v E)))
def hz_Q (E : EV) (ro : Option Value) (h' : HP) : Array Value → State → Outcome → State → Prop := fun _ st oc t => oc = .returned (ro.map (hz_v E)) ∧ hz_W E h' t.heap ∧ va_F (hz_R E) st t
def Cx (G : GX) (cc : ByteArray) (own nm : String) (ret : Option FieldType) (rm : Room) (ro : Option Value) (h' : HP) : Prop := match G with
  | (p, l, e, R, s, m, args, below, meth, c, Q, E, nL) => p.tables.exec = Jvm.exec ∧ c.code = cc ∧ c.maxLocals = nL ∧ s.vm.findClass own = some m.cls ∧ (∀ w ∈ hz_T, w.before args s = true) ∧ hz_K E s ∧ meth.locks = false ∧ meth.sig.returnType = ret ∧ meth.name = nm ∧ R = rm ∧ Q = MQ below (hz_Q E ro h') args s rm.cells rm.slots (hz_R E)
/-- a method's contract: from a heap h, with these arguments, it returns ro and leaves h' -/
def Ct (l : Launch) (y : MethodName) (cc : ByteArray) (maxL : Nat) (ret : Option FieldType) (rm : Room) (avs : List Value) (ro : Option Value) (h h' : HP) : Prop :=
  ∀ E : EV, Met l y (.code y cc maxL ret :: hz_T) rm (va_Pc (avs.map (hz_v E)) (fun U => hz_W E h U.heap ∧ hz_K E U)) (hz_Q E ro h') rm.cells rm.slots (hz_R E)
theorem hz_ld {E : EV} {ls : Array Slot} {nL k : Nat} {L : List (Option Value)} {v : Value} (hl : lv_has ls nL (hz_L E 0 L)) (hk : L[k]? = some (some v)) : ls[k]? = some (.val (hz_v E v)) := by
  have := hl.2.2 _ (hz_Lmem (E := E) L 0 k v hk)
  simpa using this
theorem hz_set {E : EV} {ls : Array Slot} {nL k : Nat} {L : List (Option Value)} {v : Value} (hc : hz_c1 L) (hl : lv_has ls nL ((k, hz_v E v) :: (hz_L E 0 L).filter (fun q => !(q.1 == k) && !(q.1 + 1 == k && q.2.category == 2)))) : lv_has ls nL (hz_L E 0 (L.set k (some v))) := by
  refine ⟨hl.1, hl.2.1, fun q hq => ?_⟩
  obtain ⟨j, w, h1, h2⟩ := hz_Lof (E := E) _ 0 q hq
  subst h2
  rw [List.getElem?_set] at h1
  by_cases hj : k = j
  · subst hj
    simp at h1
    obtain ⟨-, rfl⟩ := h1
    have := hl.2.2 _ (List.mem_cons_self (a := (k, hz_v E v)))
    simpa using this
  · rw [if_neg hj] at h1
    have hm := hz_Lmem (E := E) L 0 j w h1
    have hcat := hc j w h1
    refine hl.2.2 _ (List.mem_cons_of_mem _ (List.mem_filter.mpr ⟨hm, ?_⟩))
    simp [hz_vc, hcat]
    omega
theorem hz_c1set {L : List (Option Value)} {k : Nat} {v : Value} (h : hz_c1 L) (hv : v.category = 1) : hz_c1 (L.set k (some v)) := by
  intro j w hj
  rw [List.getElem?_set] at hj
  by_cases e : k = j
  · rw [if_pos e] at hj
    split at hj
    · cases hj; exact hv
    · cases hj
  · rw [if_neg e] at hj
    exact h j w hj
theorem hz_s1c {st : List Value} {v : Value} (h : hz_s1 st) (hv : v.category = 1) : hz_s1 (v :: st) := fun w hw => (List.mem_cons.mp hw).elim (fun e => e ▸ hv) (h w)
theorem hz_s1t {st : List Value} {v : Value} (h : hz_s1 (v :: st)) : hz_s1 st := fun w hw => h w (List.mem_cons_of_mem _ hw)
theorem hz_s1h {st : List Value} {v : Value} (h : hz_s1 (v :: st)) : v.category = 1 := h v List.mem_cons_self
def hz_sub : List (Option Value) → List (Option Value) → Prop
  | [], _ => True
  | none :: a, _ :: b => hz_sub a b
  | some v :: a, some w :: b => v = w ∧ hz_sub a b
  | _, _ => False
theorem hz_subat : ∀ (a b : List (Option Value)), hz_sub a b → ∀ (k : Nat) (v : Value), a[k]? = some (some v) → b[k]? = some (some v)
  | [], b, _, k, v, h => by simp at h
  | none :: a, [], hs, k, v, h => by exact absurd hs (by simp [hz_sub])
  | none :: a, w :: b, hs, 0, v, h => by simp at h
  | none :: a, w :: b, hs, k + 1, v, h => by simpa using hz_subat a b hs k v (by simpa using h)
  | some x :: a, [], hs, k, v, h => by exact absurd hs (by simp [hz_sub])
  | some x :: a, none :: b, hs, k, v, h => by exact absurd hs (by simp [hz_sub])
  | some x :: a, some w :: b, hs, 0, v, h => by
    obtain ⟨rfl, -⟩ := hs
    exact h
  | some x :: a, some w :: b, hs, k + 1, v, h => by simpa using hz_subat a b hs.2 k v (by simpa using h)
section RW
variable {G : GX} {cc : ByteArray} {own nm : String} {ret : Option FieldType} {rm : Room} {ro : Option Value} {h' : HP} {pc : Nat} {L : List (Option Value)} {st : List Value} {h : HP} {cs sl : Nat}
theorem aw_loc {L' : List (Option Value)} (hs : hz_sub L' L) (k : aw G pc L' st h cs sl) : aw G pc L st h cs sl := by
  obtain ⟨p, l, e, R, s, m, args, below, meth, c, Q, E, nL⟩ := G
  intro c1 s1 H locs ls hW hS hl
  refine k (fun j v hj => c1 j v (hz_subat _ _ hs j v hj)) s1 H locs ls hW hS ⟨hl.1, hl.2.1, fun q hq => ?_⟩
  obtain ⟨j, w, h1, h2⟩ := hz_Lof (E := E) _ 0 q hq
  subst h2
  exact hl.2.2 _ (hz_Lmem (E := E) L 0 j w (hz_subat _ _ hs j w h1))
theorem aw_wid {cs' sl' : Nat} (k : aw G pc L st h cs' sl') (h1 : cs ≤ cs') (h2 : sl ≤ sl') : aw G pc L st h cs sl := by
  obtain ⟨p, l, e, R, s, m, args, below, meth, c, Q, E, nL⟩ := G
  exact fun c1 s1 H locs ls hW hS hl => W.widen h1 h2 (k c1 s1 H locs ls hW hS hl)
theorem aw_iconst (C : Cx G cc own nm ret rm ro h') {n : Int} {v : Int32} (hd : decode cc pc = .ok (.iconst n, 1)) (hv : Int32.ofInt n = v) (k : aw G (pc + 1) L (.int v :: st) h cs sl) : aw G pc L st h cs sl := by
  obtain ⟨p, l, e, R, s, m, args, below, meth, c, Q, E, nL⟩ := G
  exact fun c1 s1 H locs ls hW hS hl => lv_iconst C.1 C.2.1 hd hv (k c1 (hz_s1c s1 rfl) H locs ls hW hS hl)
theorem aw_bipush (C : Cx G cc own nm ret rm ro h') {n : Int} {v : Int32} (hd : decode cc pc = .ok (.bipush n, 2)) (hv : (Int8.ofInt n).toInt32 = v) (k : aw G (pc + 2) L (.int v :: st) h cs sl) : aw G pc L st h cs sl := by
  obtain ⟨p, l, e, R, s, m, args, below, meth, c, Q, E, nL⟩ := G
  exact fun c1 s1 H locs ls hW hS hl => lv_bipush C.1 C.2.1 hd hv (k c1 (hz_s1c s1 rfl) H locs ls hW hS hl)
theorem aw_sipush (C : Cx G cc own nm ret rm ro h') {n : Int} {v : Int32} (hd : decode cc pc = .ok (.sipush n, 3)) (hv : (Int16.ofInt n).toInt32 = v) (k : aw G (pc + 3) L (.int v :: st) h cs sl) : aw G pc L st h cs sl := by
  obtain ⟨p, l, e, R, s, m, args, below, meth, c, Q, E, nL⟩ := G
  exact fun c1 s1 H locs ls hW hS hl => lv_sipush C.1 C.2.1 hd hv (k c1 (hz_s1c s1 rfl) H locs ls hW hS hl)
theorem aw_ldc (C : Cx G cc own nm ret rm ro h') {ix : Nat} {v : Int32} (hw : Cond.constant own ix v ∈ hz_T) (hd : decode cc pc = .ok (.ldc ix, 2)) (k : aw G (pc + 2) L (.int v :: st) h cs sl) : aw G pc L st h cs sl := by
  obtain ⟨p, l, e, R, s, m, args, below, meth, c, Q, E, nL⟩ := G
  exact fun c1 s1 H locs ls hW hS hl => lv_ldc C.1 C.2.1 C.2.2.2.1 (C.2.2.2.2.1 _ hw) hd (k c1 (hz_s1c s1 rfl) H locs ls hW hS hl)
theorem aw_ldcw (C : Cx G cc own nm ret rm ro h') {ix : Nat} {v : Int32} (hw : Cond.constant own ix v ∈ hz_T) (hd : decode cc pc = .ok (.ldc_w ix, 3)) (k : aw G (pc + 3) L (.int v :: st) h cs sl) : aw G pc L st h cs sl := by
  obtain ⟨p, l, e, R, s, m, args, below, meth, c, Q, E, nL⟩ := G
  exact fun c1 s1 H locs ls hW hS hl => lv_ldcw C.1 C.2.1 C.2.2.2.1 (C.2.2.2.2.1 _ hw) hd (k c1 (hz_s1c s1 rfl) H locs ls hW hS hl)
theorem aw_null (C : Cx G cc own nm ret rm ro h') (hd : decode cc pc = .ok (.aconst_null, 1)) (k : aw G (pc + 1) L (va_rf none :: st) h cs sl) : aw G pc L st h cs sl := by
  obtain ⟨p, l, e, R, s, m, args, below, meth, c, Q, E, nL⟩ := G
  exact fun c1 s1 H locs ls hW hS hl => lv_null C.1 C.2.1 hd (k c1 (hz_s1c s1 rfl) H locs ls hW hS hl)
theorem aw_iload_n (C : Cx G cc own nm ret rm ro h') {i : Fin 4} {x : Int32} (hd : decode cc pc = .ok (.iload_n i, 1)) (hl : L[(i : Nat)]? = some (some (.int x))) (k : aw G (pc + 1) L (.int x :: st) h cs sl) : aw G pc L st h cs sl := by
  obtain ⟨p, l, e, R, s, m, args, below, meth, c, Q, E, nL⟩ := G
  exact fun c1 s1 H locs ls hW hS hls => lv_iload_n C.1 C.2.1 hd rfl (hz_ld hls hl) (k c1 (hz_s1c s1 rfl) H locs ls hW hS hls)
theorem aw_iload (C : Cx G cc own nm ret rm ro h') {i : Nat} {x : Int32} (hd : decode cc pc = .ok (.iload i, 2)) (hl : L[i]? = some (some (.int x))) (k : aw G (pc + 2) L (.int x :: st) h cs sl) : aw G pc L st h cs sl := by
  obtain ⟨p, l, e, R, s, m, args, below, meth, c, Q, E, nL⟩ := G
  exact fun c1 s1 H locs ls hW hS hls => lv_iload C.1 C.2.1 hd (hz_ld hls hl) (k c1 (hz_s1c s1 rfl) H locs ls hW hS hls)
theorem aw_aload_n (C : Cx G cc own nm ret rm ro h') {i : Fin 4} {x : Option Nat} (hd : decode cc pc = .ok (.aload_n i, 1)) (hl : L[(i : Nat)]? = some (some (va_rf x))) (k : aw G (pc + 1) L (va_rf x :: st) h cs sl) : aw G pc L st h cs sl := by
  obtain ⟨p, l, e, R, s, m, args, below, meth, c, Q, E, nL⟩ := G
  cases x with
  | none => exact fun c1 s1 H locs ls hW hS hls => lv_aload_nN C.1 C.2.1 hd rfl (hz_ld hls hl) (k c1 (hz_s1c s1 rfl) H locs ls hW hS hls)
  | some x => exact fun c1 s1 H locs ls hW hS hls => lv_aload_n C.1 C.2.1 hd rfl (hz_ld hls hl) (k c1 (hz_s1c s1 rfl) H locs ls hW hS hls)
theorem aw_aload (C : Cx G cc own nm ret rm ro h') {i : Nat} {x : Option Nat} (hd : decode cc pc = .ok (.aload i, 2)) (hl : L[i]? = some (some (va_rf x))) (k : aw G (pc + 2) L (va_rf x :: st) h cs sl) : aw G pc L st h cs sl := by
  obtain ⟨p, l, e, R, s, m, args, below, meth, c, Q, E, nL⟩ := G
  cases x with
  | none => exact fun c1 s1 H locs ls hW hS hls => lv_aloadN C.1 C.2.1 hd (hz_ld hls hl) (k c1 (hz_s1c s1 rfl) H locs ls hW hS hls)
  | some x => exact fun c1 s1 H locs ls hW hS hls => lv_aload C.1 C.2.1 hd (hz_ld hls hl) (k c1 (hz_s1c s1 rfl) H locs ls hW hS hls)
theorem aw_istore_n (C : Cx G cc own nm ret rm ro h') {L' : List (Option Value)} {i : Fin 4} {x : Int32} (hd : decode cc pc = .ok (.istore_n i, 1)) (hn : (i : Nat) < G.2.2.2.2.2.2.2.2.2.2.2.2) (hL : L.set i (some (.int x)) = L') (k : aw G (pc + 1) L' st h cs sl) : aw G pc L (.int x :: st) h cs sl := by
  subst hL
  obtain ⟨p, l, e, R, s, m, args, below, meth, c, Q, E, nL⟩ := G
  exact fun c1 s1 H locs ls hW hS hls => lv_istore_n C.1 C.2.1 hd rfl hls hn rfl (fun ls hls => k (hz_c1set c1 rfl) (hz_s1t s1) H locs ls hW hS (hz_set (v := .int x) c1 hls))
theorem aw_istore (C : Cx G cc own nm ret rm ro h') {L' : List (Option Value)} {i : Nat} {x : Int32} (hd : decode cc pc = .ok (.istore i, 2)) (hn : i < G.2.2.2.2.2.2.2.2.2.2.2.2) (hL : L.set i (some (.int x)) = L') (k : aw G (pc + 2) L' st h cs sl) : aw G pc L (.int x :: st) h cs sl := by
  subst hL
  obtain ⟨p, l, e, R, s, m, args, below, meth, c, Q, E, nL⟩ := G
  exact fun c1 s1 H locs ls hW hS hls => lv_istore C.1 C.2.1 hd hls hn rfl (fun ls hls => k (hz_c1set c1 rfl) (hz_s1t s1) H locs ls hW hS (hz_set (v := .int x) c1 hls))
theorem aw_astore_n (C : Cx G cc own nm ret rm ro h') {L' : List (Option Value)} {i : Fin 4} {x : Option Nat} (hd : decode cc pc = .ok (.astore_n i, 1)) (hn : (i : Nat) < G.2.2.2.2.2.2.2.2.2.2.2.2) (hL : L.set i (some (va_rf x)) = L') (k : aw G (pc + 1) L' st h cs sl) : aw G pc L (va_rf x :: st) h cs sl := by
  subst hL
  obtain ⟨p, l, e, R, s, m, args, below, meth, c, Q, E, nL⟩ := G
  cases x with
  | none => exact fun c1 s1 H locs ls hW hS hls => lv_astore_nN C.1 C.2.1 hd rfl hls hn rfl (fun ls hls => k (hz_c1set c1 rfl) (hz_s1t s1) H locs ls hW hS (hz_set (v := .null) c1 hls))
  | some x => exact fun c1 s1 H locs ls hW hS hls => lv_astore_n C.1 C.2.1 hd rfl hls hn rfl (fun ls hls => k (hz_c1set c1 rfl) (hz_s1t s1) H locs ls hW hS (hz_set (v := .ref x) c1 hls))
theorem aw_astore (C : Cx G cc own nm ret rm ro h') {L' : List (Option Value)} {i : Nat} {x : Option Nat} (hd : decode cc pc = .ok (.astore i, 2)) (hn : i < G.2.2.2.2.2.2.2.2.2.2.2.2) (hL : L.set i (some (va_rf x)) = L') (k : aw G (pc + 2) L' st h cs sl) : aw G pc L (va_rf x :: st) h cs sl := by
  subst hL
  obtain ⟨p, l, e, R, s, m, args, below, meth, c, Q, E, nL⟩ := G
  cases x with
  | none => exact fun c1 s1 H locs ls hW hS hls => lv_astoreN C.1 C.2.1 hd hls hn rfl (fun ls hls => k (hz_c1set c1 rfl) (hz_s1t s1) H locs ls hW hS (hz_set (v := .null) c1 hls))
  | some x => exact fun c1 s1 H locs ls hW hS hls => lv_astore C.1 C.2.1 hd hls hn rfl (fun ls hls => k (hz_c1set c1 rfl) (hz_s1t s1) H locs ls hW hS (hz_set (v := .ref x) c1 hls))
theorem aw_iinc (C : Cx G cc own nm ret rm ro h') {L' : List (Option Value)} {i : Nat} {n : Int} {x d : Int32} (hd : decode cc pc = .ok (.iinc i n, 3)) (hn : i < G.2.2.2.2.2.2.2.2.2.2.2.2) (hx : L[i]? = some (some (.int x))) (hv : Int32.ofInt n = d) (hL : L.set i (some (.int (x + d))) = L') (k : aw G (pc + 3) L' st h cs sl) : aw G pc L st h cs sl := by
  subst hL
  subst hv
  obtain ⟨p, l, e, R, s, m, args, below, meth, c, Q, E, nL⟩ := G
  intro c1 s1 H locs ls hW hS hls
  have hm := hz_Lmem (E := E) L 0 i _ hx
  rw [Nat.zero_add] at hm
  obtain ⟨j, hj⟩ := List.getElem?_of_mem hm
  exact lv_iinc C.1 C.2.1 hd hls hj rfl hn rfl (fun ls hls => k (hz_c1set c1 rfl) s1 H locs ls hW hS (hz_set (v := .int _) c1 hls))
theorem aw_dup (C : Cx G cc own nm ret rm ro h') {v : Value} (hd : decode cc pc = .ok (.dup, 1)) (k : aw G (pc + 1) L (v :: v :: st) h cs sl) : aw G pc L (v :: st) h cs sl := by
  obtain ⟨p, l, e, R, s, m, args, below, meth, c, Q, E, nL⟩ := G
  exact fun c1 s1 H locs ls hW hS hls => lv_dup C.1 C.2.1 hd ((hz_vc E v).trans (hz_s1h s1)) (k c1 (hz_s1c s1 (hz_s1h s1)) H locs ls hW hS hls)
theorem aw_pop (C : Cx G cc own nm ret rm ro h') {v : Value} (hd : decode cc pc = .ok (.pop, 1)) (k : aw G (pc + 1) L st h cs sl) : aw G pc L (v :: st) h cs sl := by
  obtain ⟨p, l, e, R, s, m, args, below, meth, c, Q, E, nL⟩ := G
  exact fun c1 s1 H locs ls hW hS hls => lv_pop C.1 C.2.1 hd ((hz_vc E v).trans (hz_s1h s1)) (k c1 (hz_s1t s1) H locs ls hW hS hls)
theorem aw_dup2 (C : Cx G cc own nm ret rm ro h') {v w : Value} (hd : decode cc pc = .ok (.dup2, 1)) (k : aw G (pc + 1) L (v :: w :: v :: w :: st) h cs sl) : aw G pc L (v :: w :: st) h cs sl := by
  obtain ⟨p, l, e, R, s, m, args, below, meth, c, Q, E, nL⟩ := G
  exact fun c1 s1 H locs ls hW hS hls => lv_dup2_11 C.1 C.2.1 hd ((hz_vc E v).trans (hz_s1h s1)) ((hz_vc E w).trans (hz_s1h (hz_s1t s1))) (k c1 (hz_s1c (hz_s1c s1 (hz_s1h (hz_s1t s1))) (hz_s1h s1)) H locs ls hW hS hls)
theorem aw_dup_x1 (C : Cx G cc own nm ret rm ro h') {v w : Value} (hd : decode cc pc = .ok (.dup_x1, 1)) (k : aw G (pc + 1) L (v :: w :: v :: st) h cs sl) : aw G pc L (v :: w :: st) h cs sl := by
  obtain ⟨p, l, e, R, s, m, args, below, meth, c, Q, E, nL⟩ := G
  exact fun c1 s1 H locs ls hW hS hls => lv_dup_x1 C.1 C.2.1 hd ((hz_vc E v).trans (hz_s1h s1)) ((hz_vc E w).trans (hz_s1h (hz_s1t s1))) (k c1 (hz_s1c (hz_s1c (hz_s1c (hz_s1t (hz_s1t s1)) (hz_s1h s1)) (hz_s1h (hz_s1t s1))) (hz_s1h s1)) H locs ls hW hS hls)
theorem aw_dup_x2 (C : Cx G cc own nm ret rm ro h') {v w z : Value} (hd : decode cc pc = .ok (.dup_x2, 1)) (k : aw G (pc + 1) L (v :: w :: z :: v :: st) h cs sl) : aw G pc L (v :: w :: z :: st) h cs sl := by
  obtain ⟨p, l, e, R, s, m, args, below, meth, c, Q, E, nL⟩ := G
  exact fun c1 s1 H locs ls hW hS hls => lv_dup_x2 C.1 C.2.1 hd ((hz_vc E v).trans (hz_s1h s1)) ((hz_vc E w).trans (hz_s1h (hz_s1t s1))) ((hz_vc E z).trans (hz_s1h (hz_s1t (hz_s1t s1)))) (k c1 (hz_s1c (hz_s1c (hz_s1c (hz_s1c (hz_s1t (hz_s1t (hz_s1t s1))) (hz_s1h s1)) (hz_s1h (hz_s1t (hz_s1t s1)))) (hz_s1h (hz_s1t s1))) (hz_s1h s1)) H locs ls hW hS hls)
theorem aw_iadd (C : Cx G cc own nm ret rm ro h') {x y : Int32} (hd : decode cc pc = .ok (.iadd, 1)) (k : aw G (pc + 1) L (.int (x + y) :: st) h cs sl) : aw G pc L (.int y :: .int x :: st) h cs sl := by
  obtain ⟨p, l, e, R, s, m, args, below, meth, c, Q, E, nL⟩ := G
  exact fun c1 s1 H locs ls hW hS hls => lv_iadd C.1 C.2.1 hd (k c1 (hz_s1c (hz_s1t (hz_s1t s1)) rfl) H locs ls hW hS hls)
theorem aw_isub (C : Cx G cc own nm ret rm ro h') {x y : Int32} (hd : decode cc pc = .ok (.isub, 1)) (k : aw G (pc + 1) L (.int (x - y) :: st) h cs sl) : aw G pc L (.int y :: .int x :: st) h cs sl := by
  obtain ⟨p, l, e, R, s, m, args, below, meth, c, Q, E, nL⟩ := G
  exact fun c1 s1 H locs ls hW hS hls => lv_isub C.1 C.2.1 hd (k c1 (hz_s1c (hz_s1t (hz_s1t s1)) rfl) H locs ls hW hS hls)
theorem aw_imul (C : Cx G cc own nm ret rm ro h') {x y : Int32} (hd : decode cc pc = .ok (.imul, 1)) (k : aw G (pc + 1) L (.int (x * y) :: st) h cs sl) : aw G pc L (.int y :: .int x :: st) h cs sl := by
  obtain ⟨p, l, e, R, s, m, args, below, meth, c, Q, E, nL⟩ := G
  exact fun c1 s1 H locs ls hW hS hls => lv_imul C.1 C.2.1 hd (k c1 (hz_s1c (hz_s1t (hz_s1t s1)) rfl) H locs ls hW hS hls)
theorem aw_iand (C : Cx G cc own nm ret rm ro h') {x y : Int32} (hd : decode cc pc = .ok (.iand, 1)) (k : aw G (pc + 1) L (.int (x &&& y) :: st) h cs sl) : aw G pc L (.int y :: .int x :: st) h cs sl := by
  obtain ⟨p, l, e, R, s, m, args, below, meth, c, Q, E, nL⟩ := G
  exact fun c1 s1 H locs ls hW hS hls => lv_iand C.1 C.2.1 hd (k c1 (hz_s1c (hz_s1t (hz_s1t s1)) rfl) H locs ls hW hS hls)
theorem aw_ior (C : Cx G cc own nm ret rm ro h') {x y : Int32} (hd : decode cc pc = .ok (.ior, 1)) (k : aw G (pc + 1) L (.int (x ||| y) :: st) h cs sl) : aw G pc L (.int y :: .int x :: st) h cs sl := by
  obtain ⟨p, l, e, R, s, m, args, below, meth, c, Q, E, nL⟩ := G
  exact fun c1 s1 H locs ls hW hS hls => lv_ior C.1 C.2.1 hd (k c1 (hz_s1c (hz_s1t (hz_s1t s1)) rfl) H locs ls hW hS hls)
theorem aw_ixor (C : Cx G cc own nm ret rm ro h') {x y : Int32} (hd : decode cc pc = .ok (.ixor, 1)) (k : aw G (pc + 1) L (.int (x ^^^ y) :: st) h cs sl) : aw G pc L (.int y :: .int x :: st) h cs sl := by
  obtain ⟨p, l, e, R, s, m, args, below, meth, c, Q, E, nL⟩ := G
  exact fun c1 s1 H locs ls hW hS hls => lv_ixor C.1 C.2.1 hd (k c1 (hz_s1c (hz_s1t (hz_s1t s1)) rfl) H locs ls hW hS hls)
theorem aw_ishl (C : Cx G cc own nm ret rm ro h') {x y : Int32} (hd : decode cc pc = .ok (.ishl, 1)) (k : aw G (pc + 1) L (.int (x <<< (y &&& 31)) :: st) h cs sl) : aw G pc L (.int y :: .int x :: st) h cs sl := by
  obtain ⟨p, l, e, R, s, m, args, below, meth, c, Q, E, nL⟩ := G
  exact fun c1 s1 H locs ls hW hS hls => lv_ishl C.1 C.2.1 hd (k c1 (hz_s1c (hz_s1t (hz_s1t s1)) rfl) H locs ls hW hS hls)
theorem aw_ishr (C : Cx G cc own nm ret rm ro h') {x y : Int32} (hd : decode cc pc = .ok (.ishr, 1)) (k : aw G (pc + 1) L (.int (x >>> (y &&& 31)) :: st) h cs sl) : aw G pc L (.int y :: .int x :: st) h cs sl := by
  obtain ⟨p, l, e, R, s, m, args, below, meth, c, Q, E, nL⟩ := G
  exact fun c1 s1 H locs ls hW hS hls => lv_ishr C.1 C.2.1 hd (k c1 (hz_s1c (hz_s1t (hz_s1t s1)) rfl) H locs ls hW hS hls)
theorem aw_idiv (C : Cx G cc own nm ret rm ro h') {x y : Int32} (hd : decode cc pc = .ok (.idiv, 1)) (hne : ¬ y = 0) (k : aw G (pc + 1) L (.int (x / y) :: st) h cs sl) : aw G pc L (.int y :: .int x :: st) h cs sl := by
  obtain ⟨p, l, e, R, s, m, args, below, meth, c, Q, E, nL⟩ := G
  exact fun c1 s1 H locs ls hW hS hls => lv_idiv C.1 C.2.1 hd hne (k c1 (hz_s1c (hz_s1t (hz_s1t s1)) rfl) H locs ls hW hS hls)
theorem aw_irem (C : Cx G cc own nm ret rm ro h') {x y : Int32} (hd : decode cc pc = .ok (.irem, 1)) (hne : ¬ y = 0) (k : aw G (pc + 1) L (.int (x - x / y * y) :: st) h cs sl) : aw G pc L (.int y :: .int x :: st) h cs sl := by
  obtain ⟨p, l, e, R, s, m, args, below, meth, c, Q, E, nL⟩ := G
  exact fun c1 s1 H locs ls hW hS hls => lv_irem C.1 C.2.1 hd hne (k c1 (hz_s1c (hz_s1t (hz_s1t s1)) rfl) H locs ls hW hS hls)
def hz_ushr (x y : Int32) : Int32 := (x.toUInt32 >>> (y.toUInt32 &&& Int32.toUInt32 31)).toInt32
theorem aw_iushr (C : Cx G cc own nm ret rm ro h') {x y : Int32} (hd : decode cc pc = .ok (.iushr, 1)) (k : aw G (pc + 1) L (.int (hz_ushr x y) :: st) h cs sl) : aw G pc L (.int y :: .int x :: st) h cs sl := by
  obtain ⟨p, l, e, R, s, m, args, below, meth, c, Q, E, nL⟩ := G
  exact fun c1 s1 H locs ls hW hS hls => lv_iushr C.1 C.2.1 hd rfl (k c1 (hz_s1c (hz_s1t (hz_s1t s1)) rfl) H locs ls hW hS hls)
theorem aw_ineg (C : Cx G cc own nm ret rm ro h') {x : Int32} (hd : decode cc pc = .ok (.ineg, 1)) (k : aw G (pc + 1) L (.int (-x) :: st) h cs sl) : aw G pc L (.int x :: st) h cs sl := by
  obtain ⟨p, l, e, R, s, m, args, below, meth, c, Q, E, nL⟩ := G
  exact fun c1 s1 H locs ls hW hS hls => lv_ineg C.1 C.2.1 hd (k c1 (hz_s1c (hz_s1t s1) rfl) H locs ls hW hS hls)
theorem aw_goto (C : Cx G cc own nm ret rm ro h') {off : Int} {tgt : Nat} (hd : decode cc pc = .ok (.goto off, 3)) (ht : (pc : Int) + off = (tgt : Int)) (k : aw G tgt L st h cs sl) : aw G pc L st h cs sl := by
  obtain ⟨p, l, e, R, s, m, args, below, meth, c, Q, E, nL⟩ := G
  exact fun c1 s1 H locs ls hW hS hls => lv_goto C.1 C.2.1 hd ht (k c1 s1 H locs ls hW hS hls)
theorem aw_if_eq (C : Cx G cc own nm ret rm ro h') {x : Int32} {off : Int} {tgt : Nat} (hd : decode cc pc = .ok (.ifCond .eq off, 3)) (ht : (pc : Int) + off = (tgt : Int)) (kt : x = 0 → aw G tgt L st h cs sl) (kf : ¬ x = 0 → aw G (pc + 3) L st h cs sl) : aw G pc L (.int x :: st) h cs sl := by
  obtain ⟨p, l, e, R, s, m, args, below, meth, c, Q, E, nL⟩ := G
  exact fun c1 s1 H locs ls hW hS hls => lv_if_eq C.1 C.2.1 hd ht (fun z => kt z c1 (hz_s1t s1) H locs ls hW hS hls) (fun z => kf z c1 (hz_s1t s1) H locs ls hW hS hls)
theorem aw_icmp_eq (C : Cx G cc own nm ret rm ro h') {x y : Int32} {off : Int} {tgt : Nat} (hd : decode cc pc = .ok (.if_icmp .eq off, 3)) (ht : (pc : Int) + off = (tgt : Int)) (kt : x = y → aw G tgt L st h cs sl) (kf : ¬ x = y → aw G (pc + 3) L st h cs sl) : aw G pc L (.int y :: .int x :: st) h cs sl := by
  obtain ⟨p, l, e, R, s, m, args, below, meth, c, Q, E, nL⟩ := G
  exact fun c1 s1 H locs ls hW hS hls => lv_icmp_eq C.1 C.2.1 hd ht (fun z => kt z c1 (hz_s1t (hz_s1t s1)) H locs ls hW hS hls) (fun z => kf z c1 (hz_s1t (hz_s1t s1)) H locs ls hW hS hls)
theorem aw_if_ne (C : Cx G cc own nm ret rm ro h') {x : Int32} {off : Int} {tgt : Nat} (hd : decode cc pc = .ok (.ifCond .ne off, 3)) (ht : (pc : Int) + off = (tgt : Int)) (kt : ¬ x = 0 → aw G tgt L st h cs sl) (kf : x = 0 → aw G (pc + 3) L st h cs sl) : aw G pc L (.int x :: st) h cs sl := by
  obtain ⟨p, l, e, R, s, m, args, below, meth, c, Q, E, nL⟩ := G
  exact fun c1 s1 H locs ls hW hS hls => lv_if_ne C.1 C.2.1 hd ht (fun z => kt z c1 (hz_s1t s1) H locs ls hW hS hls) (fun z => kf z c1 (hz_s1t s1) H locs ls hW hS hls)
theorem aw_icmp_ne (C : Cx G cc own nm ret rm ro h') {x y : Int32} {off : Int} {tgt : Nat} (hd : decode cc pc = .ok (.if_icmp .ne off, 3)) (ht : (pc : Int) + off = (tgt : Int)) (kt : ¬ x = y → aw G tgt L st h cs sl) (kf : x = y → aw G (pc + 3) L st h cs sl) : aw G pc L (.int y :: .int x :: st) h cs sl := by
  obtain ⟨p, l, e, R, s, m, args, below, meth, c, Q, E, nL⟩ := G
  exact fun c1 s1 H locs ls hW hS hls => lv_icmp_ne C.1 C.2.1 hd ht (fun z => kt z c1 (hz_s1t (hz_s1t s1)) H locs ls hW hS hls) (fun z => kf z c1 (hz_s1t (hz_s1t s1)) H locs ls hW hS hls)
theorem aw_if_lt (C : Cx G cc own nm ret rm ro h') {x : Int32} {off : Int} {tgt : Nat} (hd : decode cc pc = .ok (.ifCond .lt off, 3)) (ht : (pc : Int) + off = (tgt : Int)) (kt : x < 0 → aw G tgt L st h cs sl) (kf : ¬ x < 0 → aw G (pc + 3) L st h cs sl) : aw G pc L (.int x :: st) h cs sl := by
  obtain ⟨p, l, e, R, s, m, args, below, meth, c, Q, E, nL⟩ := G
  exact fun c1 s1 H locs ls hW hS hls => lv_if_lt C.1 C.2.1 hd ht (fun z => kt z c1 (hz_s1t s1) H locs ls hW hS hls) (fun z => kf z c1 (hz_s1t s1) H locs ls hW hS hls)
theorem aw_icmp_lt (C : Cx G cc own nm ret rm ro h') {x y : Int32} {off : Int} {tgt : Nat} (hd : decode cc pc = .ok (.if_icmp .lt off, 3)) (ht : (pc : Int) + off = (tgt : Int)) (kt : x < y → aw G tgt L st h cs sl) (kf : ¬ x < y → aw G (pc + 3) L st h cs sl) : aw G pc L (.int y :: .int x :: st) h cs sl := by
  obtain ⟨p, l, e, R, s, m, args, below, meth, c, Q, E, nL⟩ := G
  exact fun c1 s1 H locs ls hW hS hls => lv_icmp_lt C.1 C.2.1 hd ht (fun z => kt z c1 (hz_s1t (hz_s1t s1)) H locs ls hW hS hls) (fun z => kf z c1 (hz_s1t (hz_s1t s1)) H locs ls hW hS hls)
theorem aw_if_ge (C : Cx G cc own nm ret rm ro h') {x : Int32} {off : Int} {tgt : Nat} (hd : decode cc pc = .ok (.ifCond .ge off, 3)) (ht : (pc : Int) + off = (tgt : Int)) (kt : 0 ≤ x → aw G tgt L st h cs sl) (kf : ¬ 0 ≤ x → aw G (pc + 3) L st h cs sl) : aw G pc L (.int x :: st) h cs sl := by
  obtain ⟨p, l, e, R, s, m, args, below, meth, c, Q, E, nL⟩ := G
  exact fun c1 s1 H locs ls hW hS hls => lv_if_ge C.1 C.2.1 hd ht (fun z => kt z c1 (hz_s1t s1) H locs ls hW hS hls) (fun z => kf z c1 (hz_s1t s1) H locs ls hW hS hls)
theorem aw_icmp_ge (C : Cx G cc own nm ret rm ro h') {x y : Int32} {off : Int} {tgt : Nat} (hd : decode cc pc = .ok (.if_icmp .ge off, 3)) (ht : (pc : Int) + off = (tgt : Int)) (kt : y ≤ x → aw G tgt L st h cs sl) (kf : ¬ y ≤ x → aw G (pc + 3) L st h cs sl) : aw G pc L (.int y :: .int x :: st) h cs sl := by
  obtain ⟨p, l, e, R, s, m, args, below, meth, c, Q, E, nL⟩ := G
  exact fun c1 s1 H locs ls hW hS hls => lv_icmp_ge C.1 C.2.1 hd ht (fun z => kt z c1 (hz_s1t (hz_s1t s1)) H locs ls hW hS hls) (fun z => kf z c1 (hz_s1t (hz_s1t s1)) H locs ls hW hS hls)
theorem aw_if_gt (C : Cx G cc own nm ret rm ro h') {x : Int32} {off : Int} {tgt : Nat} (hd : decode cc pc = .ok (.ifCond .gt off, 3)) (ht : (pc : Int) + off = (tgt : Int)) (kt : 0 < x → aw G tgt L st h cs sl) (kf : ¬ 0 < x → aw G (pc + 3) L st h cs sl) : aw G pc L (.int x :: st) h cs sl := by
  obtain ⟨p, l, e, R, s, m, args, below, meth, c, Q, E, nL⟩ := G
  exact fun c1 s1 H locs ls hW hS hls => lv_if_gt C.1 C.2.1 hd ht (fun z => kt z c1 (hz_s1t s1) H locs ls hW hS hls) (fun z => kf z c1 (hz_s1t s1) H locs ls hW hS hls)
theorem aw_icmp_gt (C : Cx G cc own nm ret rm ro h') {x y : Int32} {off : Int} {tgt : Nat} (hd : decode cc pc = .ok (.if_icmp .gt off, 3)) (ht : (pc : Int) + off = (tgt : Int)) (kt : y < x → aw G tgt L st h cs sl) (kf : ¬ y < x → aw G (pc + 3) L st h cs sl) : aw G pc L (.int y :: .int x :: st) h cs sl := by
  obtain ⟨p, l, e, R, s, m, args, below, meth, c, Q, E, nL⟩ := G
  exact fun c1 s1 H locs ls hW hS hls => lv_icmp_gt C.1 C.2.1 hd ht (fun z => kt z c1 (hz_s1t (hz_s1t s1)) H locs ls hW hS hls) (fun z => kf z c1 (hz_s1t (hz_s1t s1)) H locs ls hW hS hls)
theorem aw_if_le (C : Cx G cc own nm ret rm ro h') {x : Int32} {off : Int} {tgt : Nat} (hd : decode cc pc = .ok (.ifCond .le off, 3)) (ht : (pc : Int) + off = (tgt : Int)) (kt : x ≤ 0 → aw G tgt L st h cs sl) (kf : ¬ x ≤ 0 → aw G (pc + 3) L st h cs sl) : aw G pc L (.int x :: st) h cs sl := by
  obtain ⟨p, l, e, R, s, m, args, below, meth, c, Q, E, nL⟩ := G
  exact fun c1 s1 H locs ls hW hS hls => lv_if_le C.1 C.2.1 hd ht (fun z => kt z c1 (hz_s1t s1) H locs ls hW hS hls) (fun z => kf z c1 (hz_s1t s1) H locs ls hW hS hls)
theorem aw_icmp_le (C : Cx G cc own nm ret rm ro h') {x y : Int32} {off : Int} {tgt : Nat} (hd : decode cc pc = .ok (.if_icmp .le off, 3)) (ht : (pc : Int) + off = (tgt : Int)) (kt : x ≤ y → aw G tgt L st h cs sl) (kf : ¬ x ≤ y → aw G (pc + 3) L st h cs sl) : aw G pc L (.int y :: .int x :: st) h cs sl := by
  obtain ⟨p, l, e, R, s, m, args, below, meth, c, Q, E, nL⟩ := G
  exact fun c1 s1 H locs ls hW hS hls => lv_icmp_le C.1 C.2.1 hd ht (fun z => kt z c1 (hz_s1t (hz_s1t s1)) H locs ls hW hS hls) (fun z => kf z c1 (hz_s1t (hz_s1t s1)) H locs ls hW hS hls)
theorem aw_ifnull (C : Cx G cc own nm ret rm ro h') {x : Option Nat} {off : Int} {tgt : Nat} (hd : decode cc pc = .ok (.ifnull off, 3)) (ht : (pc : Int) + off = (tgt : Int)) (kt : x = none → aw G tgt L st h cs sl) (kf : ¬ x = none → aw G (pc + 3) L st h cs sl) : aw G pc L (va_rf x :: st) h cs sl := by
  obtain ⟨p, l, e, R, s, m, args, below, meth, c, Q, E, nL⟩ := G
  cases x with
  | none => exact fun c1 s1 H locs ls hW hS hls => lv_ifnullN C.1 C.2.1 hd ht (kt rfl c1 (hz_s1t s1) H locs ls hW hS hls)
  | some x => exact fun c1 s1 H locs ls hW hS hls => lv_ifnull C.1 C.2.1 hd (kf (by simp) c1 (hz_s1t s1) H locs ls hW hS hls)
theorem aw_ifnonnull (C : Cx G cc own nm ret rm ro h') {x : Option Nat} {off : Int} {tgt : Nat} (hd : decode cc pc = .ok (.ifnonnull off, 3)) (ht : (pc : Int) + off = (tgt : Int)) (kt : ¬ x = none → aw G tgt L st h cs sl) (kf : x = none → aw G (pc + 3) L st h cs sl) : aw G pc L (va_rf x :: st) h cs sl := by
  obtain ⟨p, l, e, R, s, m, args, below, meth, c, Q, E, nL⟩ := G
  cases x with
  | none => exact fun c1 s1 H locs ls hW hS hls => lv_ifnonnullN C.1 C.2.1 hd (kf rfl c1 (hz_s1t s1) H locs ls hW hS hls)
  | some x => exact fun c1 s1 H locs ls hW hS hls => lv_ifnonnull C.1 C.2.1 hd ht (kt (by simp) c1 (hz_s1t s1) H locs ls hW hS hls)
theorem aw_tabO (C : Cx G cc own nm ret rm ro h') {dflt lo hi : Int} {offs : Array Int} {len : Nat} {x : Int32} {tgt : Nat} (hd : decode cc pc = .ok (.tableswitch dflt lo hi offs, len)) (hx : x.toInt < lo ∨ hi < x.toInt) (ht : (pc : Int) + dflt = (tgt : Int)) (k : aw G tgt L st h cs sl) : aw G pc L (.int x :: st) h cs sl := by
  obtain ⟨p, l, e, R, s, m, args, below, meth, c, Q, E, nL⟩ := G
  exact fun c1 s1 H locs ls hW hS hls => lv_tableOut C.1 C.2.1 hd hx ht (k c1 (hz_s1t s1) H locs ls hW hS hls)
theorem aw_tabI (C : Cx G cc own nm ret rm ro h') {dflt lo hi : Int} {offs : Array Int} {len : Nat} {x : Int32} {off a : Int} {tgt : Nat} (hd : decode cc pc = .ok (.tableswitch dflt lo hi offs, len)) (hx : x.toInt = a) (h1 : ¬ a < lo) (h2 : ¬ hi < a) (ho : offs[(a - lo).toNat]? = some off) (ht : (pc : Int) + off = (tgt : Int)) (k : aw G tgt L st h cs sl) : aw G pc L (.int x :: st) h cs sl := by
  subst hx
  obtain ⟨p, l, e, R, s, m, args, below, meth, c, Q, E, nL⟩ := G
  exact fun c1 s1 H locs ls hW hS hls => lv_tableIn C.1 C.2.1 hd h1 h2 ho ht (k c1 (hz_s1t s1) H locs ls hW hS hls)
end RW
end
section
/-! heap instructions over abstract heaps -/
theorem hz_sameF {s : State} {C n d : String} : ∀ x, s.fieldFound? C n d = some x → s.fieldFound? C n d = some x := fun _ h => h
theorem hz_cwl (E : EV) (t : Nat) (ht : t < 4) : (hz_tys E)[t]? = some (E.2.1 t, hz_ty t) := by
  match t, ht with
  | 0, _ => rfl
  | 1, _ => rfl
  | 2, _ => rfl
  | 3, _ => rfl
theorem hz_CI (E : EV) (t n : Nat) (f : Nat → Int32) : hz_C E (.inl (t, n, .inl f)) = .inl (E.2.1 t, n, .inl f) := rfl
theorem hz_CQ (E : EV) (t n : Nat) (f : Nat → Option Nat) : hz_C E (.inl (t, n, .inr (.inr (.inr (.inr f))))) = .inl (E.2.1 t, n, .inr (.inr (.inr (.inr (fun j => (f j).map E.2.2))))) := rfl
theorem hz_CO (E : EV) (c : Nat) (fs : List Value) : hz_C E (.inr (c, fs)) = .inr (c, fs.map (hz_v E)) := rfl
/-- what a putfield asks of a value -/
def hz_fit (ty : FieldType) (v : Value) : Prop := ∀ E : EV, narrow ty (hz_v E v) = hz_v E v ∧ fits ty (hz_v E v) = true
theorem hz_fiti (x : Int32) : hz_fit .int (.int x) := fun _ => ⟨rfl, rfl⟩
theorem hz_fito (C : String) (r : Option Nat) : hz_fit (.object C) (va_rf r) := fun E => by cases r <;> exact ⟨rfl, rfl⟩
theorem hz_fita (t : FieldType) (r : Option Nat) : hz_fit (.array t) (va_rf r) := fun E => by cases r <;> exact ⟨rfl, rfl⟩
/-- a class of ours as the tables have it -/
def hz_Cl (ci : Nat) (C : String) (T : u_T) (ty : Nat → FieldType) (N : Nat) : Prop := vwCl[ci]? = some (C, T, N) ∧ (∀ w ∈ u_ws C T N, w ∈ hz_T) ∧ (∀ k, k < N → parseFieldDescriptor (T k).2.2.1 = some (ty k)) ∧ (∀ a, a < N → ∀ b, b < N → a ≠ b → (T a).2.1 ≠ (T b).2.1) ∧ (∀ k, k < N → (T k).1 = C)
theorem hz_upd {E : EV} {h : HP} {H H1 : Heap} {a k : Nat} {c : HC} {locs : List Loc} {H0 : Heap} (hi : hz_In E) (hW : hz_W E h H) (hS : va_S (hz_R E) H0 H locs) (g1 : 1 ≤ a) (g2 : a ≤ h.1) (he : va_at E.1 vwCl (E.2.2 a, hz_C E c) H1) (z : H1.size = H.size) (oq : ∀ q : Nat, q ≠ E.2.2 a → H1[q]? = H[q]?) : hz_W E (h.1, va_up h.2 a c) H1 ∧ va_S (hz_R E) H0 H1 (locs ++ [⟨E.2.2 a, k⟩]) :=
  ⟨hz_Wset hW g1 g2 (hW.1.set (hz_wD hi) (hz_wget g1 g2) he oq) z, hS.put z oq ⟨a, g1, rfl⟩⟩
theorem hz_new {E : EV} {h : HP} {H H1 : Heap} {c : HC} {locs : List Loc} {H0 : Heap} (hW : hz_W E h H) (hS : va_S (hz_R E) H0 H locs) (he : va_at E.1 vwCl (H.size, hz_C E c) H1) (z : H1.size = H.size + 1) (oq : ∀ q : Nat, q < H.size → H1[q]? = H[q]?) : E.2.2 (h.1 + 1) = H.size ∧ hz_W E (h.1 + 1, va_up h.2 (h.1 + 1) c) H1 ∧ va_S (hz_R E) H0 H1 locs := by
  have ha : E.2.2 (h.1 + 1) = H.size := by
    rw [hW.2 _ (by omega)]
    omega
  refine ⟨ha, ⟨?_, fun k hk => ?_⟩, Nat.le_trans hS.1 (by omega), fun q h1 h2 => (oq q (Nat.lt_of_lt_of_le h1 hS.1)).trans (hS.2.1 q h1 h2), hS.2.2⟩
  · rw [hz_wpush, ha]
    refine va_P.app (hW.1.kept (fun k q hq => oq q.1 ((hW.1 k q hq).lt))) (fun k q hq => ?_)
    have hz : k < 1 := (List.getElem?_eq_some_iff.mp hq).1
    rw [show k = 0 by omega] at hq
    cases hq
    exact he
  · have hk : h.1 + 1 < k := hk
    rw [hW.2 k (by omega), z]
    show _ = H.size + 1 + (k - (h.1 + 1) - 1)
    omega
/-- what a store of a field does, as the kit tells it of a cell -/
theorem hz_fobj {E : EV} {H1 : Heap} {s : State} {args : Array Value} {own K : String} {T : u_T} {ty : Nat → FieldType} {N ci k a : Nat} {fs : List Value} {v : Value} {cell : Cell} (hts : ∀ w ∈ hz_T, w.before args s = true) (hc : hz_Cl ci K T ty N) (hK : va_K E.1 vwCl (hz_tys E) s) (hk : k < N) (hl : k < fs.length) (q2 : cell.cls = E.1.1 ci) (q3 : cell.vm = .none) (q4 : ∀ j : Nat, j < N → cell.slots[E.1.2 ci j]? = some (vp_V (fs.map (hz_v E)) j)) (e1 : H1[E.2.2 a]? = some (cell.setSlot (E.1.2 ci k) (hz_v E v))) : va_at E.1 vwCl (E.2.2 a, hz_C E (.inr (ci, fs.set k v))) H1 := by
  have hap := va_apart (own := own) hts hc.2.1 ty hc.2.2.1 hc.2.2.2.1 hK hc.1
  refine ⟨_, hc.1, ?_⟩
  show t_OB _ _ _ _ _ (vp_V ((fs.set k v).map (hz_v E)))
  rw [List.map_set]
  exact t_OB.to (V := updV (vp_V (fs.map (hz_v E))) k (hz_v E v)) ⟨_, e1, q2, q3, t_set q4 hap hk (hz_v E v)⟩ (fun j _ => vp_updV_set (by rw [List.length_map]; exact hl) (hz_v E v) j)
section HR
variable {G : GX} {cc : ByteArray} {own nm : String} {ret : Option FieldType} {rm : Room} {ro : Option Value} {h' : HP} {pc : Nat} {L : List (Option Value)} {st : List Value} {h : HP} {cs sl : Nat}
theorem aw_gF (C : Cx G cc own nm ret rm ro h') {ci k N ix : Nat} {K : String} {T : u_T} {ty : Nat → FieldType} (hc : hz_Cl ci K T ty N) (hk : k < N) (hl : Cond.fieldLink own ix K (T k).2.1 (T k).2.2.1 ∈ hz_T) {r : Option Nat} {v : Value} (hv : v.category = 1) (hg : hz_gF h r ci k = some v) (hd : decode cc pc = .ok (.getfield ix, 3)) (kk : aw G (pc + 3) L (v :: st) h cs sl) : aw G pc L (va_rf r :: st) h cs sl := by
  obtain ⟨p, l, e, R, s, m, args, below, meth, c, Q, E, nL⟩ := G
  obtain ⟨a, fs, rfl, h1, h2, h3, h4⟩ := hz_gF_of hg
  intro c1 s1 H locs ls hW hS hls
  have hw := hz_wget (E := E) h1 h2
  rw [h3, hz_CO] at hw
  exact va_get C.1 C.2.1 C.2.2.2.2.1 hc.2.1 C.2.2.2.1 C.2.2.2.2.2.1.2.1 hW.1 _ hw hc.1 k hk (C.2.2.2.2.1 _ hl) (by rw [hc.2.2.2.2 k hk]; exact hz_sameF) (v := hz_v E v) (by rw [List.getElem?_map, h4]; rfl) hd (kk c1 (hz_s1c (hz_s1t s1) hv) H locs ls hW hS hls)
theorem aw_gI (C : Cx G cc own nm ret rm ro h') {ci k N ix : Nat} {K : String} {T : u_T} {ty : Nat → FieldType} (hc : hz_Cl ci K T ty N) (hk : k < N) (hl : Cond.fieldLink own ix K (T k).2.1 (T k).2.2.1 ∈ hz_T) {r : Option Nat} {v : Int32} (hg : hz_gI h r ci k = some v) (hd : decode cc pc = .ok (.getfield ix, 3)) (kk : aw G (pc + 3) L (.int v :: st) h cs sl) : aw G pc L (va_rf r :: st) h cs sl := aw_gF C hc hk hl rfl (hz_gI_of hg) hd kk
theorem aw_gR (C : Cx G cc own nm ret rm ro h') {ci k N ix : Nat} {K : String} {T : u_T} {ty : Nat → FieldType} (hc : hz_Cl ci K T ty N) (hk : k < N) (hl : Cond.fieldLink own ix K (T k).2.1 (T k).2.2.1 ∈ hz_T) {r v : Option Nat} (hg : hz_gR h r ci k = some v) (hd : decode cc pc = .ok (.getfield ix, 3)) (kk : aw G (pc + 3) L (va_rf v :: st) h cs sl) : aw G pc L (va_rf r :: st) h cs sl := aw_gF C hc hk hl (hz_cr v) (hz_gR_of hg) hd kk
theorem aw_pF (C : Cx G cc own nm ret rm ro h') {ci k N ix : Nat} {K : String} {T : u_T} {ty : Nat → FieldType} (hc : hz_Cl ci K T ty N) (hk : k < N) (hfin : (T k).2.2.2 = false) (hl : Cond.fieldLink own ix K (T k).2.1 (T k).2.2.1 ∈ hz_T) {r : Option Nat} {v : Value} {h1 : HP} (hf : hz_fit (ty k) v) (hg : hz_pF h r ci k v = some h1) (hd : decode cc pc = .ok (.putfield ix, 3)) (kk : aw G (pc + 3) L st h1 cs sl) : aw G pc L (v :: va_rf r :: st) h cs sl := by
  obtain ⟨p, l, e, R, s, m, args, below, meth, c, Q, E, nL⟩ := G
  obtain ⟨a, fs, rfl, g1, g2, g3, g4, rfl⟩ := hz_pF_of hg
  obtain ⟨hx, hb, -, hown, hts, ⟨hi, hK, -⟩, -⟩ := C
  intro c1 s1 H locs ls hW hS hls
  have hw := hz_wget (E := E) g1 g2
  rw [g3, hz_CO] at hw
  obtain ⟨r', q1, cell, q2, q3, q4, q5⟩ := hW.1 _ _ hw
  have hr : r' = (K, T, N) := Option.some.inj (q1.symm.trans hc.1)
  subst hr
  obtain ⟨hSl, hfc, kC, hkC, hkind⟩ := hK.1 ci _ hc.1
  obtain ⟨cf, kf, fi, f, hfi, hsl⟩ := hSl k hk
  have hlay := hts _ (hc.2.1 _ (u_in_lay hk))
  unfold u_lay at hlay
  rw [if_neg (by rw [hfin]; decide)] at hlay
  have hst := (u_facts hfc hkC (u_lays hts hc.2.1 hk) hfi).1
  have h6 := u_store hfc hkC hkind hlay hfi (hc.2.2.1 k hk) (hf E).1 (hf E).2
  have hfi' : s.fieldFound? K (T k).2.1 (T k).2.2.1 = some (cf, kf, fi, f) := by
    have := hfi
    rw [hc.2.2.2.2 k hk] at this
    exact this
  refine W.putK hx hb (f := f) ⟨hown, hts _ hl, ⟨_, _, _, hfi'⟩, hst⟩ (by rw [q3]; exact h6) q2 q4 (by rw [hsl]; exact k2_hasslot (q5 k hk)) rfl rfl hd fun H' e1 e2 e3 => ?_
  rw [hsl] at e1 ⊢
  obtain ⟨hW1, hS1⟩ := hz_upd (c := .inr (ci, fs.set k v)) (k := E.1.2 ci k) hi hW hS g1 g2 (hz_fobj (own := own) hts hc hK hk g4 q3 q4 q5 e1) e2 e3
  exact kk c1 (hz_s1t (hz_s1t s1)) H' _ ls hW1 hS1 hls
theorem aw_pFF (C : Cx G cc own "<init>" ret rm ro h') {ci k N ix : Nat} {T : u_T} {ty : Nat → FieldType} (hc : hz_Cl ci own T ty N) (hk : k < N) (hfin : (T k).2.2.2 = true) (hl : Cond.fieldLink own ix own (T k).2.1 (T k).2.2.1 ∈ hz_T) {r : Option Nat} {v : Value} {h1 : HP} (hf : hz_fit (ty k) v) (hg : hz_pF h r ci k v = some h1) (hd : decode cc pc = .ok (.putfield ix, 3)) (kk : aw G (pc + 3) L st h1 cs sl) : aw G pc L (v :: va_rf r :: st) h cs sl := by
  obtain ⟨p, l, e, R, s, m, args, below, meth, c, Q, E, nL⟩ := G
  obtain ⟨a, fs, rfl, g1, g2, g3, g4, rfl⟩ := hz_pF_of hg
  obtain ⟨hx, hb, -, hown, hts, ⟨hi, hK, -⟩, -, -, hin2, -⟩ := C
  intro c1 s1 H locs ls hW hS hls
  have hw := hz_wget (E := E) g1 g2
  rw [g3, hz_CO] at hw
  obtain ⟨r', q1, cell, q2, q3, q4, q5⟩ := hW.1 _ _ hw
  have hr : r' = (own, T, N) := Option.some.inj (q1.symm.trans hc.1)
  subst hr
  obtain ⟨hSl, hfc, kC, hkC, hkind⟩ := hK.1 ci _ hc.1
  obtain ⟨cf, kf, fi, f, hfi, hsl⟩ := hSl k hk
  have hlay := hts _ (hc.2.1 _ (u_in_lay hk))
  unfold u_lay at hlay
  rw [if_pos hfin] at hlay
  have hst := (u_facts hfc hkC (u_lays hts hc.2.1 hk) hfi).1
  have hcf : m.cls = cf := by
    obtain ⟨_, _, c', _, _, _, -, -, hf', -, -, -, hown2, -⟩ := Cond.laysFinal_spec hlay
    have e1 : c' = cf := by have := hfi.symm.trans hf'; simp at this; exact this.1.symm
    rw [hc.2.2.2.2 k hk] at hown2
    rw [← e1]; exact Option.some.inj (hown.symm.trans hown2)
  have h6 := u_fits hfc hkC hkind (Or.inr hlay) hfi (hc.2.2.1 k hk) (hf E).1 (hf E).2
  have hfi' : s.fieldFound? own (T k).2.1 (T k).2.2.1 = some (cf, kf, fi, f) := by
    have := hfi
    rw [hc.2.2.2.2 k hk] at this
    exact this
  refine W.putFinK hx hb hown (hts _ hl) hfi' hst hcf hin2 (by rw [q3]; exact h6) q2 q4 (by rw [hsl]; exact k2_hasslot (q5 k hk)) rfl rfl hd fun H' e1 e2 e3 => ?_
  rw [hsl] at e1 ⊢
  obtain ⟨hW1, hS1⟩ := hz_upd (c := .inr (ci, fs.set k v)) (k := E.1.2 ci k) hi hW hS g1 g2 (hz_fobj (own := own) hts hc hK hk g4 q3 q4 q5 e1) e2 e3
  exact kk c1 (hz_s1t (hz_s1t s1)) H' _ ls hW1 hS1 hls
theorem aw_gets (C : Cx G cc own nm ret rm ro h') {ix : Nat} {host : String} (hl : Cond.fieldLinkNest own ix "GroupCast" "NO_ACTS" "[I" host ∈ hz_N) (hd : decode cc pc = .ok (.getstatic ix, 3)) (kk : aw G (pc + 3) L (va_rf (some 0) :: st) h cs sl) : aw G pc L st h cs sl := by
  obtain ⟨p, l, e, R, s, m, args, below, meth, c, Q, E, nL⟩ := G
  obtain ⟨hx, hb, -, hown, hts, ⟨hi, hK, hN, hZ, hT, -⟩, -⟩ := C
  exact fun c1 s1 H locs ls hW hS hls => va_getsN hx hb hZ hS hown (va_Nw.use rfl (hN _ hl)) hz_sameF hd (kk c1 (hz_s1c s1 rfl) H locs ls hW hS hls)
theorem aw_alen (C : Cx G cc own nm ret rm ro h') {r : Option Nat} {v : Int32} (hg : hz_aL h r = some v) (hd : decode cc pc = .ok (.arraylength, 1)) (kk : aw G (pc + 1) L (.int v :: st) h cs sl) : aw G pc L (va_rf r :: st) h cs sl := by
  obtain ⟨p, l, e, R, s, m, args, below, meth, c, Q, E, nL⟩ := G
  obtain ⟨hx, hb, -, hown, hts, ⟨hi, hK, hN, hZ, hT, -⟩, -⟩ := C
  obtain ⟨a, rfl, ⟨rfl, rfl⟩ | ⟨t, y, ht, g1, g2, g3, rfl⟩⟩ := hz_aL_of hg
  · exact fun c1 s1 H locs ls hW hS hls => va_tlen hx hb hT hS rfl hd (kk c1 (hz_s1c (hz_s1t s1) rfl) H locs ls hW hS hls)
  · intro c1 s1 H locs ls hW hS hls
    have hw := hz_wget (E := E) g1 g2
    rw [g3] at hw
    exact va_alen hx hb hK hW.1 _ t (x := hz_A E y) hw (hz_cwl E t ht) rfl hd (kk c1 (hz_s1c (hz_s1t s1) rfl) H locs ls hW hS hls)
theorem aw_iald (C : Cx G cc own nm ret rm ro h') {r : Option Nat} {i v : Int32} (hg : hz_aI h r 0 i = some v) (hd : decode cc pc = .ok (.iaload, 1)) (kk : aw G (pc + 1) L (.int v :: st) h cs sl) : aw G pc L (.int i :: va_rf r :: st) h cs sl := by
  obtain ⟨p, l, e, R, s, m, args, below, meth, c, Q, E, nL⟩ := G
  obtain ⟨hx, hb, -, hown, hts, ⟨hi, hK, -⟩, -⟩ := C
  obtain ⟨a, n, f, rfl, g1, g2, g3, g4, rfl⟩ := hz_aI_of hg
  intro c1 s1 H locs ls hW hS hls
  have hw := hz_wget (E := E) g1 g2
  rw [g3, hz_CI] at hw
  exact va_iald hx hb hK hW.1 _ 0 hw rfl g4 hd (kk c1 (hz_s1c (hz_s1t (hz_s1t s1)) rfl) H locs ls hW hS hls)
theorem aw_bald (C : Cx G cc own nm ret rm ro h') {r : Option Nat} {i v : Int32} (hg : hz_aI h r 1 i = some v) (hd : decode cc pc = .ok (.baload, 1)) (kk : aw G (pc + 1) L (.int v :: st) h cs sl) : aw G pc L (.int i :: va_rf r :: st) h cs sl := by
  obtain ⟨p, l, e, R, s, m, args, below, meth, c, Q, E, nL⟩ := G
  obtain ⟨hx, hb, -, hown, hts, ⟨hi, hK, -⟩, -⟩ := C
  obtain ⟨a, n, f, rfl, g1, g2, g3, g4, rfl⟩ := hz_aI_of hg
  intro c1 s1 H locs ls hW hS hls
  have hw := hz_wget (E := E) g1 g2
  rw [g3, hz_CI] at hw
  exact va_zald hx hb hK hW.1 _ 1 hw rfl g4 hd (kk c1 (hz_s1c (hz_s1t (hz_s1t s1)) rfl) H locs ls hW hS hls)
theorem aw_iast (C : Cx G cc own nm ret rm ro h') {r : Option Nat} {i v : Int32} {h1 : HP} (hg : hz_aS h r 0 i v = some h1) (hd : decode cc pc = .ok (.iastore, 1)) (kk : aw G (pc + 1) L st h1 cs sl) : aw G pc L (.int v :: .int i :: va_rf r :: st) h cs sl := by
  obtain ⟨p, l, e, R, s, m, args, below, meth, c, Q, E, nL⟩ := G
  obtain ⟨hx, hb, -, hown, hts, ⟨hi, hK, -⟩, -⟩ := C
  obtain ⟨a, n, f, rfl, g1, g2, g3, g4, rfl⟩ := hz_aS_of hg
  intro c1 s1 H locs ls hW hS hls
  have hw := hz_wget (E := E) g1 g2
  rw [g3, hz_CI] at hw
  refine W.iast hx hb (hW.1 _ _ hw) ((hK.2 0 _ rfl).1 n (fun j => .int (f j))) (fun q => by cases q) (by show ¬ (i < 0 ∨ (arrV _ _ _).slots.size ≤ _); rw [arrV_size]; exact g4) rfl rfl hd fun H1 e z oq => ?_
  obtain ⟨hW1, hS1⟩ := hz_upd (c := .inl (0, n, .inl (va_up f i.toNatClampNeg (hz_nar 0 v)))) (k := i.toNatClampNeg) hi hW hS g1 g2 (by
    show H1[E.2.2 a]? = some (vp_cell (E.2.1 0) (n, .inl (va_up f i.toNatClampNeg (hz_nar 0 v))))
    rw [e]
    show some ((vp_cell (E.2.1 0) (n, .inl f)).setSlot _ _) = _
    rw [vp_cell_i, vp_cell_i, arrV_store]
    congr 2
    funext q
    by_cases hq : q = i.toNatClampNeg
    · subst hq
      simp [updV, va_up, hz_nar]
    · simp [updV, va_up, hq]) z oq
  exact kk c1 (hz_s1t (hz_s1t (hz_s1t s1))) H1 _ ls hW1 hS1 hls
theorem aw_bast (C : Cx G cc own nm ret rm ro h') {r : Option Nat} {i v : Int32} {h1 : HP} (hg : hz_aS h r 1 i v = some h1) (hd : decode cc pc = .ok (.bastore, 1)) (kk : aw G (pc + 1) L st h1 cs sl) : aw G pc L (.int v :: .int i :: va_rf r :: st) h cs sl := by
  obtain ⟨p, l, e, R, s, m, args, below, meth, c, Q, E, nL⟩ := G
  obtain ⟨hx, hb, -, hown, hts, ⟨hi, hK, -⟩, -⟩ := C
  obtain ⟨a, n, f, rfl, g1, g2, g3, g4, rfl⟩ := hz_aS_of hg
  intro c1 s1 H locs ls hW hS hls
  have hw := hz_wget (E := E) g1 g2
  rw [g3, hz_CI] at hw
  refine W.zast hx hb (hW.1 _ _ hw) ((hK.2 1 _ rfl).1 n (fun j => .int (f j))) (fun q => by cases q) (by show ¬ (i < 0 ∨ (arrV _ _ _).slots.size ≤ _); rw [arrV_size]; exact g4) rfl rfl hd fun H1 e z oq => ?_
  obtain ⟨hW1, hS1⟩ := hz_upd (c := .inl (1, n, .inl (va_up f i.toNatClampNeg (hz_nar 1 v)))) (k := i.toNatClampNeg) hi hW hS g1 g2 (by
    show H1[E.2.2 a]? = some (vp_cell (E.2.1 1) (n, .inl (va_up f i.toNatClampNeg (hz_nar 1 v))))
    rw [e]
    show some ((vp_cell (E.2.1 1) (n, .inl f)).setSlot _ _) = _
    rw [vp_cell_i, vp_cell_i, arrV_store]
    congr 2
    funext q
    by_cases hq : q = i.toNatClampNeg
    · subst hq
      simp [updV, va_up, hz_nar, narrow]
    · simp [updV, va_up, hq]) z oq
  exact kk c1 (hz_s1t (hz_s1t (hz_s1t s1))) H1 _ ls hW1 hS1 hls
theorem aw_aald (C : Cx G cc own nm ret rm ro h') {t : Nat} {K : String} (ht : t < 4) (hty : hz_ty t = .object K) {r : Option Nat} {i : Int32} {v : Option Nat} (hg : hz_aR h r t i = some v) (hd : decode cc pc = .ok (.aaload, 1)) (kk : aw G (pc + 1) L (va_rf v :: st) h cs sl) : aw G pc L (.int i :: va_rf r :: st) h cs sl := by
  obtain ⟨p, l, e, R, s, m, args, below, meth, c, Q, E, nL⟩ := G
  obtain ⟨hx, hb, -, hown, hts, ⟨hi, hK, -⟩, -⟩ := C
  obtain ⟨a, n, f, rfl, g1, g2, g3, g4, rfl⟩ := hz_aR_of hg
  intro c1 s1 H locs ls hW hS hls
  have hw := hz_wget (E := E) g1 g2
  rw [g3, hz_CQ] at hw
  have k2 := kk c1 (hz_s1c (hz_s1t (hz_s1t s1)) (hz_cr _)) H locs ls hW hS hls
  rw [List.map_cons, hz_vr] at k2
  exact va_aldq hx hb hK hW.1 _ t hw (by rw [hz_cwl E t ht, hty]) g4 hd k2
theorem aw_aast (C : Cx G cc own nm ret rm ro h') {t ci N : Nat} {K : String} {T : u_T} (ht : t < 4) (hty : hz_ty t = .object K) (hc : vwCl[ci]? = some (K, T, N)) {r v : Option Nat} {i : Int32} {h1 : HP} (hg : hz_aT h r t ci i v = some h1) (hd : decode cc pc = .ok (.aastore, 1)) (kk : aw G (pc + 1) L st h1 cs sl) : aw G pc L (va_rf v :: .int i :: va_rf r :: st) h cs sl := by
  obtain ⟨p, l, e, R, s, m, args, below, meth, c, Q, E, nL⟩ := G
  obtain ⟨hx, hb, -, hown, hts, ⟨hi, hK, -⟩, -⟩ := C
  obtain ⟨a, n, f, b, fs, rfl, g1, g2, g3, g4, rfl, b1, b2, b3, rfl⟩ := hz_aT_of hg
  intro c1 s1 H locs ls hW hS hls
  have hw := hz_wget (E := E) g1 g2
  rw [g3, hz_CQ] at hw
  have hwv := hz_wget (E := E) b1 b2
  rw [b3, hz_CO] at hwv
  have hlt : i.toNatClampNeg < n := Nat.not_le.mp fun q => g4 (Or.inr q)
  have h0 : ¬ i < 0 := fun q => g4 (Or.inl q)
  obtain ⟨r', hr', cellV, v1, v2, v3, -⟩ := hW.1 _ _ hwv
  have hcls := (hK.1 ci _ hc).2
  have htt : (hz_tys E)[t]? = some (E.2.1 t, .object K) := by rw [hz_cwl E t ht, hty]
  obtain ⟨kA, comp, k1, k2, k3, -⟩ := (hK.2 t _ htt).2
  have hcomp : comp = E.1.1 ci := Option.some.inj (k3.symm.trans hcls.1)
  subst hcomp
  obtain ⟨kC, hkC, -⟩ := hcls.2
  refine W.aast hx hb (hW.1 _ _ hw) (fun q h => by cases h) (fun h => by cases h) k1 k2 rfl hkC ⟨h0, by show _ < (arrV _ _ _).slots.size; rw [arrV_size]; exact hlt⟩ v1 (fun q h => by rw [v3] at h; cases h) (by rw [v2]; exact hkC) (by rw [v2]; exact va_assign hcls) rfl rfl hd fun H1 e z oq => ?_
  obtain ⟨hW1, hS1⟩ := hz_upd (c := .inl (t, n, .inr (.inr (.inr (.inr (va_up f i.toNatClampNeg (some b))))))) (k := i.toNatClampNeg) hi hW hS g1 g2 (by
    show H1[E.2.2 a]? = some (vp_cell _ _)
    rw [e]
    show some ((vp_cell (E.2.1 t) (n, .inr (.inr (.inr (.inr (fun j => (f j).map E.2.2)))))).setSlot _ _) = some (vp_cell (E.2.1 t) (n, .inr (.inr (.inr (.inr (fun j => (va_up f i.toNatClampNeg (some b) j).map E.2.2))))))
    rw [vp_cell_q, vp_cell_q, arrV_store]
    congr 2
    funext q
    by_cases hq : q = i.toNatClampNeg
    · subst hq
      simp [updV, va_up, va_rf]
    · simp [updV, va_up, hq]) z oq
  exact kk c1 (hz_s1t (hz_s1t (hz_s1t s1))) H1 _ ls hW1 hS1 hls
theorem aw_new (C : Cx G cc own nm ret rm ro h') {ci N ix : Nat} {K : String} {T : u_T} {ty : Nat → FieldType} (hc : hz_Cl ci K T ty N) (hl : Cond.classLink own ix K ∈ hz_T) (hin : Cond.instantiable K N ∈ hz_T) (hini : Cond.initialized K ∈ hz_T) {fs : List Value} (hfs : ∀ E : EV, ∀ j, j < N → defaultValue (ty j) = vp_V (fs.map (hz_v E)) j) (hcs : cs + 1 ≤ rm.cells) (hsl : sl + N ≤ rm.slots) (hd : decode cc pc = .ok (.new ix, 3)) (kk : aw G (pc + 3) L (va_rf (some (h.1 + 1)) :: st) (hz_nO h ci fs) (cs + 1) (sl + N)) : aw G pc L st h cs sl := by
  obtain ⟨p, l, e, R, s, m, args, below, meth, c, Q, E, nL⟩ := G
  obtain ⟨hx, hb, -, hown, hts, ⟨hi, hK, -⟩, -, -, -, rfl, -⟩ := C
  intro c1 s1 H locs ls hW hS hls
  have hKn := hK.1 ci _ hc.1
  refine W.newcK hx hb hown (hts _ hl) (hts _ hin) (hts _ hini) rfl hd hcs hsl hKn.2.1 rfl fun H1 kC hkC e1 z1 o1 => ?_
  obtain ⟨ha, hW1, hS1⟩ := hz_new (c := .inr (ci, fs)) hW hS ⟨_, hc.1, (u_born ty hts hc.2.1 hKn hkC e1 hc.2.2.1).to (hfs E)⟩ z1 o1
  have k2 := kk c1 (hz_s1c s1 rfl) H1 locs ls hW1 hS1 hls
  rw [List.map_cons, hz_vr, Option.map_some, ha] at k2
  exact k2
theorem aw_newa (C : Cx G cc own nm ret rm ro h') {t cap : Nat} {at0 : ArrayType} (ht : t < 2) (hat : newarray.typeOf at0 = hz_ty t) (hl : Cond.arrayClass (hz_ty t) ∈ hz_T) {n : Int32} {h1 : HP} (hg : hz_nA h t cap n = some h1) (hcap : cap ≤ 100000) (hcs : cs + 1 ≤ rm.cells) (hsl : sl + cap ≤ rm.slots) (hd : decode cc pc = .ok (.newarray at0, 2)) (kk : aw G (pc + 2) L (va_rf (some (h.1 + 1)) :: st) h1 (cs + 1) (sl + cap)) : aw G pc L (.int n :: st) h cs sl := by
  obtain ⟨p, l, e, R, s, m, args, below, meth, c, Q, E, nL⟩ := G
  obtain ⟨hx, hb, -, hown, hts, ⟨hi, hK, -⟩, -, -, -, rfl, -⟩ := C
  obtain ⟨g1, g2, rfl⟩ := hz_nA_of hg
  intro c1 s1 H locs ls hW hS hls
  have hdef : defaultValue (hz_ty t) = .int 0 := by
    match t, ht with
    | 0, _ => rfl
    | 1, _ => rfl
  have hbt : n.toNatClampNeg * componentBytes (newarray.typeOf at0) ≤ 536870912 := by
    rw [hat]
    have : componentBytes (hz_ty t) ≤ 8 := by
      match t, ht with
      | 0, _ => decide
      | 1, _ => decide
    calc n.toNatClampNeg * componentBytes (hz_ty t) ≤ 100000 * 8 := Nat.mul_le_mul (Nat.le_trans g2 hcap) this
      _ ≤ 536870912 := by decide
  refine va_newaK hx hb (by rw [hat]; exact hts _ hl) rfl hd rfl g1 rfl hbt hcs (Nat.le_trans (Nat.add_le_add_left g2 _) hsl) rfl fun H1 cA e1 z1 o1 hAr hNm => ?_
  rw [hat] at e1 hNm
  have hcA : cA = E.2.1 t := by
    have := (hK.2 t _ (hz_cwl E t (by omega))).2
    match t, ht with
    | 0, _ => exact Option.some.inj (hNm.symm.trans this)
    | 1, _ => exact Option.some.inj (hNm.symm.trans this)
  subst hcA
  obtain ⟨ha, hW1, hS1⟩ := hz_new (c := .inl (t, n.toNatClampNeg, .inl (fun _ => 0))) hW hS (by
    show H1[H.size]? = some (vp_cell _ (_, .inl _))
    rw [e1, vp_cell_i, hdef]) z1 o1
  refine W.widen (Nat.le_refl _) (Nat.add_le_add_left g2 _) ?_
  have k2 := kk c1 (hz_s1c (hz_s1t s1) rfl) H1 locs ls hW1 hS1 hls
  rw [List.map_cons, hz_vr, Option.map_some, ha] at k2
  exact k2
theorem aw_newq (C : Cx G cc own nm ret rm ro h') {t cap ix : Nat} {K : String} (ht : t < 4) (hty : hz_ty t = .object K) (hao : ∀ E U, hz_K E U → va_AO K U) (hl : Cond.classLink own ix K ∈ hz_T) {n : Int32} {h1 : HP} (hg : hz_nQ h t cap n = some h1) (hcap : cap ≤ 100000) (hcs : cs + 1 ≤ rm.cells) (hsl : sl + cap ≤ rm.slots) (hd : decode cc pc = .ok (.anewarray ix, 3)) (kk : aw G (pc + 3) L (va_rf (some (h.1 + 1)) :: st) h1 (cs + 1) (sl + cap)) : aw G pc L (.int n :: st) h cs sl := by
  obtain ⟨p, l, e, R, s, m, args, below, meth, c, Q, E, nL⟩ := G
  obtain ⟨hx, hb, -, hown, hts, hKK, -, -, -, rfl, -⟩ := C
  have hao := hao E s hKK
  obtain ⟨hi, hK, -⟩ := hKK
  obtain ⟨g1, g2, rfl⟩ := hz_nQ_of hg
  intro c1 s1 H locs ls hW hS hls
  refine W.anew hx hb hown (hts _ hl) (va_AO.use hao) rfl hd rfl g1 (by calc n.toNatClampNeg * 4 ≤ 100000 * 4 := Nat.mul_le_mul (Nat.le_trans g2 hcap) (Nat.le_refl _)
                                                                          _ ≤ 536870912 := by decide) hcs (Nat.le_trans (Nat.add_le_add_left g2 _) hsl) fun cA kA comp f1 f2 f3 f4 => ?_
  generalize hH1 : H.push ({ cls := cA, slots := Array.replicate n.toNatClampNeg .null, vm := .none } : Cell) = H1
  have z1 : H1.size = H.size + 1 := by rw [← hH1, Array.size_push]
  have e1 : H1[H.size]? = some (arrV cA n.toNatClampNeg (fun _ => .null)) := by rw [← hH1, Array.getElem?_push_size, ← arrV_new]
  have o1 : ∀ q : Nat, q < H.size → H1[q]? = H[q]? := fun q hq => by rw [← hH1, Array.getElem?_push, if_neg (Nat.ne_of_lt hq)]
  have htt : (hz_tys E)[t]? = some (E.2.1 t, .object K) := by rw [hz_cwl E t ht, hty]
  obtain ⟨kA', comp', -, -, -, k4⟩ := (hK.2 t _ htt).2
  have hcA : cA = E.2.1 t := Option.some.inj (f1.symm.trans k4)
  subst hcA
  obtain ⟨ha, hW1, hS1⟩ := hz_new (c := .inl (t, n.toNatClampNeg, .inr (.inr (.inr (.inr (fun _ => none)))))) hW hS (by
    show H1[H.size]? = some (vp_cell _ (_, .inr (.inr (.inr (.inr _)))))
    rw [e1, vp_cell_q]
    rfl) z1 o1
  refine W.widen (Nat.le_refl _) (Nat.add_le_add_left g2 _) ?_
  have k2 := kk c1 (hz_s1c (hz_s1t s1) rfl) H1 locs ls hW1 hS1 hls
  rw [List.map_cons, hz_vr, Option.map_some, ha] at k2
  exact k2
end HR
end
section
/-! calls, returns, and a contract out of a walk -/
theorem hz_goodIn {ws : List Cond} (h : ∀ w ∈ ws, w ∈ hz_T) : GoodIn hz_T ws := fun w hw => ⟨h w hw, good_of_word (List.mem_filter.mp (h w hw)).2⟩
/-- what the tables say of a method of ours -/
def hz_Y (y : MethodName) (yc : ByteArray) (maxL : Nat) (yret : Option FieldType) (n : Nat) : Prop := Cond.code y yc maxL yret ∈ hz_T ∧ Cond.initialized y.cls ∈ hz_T ∧ (y.cls ≠ "java/lang/invoke/MethodHandle" ∧ y.cls ≠ "java/lang/invoke/VarHandle" ∧ (parseMethodDescriptor y.desc).map (fun d => d.parameters.length) = some n)
def hz_YV (y : MethodName) : Prop := Cond.instanceMethod y ∈ hz_T ∧ Cond.selects y.cls y y ∈ hz_T
theorem hz_ysT {y : MethodName} {yc : ByteArray} {maxL n : Nat} {yret : Option FieldType} (hy : hz_Y y yc maxL yret n) : ∀ w ∈ Cond.code y yc maxL yret :: hz_T, w ∈ hz_T := fun w hw => (List.mem_cons.mp hw).elim (fun e => e ▸ hy.1) id
section CR
variable {p : Program} {l : Launch} {e : Env} {R : Room} {s : State} {m : MethodId} {args : Array Value} {below : List Frame} {meth : Method} {c : Code} {H : Heap} {locs : List Loc} {cells slots : Nat} {Q : State → Prop}
theorem hz_go {E : EV} {mc ms pc : Nat} {ls : Array Slot} {st0 rest : List Value} {a : Array Value} {ro1 : Option Value} {h1 : HP} (hr : va_Run p l e R s m args below meth c H locs cells slots mc ms (F0 m pc ls st0) rest (hz_Q E ro1 h1 a) (hz_R E)) (hS : va_S (hz_R E) s.heap H locs)
    (kk : ∀ (H1 : Heap) (locs1 : List Loc), hz_W E h1 H1 → va_S (hz_R E) s.heap H1 locs1 → W p l e R s m args below meth c H1 locs1 (cells + mc) (slots + ms) Q (F0 m (pc + 3) ls ((ro1.map (hz_v E)).toList ++ rest))) : W p l e R s m args below meth c H locs cells slots Q (F0 m pc ls st0) := by
  intro T hT X
  obtain ⟨v, st₀, t, T', L, h0, X', hL, e1, e2, ⟨hv, hw, hz, hk⟩, st⟩ := hr T hT X
  injection hv with hv
  subst hv
  rw [h0] at hz hk
  obtain ⟨t2, a1, b1⟩ := kk T'.heap (locs ++ L) (by rw [e1]; exact hw)
    ⟨Nat.le_trans hS.1 (by rw [e1]; exact hz), fun q h1 h2 => by rw [e1, hk q (Nat.lt_of_lt_of_le h1 hS.1) h2]; exact hS.2.1 q h1 h2, fun q hq => by
      rcases List.mem_append.mp hq with h | h
      · exact hS.2.2 q h
      · exact hL q h⟩ T' rfl X'
  exact ⟨t2, st t2 a1, b1⟩
end CR
theorem hz_blind {E : EV} {avs : List Value} {h : HP} : FrameBlind (va_Pc avs (fun U => hz_W E h U.heap ∧ hz_K E U)) := fun a U g mk q => ⟨q.1, q.2.1, hz_Kcall q.2.2 rfl rfl⟩
theorem hz_cats (E : EV) : ∀ {rest : List Value}, hz_s1 rest → ((rest.map (hz_v E)).map fun v => v.category).sum = rest.length
  | [], _ => rfl
  | v :: r, h => by
    have ih := hz_cats E (hz_s1t h)
    simp only [List.map_cons, List.sum_cons, List.length_cons, hz_vc, hz_s1h h] at ih ⊢
    omega
theorem hz_ron : ∀ v : Value, (none : Option Value) = some v → v.category = 1 := fun _ h => by cases h
theorem hz_roi (x : Int32) : ∀ v : Value, some (Value.int x) = some v → v.category = 1 := fun _ h => by cases h; rfl
theorem hz_ror (r : Option Nat) : ∀ v : Value, some (va_rf r) = some v → v.category = 1 := fun _ h => by cases h; exact hz_cr r
theorem hz_s1app : ∀ {a b : List Value}, hz_s1 (a ++ b) → hz_s1 b := fun {a b} h v hv => h v (List.mem_append_right a hv)
theorem hz_s1ro {ro1 : Option Value} {rest : List Value} (h : hz_s1 rest) (hro : ∀ v : Value, ro1 = some v → v.category = 1) : hz_s1 (ro1.toList ++ rest) := by
  intro v hv
  rcases List.mem_append.mp hv with h1 | h1
  · cases ro1 with
    | none => cases h1
    | some w => rw [List.mem_singleton.mp h1]; exact hro w rfl
  · exact h v h1
theorem hz_rmap (E : EV) (ro1 : Option Value) (rest : List Value) : (ro1.map (hz_v E)).toList ++ rest.map (hz_v E) = (ro1.toList ++ rest).map (hz_v E) := by cases ro1 <;> rfl
section CA
variable {G : GX} {cc : ByteArray} {own nm : String} {ret : Option FieldType} {rm : Room} {ro : Option Value} {h' : HP} {pc : Nat} {L : List (Option Value)} {st : List Value} {h : HP} {cs sl : Nat}
variable {y : MethodName} {yc : ByteArray} {maxL n ix : Nat} {yret : Option FieldType} {yrm : Room} {As rest : List Value} {ro1 : Option Value} {h1 : HP}
theorem aw_V (C : Cx G cc own nm ret rm ro h') {r : Option Nat} {ci N : Nat} {T : u_T} (hy : hz_Y y yc maxL yret n) (hyv : hz_YV y) (hl : Cond.methodLink own ix y ∈ hz_T) (hvw : vwCl[ci]? = some (y.cls, T, N)) (hob : hz_ob h r ci = true) (ct : Ct G.2.1 y yc maxL yret yrm (va_rf r :: As) ro1 h h1) (hro : ∀ v : Value, ro1 = some v → v.category = 1) (hn : As.length = n) (hst : st = As.reverse ++ va_rf r :: rest) (hrl : rest.length ≤ 8) (hR : yrm.frames + 1 ≤ rm.frames ∧ 8 + (maxL + 11) + yrm.locals ≤ rm.locals) {kc ks : Nat} (hkc : yrm.cells = kc) (hks : yrm.slots = ks) (hf : cs + kc ≤ rm.cells ∧ sl + ks ≤ rm.slots) (hd : decode cc pc = .ok (.invokevirtual ix, 3)) (kk : aw G (pc + 3) L (ro1.toList ++ rest) h1 (cs + kc) (sl + ks)) : aw G pc L st h cs sl := by
  subst hkc
  subst hks
  subst hst
  obtain ⟨p, l, e, R, s, m, args, below, meth, c, Q, E, nL⟩ := G
  obtain ⟨hx, hb, hml, hown, hts, hK, -, -, -, rfl, -⟩ := C
  obtain ⟨a, fs, rfl, g1, g2, g3⟩ := hz_ob_of hob
  intro c1 s1 H locs ls hW hS hls
  have hw := hz_wget (E := E) g1 g2
  rw [g3, hz_CO] at hw
  have s2 : hz_s1 rest := hz_s1t (hz_s1app s1)
  have cw := cwV (R := R) (s := s) (args := args) (C := y.cls) (own := own) (index := ix) (ws := Cond.code y yc maxL yret :: hz_T) (rm := yrm) n hts (hz_goodIn (fun w hw => by
    unfold wsV at hw
    rcases List.mem_append.mp hw with hw | hw
    · rcases List.mem_cons.mp hw with rfl | hw
      · exact hl
      · rcases List.mem_cons.mp hw with rfl | hw
        · exact hyv.1
        · rcases List.mem_cons.mp hw with rfl | hw
          · exact hyv.2
          · rw [List.mem_singleton.mp hw]; exact hy.2.1
    · exact hz_ysT hy w hw)) rfl rfl rfl ⟨rfl, hy.2.2⟩ hR
  refine hz_go (va_runV (b := E.2.2 a) (As := As.map (hz_v E)) (rest := rest.map (hz_v E)) ⟨hx, hb, hml, hown, hts⟩ (ct E) cw ⟨hz_blind, va_recv hK.2.1 hW.1 hvw hw, fun U hU hWU => ⟨rfl, by rw [hU]; exact hW, hz_Kmove hK hWU (by rw [hU]; exact hS)⟩⟩ rfl (by rw [List.length_map]; exact hn) hls.1 (by show List.map _ _ = _; rw [List.map_append, List.map_reverse]; rfl) (lv_room (by rw [hz_cats E s2]; exact hrl)) hd hf) hS (fun H1 locs1 hW1 hS1 => ?_)
  have k2 := kk c1 (hz_s1ro s2 hro) H1 locs1 ls hW1 hS1 hls
  rw [← hz_rmap] at k2
  exact k2
theorem aw_VN (C : Cx G cc own nm ret rm ro h') {r : Option Nat} {ci N : Nat} {T : u_T} {host : String} (hy : hz_Y y yc maxL yret n) (hyv : hz_YV y) (hl : Cond.methodLinkNest own ix y host ∈ hz_N) (hvw : vwCl[ci]? = some (y.cls, T, N)) (hob : hz_ob h r ci = true) (ct : Ct G.2.1 y yc maxL yret yrm (va_rf r :: As) ro1 h h1) (hro : ∀ v : Value, ro1 = some v → v.category = 1) (hn : As.length = n) (hst : st = As.reverse ++ va_rf r :: rest) (hrl : rest.length ≤ 8) (hR : yrm.frames + 1 ≤ rm.frames ∧ 8 + (maxL + 11) + yrm.locals ≤ rm.locals) {kc ks : Nat} (hkc : yrm.cells = kc) (hks : yrm.slots = ks) (hf : cs + kc ≤ rm.cells ∧ sl + ks ≤ rm.slots) (hd : decode cc pc = .ok (.invokevirtual ix, 3)) (kk : aw G (pc + 3) L (ro1.toList ++ rest) h1 (cs + kc) (sl + ks)) : aw G pc L st h cs sl := by
  subst hkc
  subst hks
  subst hst
  obtain ⟨p, l, e, R, s, m, args, below, meth, c, Q, E, nL⟩ := G
  obtain ⟨hx, hb, hml, hown, hts, hK, -, -, -, rfl, -⟩ := C
  obtain ⟨a, fs, rfl, g1, g2, g3⟩ := hz_ob_of hob
  intro c1 s1 H locs ls hW hS hls
  have hw := hz_wget (E := E) g1 g2
  rw [g3, hz_CO] at hw
  have s2 : hz_s1 rest := hz_s1t (hz_s1app s1)
  have cw := va_cnB (R := R) (s := s) (args := args) (own := own) (index := ix) (host := host) (ws := Cond.code y yc maxL yret :: hz_T) (rm := yrm) n hts (hz_goodIn (hz_ysT hy)) rfl rfl rfl (hK.2.2.1 _ hl) (hts _ hy.2.1) hy.2.2 hR
  refine hz_go (va_runVN (C := y.cls) (b := E.2.2 a) (As := As.map (hz_v E)) (rest := rest.map (hz_v E)) ⟨hx, hb, hml, hown, hts⟩ (ct E) ⟨cw, hts _ hyv.1, hts _ hyv.2⟩ ⟨hz_blind, va_recv hK.2.1 hW.1 hvw hw, fun U hU hWU => ⟨rfl, by rw [hU]; exact hW, hz_Kmove hK hWU (by rw [hU]; exact hS)⟩⟩ rfl (by rw [List.length_map]; exact hn) hls.1 (by show List.map _ _ = _; rw [List.map_append, List.map_reverse]; rfl) (lv_room (by rw [hz_cats E s2]; exact hrl)) hd hf) hS (fun H1 locs1 hW1 hS1 => ?_)
  have k2 := kk c1 (hz_s1ro s2 hro) H1 locs1 ls hW1 hS1 hls
  rw [← hz_rmap] at k2
  exact k2
theorem aw_S (C : Cx G cc own nm ret rm ro h') (hy : hz_Y y yc maxL yret n) (hys : Cond.static y ∈ hz_T) (hl : Cond.methodLink own ix y ∈ hz_T) (ct : Ct G.2.1 y yc maxL yret yrm As ro1 h h1) (hro : ∀ v : Value, ro1 = some v → v.category = 1) (hn : As.length = n) (hst : st = As.reverse ++ rest) (hrl : rest.length ≤ 8) (hR : yrm.frames + 1 ≤ rm.frames ∧ 8 + (maxL + 11) + yrm.locals ≤ rm.locals) {kc ks : Nat} (hkc : yrm.cells = kc) (hks : yrm.slots = ks) (hf : cs + kc ≤ rm.cells ∧ sl + ks ≤ rm.slots) (hd : decode cc pc = .ok (.invokestatic ix, 3)) (kk : aw G (pc + 3) L (ro1.toList ++ rest) h1 (cs + kc) (sl + ks)) : aw G pc L st h cs sl := by
  subst hkc
  subst hks
  subst hst
  obtain ⟨p, l, e, R, s, m, args, below, meth, c, Q, E, nL⟩ := G
  obtain ⟨hx, hb, hml, hown, hts, hK, -, -, -, rfl, -⟩ := C
  intro c1 s1 H locs ls hW hS hls
  have s2 : hz_s1 rest := hz_s1app s1
  have cw := va_cwS (R := R) (s := s) (args := args) (own := own) (index := ix) (ws := Cond.code y yc maxL yret :: hz_T) (rm := yrm) n hts (hz_goodIn (fun w hw => by
    unfold va_wsS at hw
    rcases List.mem_append.mp hw with hw | hw
    · rcases List.mem_cons.mp hw with rfl | hw
      · exact hl
      · rcases List.mem_cons.mp hw with rfl | hw
        · exact hys
        · rw [List.mem_singleton.mp hw]; exact hy.2.1
    · exact hz_ysT hy w hw)) rfl rfl rfl hy.2.2 hR
  refine hz_go (va_runS (As := As.map (hz_v E)) (rest := rest.map (hz_v E)) ⟨hx, hb, hml, hown, hts⟩ (ct E) cw ⟨hz_blind, fun U hU hWU => ⟨rfl, by rw [hU]; exact hW, hz_Kmove hK hWU (by rw [hU]; exact hS)⟩⟩ rfl (by rw [List.length_map]; exact hn) hls.1 (by show List.map _ _ = _; rw [List.map_append, List.map_reverse]) (lv_room (by rw [hz_cats E s2]; exact hrl)) hd hf) hS (fun H1 locs1 hW1 hS1 => ?_)
  have k2 := kk c1 (hz_s1ro s2 hro) H1 locs1 ls hW1 hS1 hls
  rw [← hz_rmap] at k2
  exact k2
theorem aw_SN (C : Cx G cc own nm ret rm ro h') {host : String} (hy : hz_Y y yc maxL yret n) (hys : Cond.static y ∈ hz_T) (hl : Cond.methodLinkNest own ix y host ∈ hz_N) (ct : Ct G.2.1 y yc maxL yret yrm As ro1 h h1) (hro : ∀ v : Value, ro1 = some v → v.category = 1) (hn : As.length = n) (hst : st = As.reverse ++ rest) (hrl : rest.length ≤ 8) (hR : yrm.frames + 1 ≤ rm.frames ∧ 8 + (maxL + 11) + yrm.locals ≤ rm.locals) {kc ks : Nat} (hkc : yrm.cells = kc) (hks : yrm.slots = ks) (hf : cs + kc ≤ rm.cells ∧ sl + ks ≤ rm.slots) (hd : decode cc pc = .ok (.invokestatic ix, 3)) (kk : aw G (pc + 3) L (ro1.toList ++ rest) h1 (cs + kc) (sl + ks)) : aw G pc L st h cs sl := by
  subst hkc
  subst hks
  subst hst
  obtain ⟨p, l, e, R, s, m, args, below, meth, c, Q, E, nL⟩ := G
  obtain ⟨hx, hb, hml, hown, hts, hK, -, -, -, rfl, -⟩ := C
  intro c1 s1 H locs ls hW hS hls
  have s2 : hz_s1 rest := hz_s1app s1
  have cw := va_cnB (R := R) (s := s) (args := args) (own := own) (index := ix) (host := host) (ws := Cond.code y yc maxL yret :: hz_T) (rm := yrm) n hts (hz_goodIn (hz_ysT hy)) rfl rfl rfl (hK.2.2.1 _ hl) (hts _ hy.2.1) hy.2.2 hR
  refine hz_go (va_runSN (As := As.map (hz_v E)) (rest := rest.map (hz_v E)) ⟨hx, hb, hml, hown, hts⟩ (ct E) ⟨cw, hts _ hys, trivial⟩ ⟨hz_blind, fun U hU hWU => ⟨rfl, by rw [hU]; exact hW, hz_Kmove hK hWU (by rw [hU]; exact hS)⟩⟩ rfl (by rw [List.length_map]; exact hn) hls.1 (by show List.map _ _ = _; rw [List.map_append, List.map_reverse]) (lv_room (by rw [hz_cats E s2]; exact hrl)) hd hf) hS (fun H1 locs1 hW1 hS1 => ?_)
  have k2 := kk c1 (hz_s1ro s2 hro) H1 locs1 ls hW1 hS1 hls
  rw [← hz_rmap] at k2
  exact k2
theorem aw_I (C : Cx G cc own nm ret rm ro h') {a : Nat} (hy : hz_Y y yc maxL none n) (hyi : y.name = "<init>") (hyv : Cond.instanceMethod y ∈ hz_T) (hl : Cond.methodLink own ix y ∈ hz_T) (ct : Ct G.2.1 y yc maxL none yrm (va_rf (some a) :: As) none h h1) (hn : As.length = n) (hst : st = As.reverse ++ va_rf (some a) :: rest) (hrl : rest.length ≤ 8) (hR : yrm.frames + 1 ≤ rm.frames ∧ 8 + (maxL + 11) + yrm.locals ≤ rm.locals) {kc ks : Nat} (hkc : yrm.cells = kc) (hks : yrm.slots = ks) (hf : cs + kc ≤ rm.cells ∧ sl + ks ≤ rm.slots) (hd : decode cc pc = .ok (.invokespecial ix, 3)) (kk : aw G (pc + 3) L rest h1 (cs + kc) (sl + ks)) : aw G pc L st h cs sl := by
  subst hkc
  subst hks
  subst hst
  obtain ⟨p, l, e, R, s, m, args, below, meth, c, Q, E, nL⟩ := G
  obtain ⟨hx, hb, hml, hown, hts, hK, -, -, -, rfl, -⟩ := C
  intro c1 s1 H locs ls hW hS hls
  have s2 : hz_s1 rest := hz_s1t (hz_s1app s1)
  have cw := cwI (R := R) (s := s) (args := args) (own := own) (index := ix) (ws := Cond.code y yc maxL none :: hz_T) (rm := yrm) n hts (hz_goodIn (hz_ysT hy)) rfl rfl rfl (hts _ hy.2.1) (hts _ hl) (hts _ hyv) hyi hy.2.2 hR
  exact hz_go (va_runI (b := E.2.2 a) (As := As.map (hz_v E)) (rest := rest.map (hz_v E)) ⟨hx, hb, hml, hown, hts⟩ (ct E) cw ⟨hz_blind, fun U hU hWU => ⟨rfl, by rw [hU]; exact hW, hz_Kmove hK hWU (by rw [hU]; exact hS)⟩⟩ rfl (by rw [List.length_map]; exact hn) hls.1 (by show List.map _ _ = _; rw [List.map_append, List.map_reverse]; rfl) (lv_room (by rw [hz_cats E s2]; exact hrl)) hd hf) hS (fun H1 locs1 hW1 hS1 => kk c1 s2 H1 locs1 ls hW1 hS1 hls)
theorem aw_IN (C : Cx G cc own nm ret rm ro h') {a : Nat} {host : String} (hy : hz_Y y yc maxL none n) (hyi : y.name = "<init>") (hyv : Cond.instanceMethod y ∈ hz_T) (hl : Cond.methodLinkNest own ix y host ∈ hz_N) (ct : Ct G.2.1 y yc maxL none yrm (va_rf (some a) :: As) none h h1) (hn : As.length = n) (hst : st = As.reverse ++ va_rf (some a) :: rest) (hrl : rest.length ≤ 8) (hR : yrm.frames + 1 ≤ rm.frames ∧ 8 + (maxL + 11) + yrm.locals ≤ rm.locals) {kc ks : Nat} (hkc : yrm.cells = kc) (hks : yrm.slots = ks) (hf : cs + kc ≤ rm.cells ∧ sl + ks ≤ rm.slots) (hd : decode cc pc = .ok (.invokespecial ix, 3)) (kk : aw G (pc + 3) L rest h1 (cs + kc) (sl + ks)) : aw G pc L st h cs sl := by
  subst hkc
  subst hks
  subst hst
  obtain ⟨p, l, e, R, s, m, args, below, meth, c, Q, E, nL⟩ := G
  obtain ⟨hx, hb, hml, hown, hts, hK, -, -, -, rfl, -⟩ := C
  intro c1 s1 H locs ls hW hS hls
  have s2 : hz_s1 rest := hz_s1t (hz_s1app s1)
  have cw := va_cnB (R := R) (s := s) (args := args) (own := own) (index := ix) (host := host) (ws := Cond.code y yc maxL none :: hz_T) (rm := yrm) n hts (hz_goodIn (hz_ysT hy)) rfl rfl rfl (hK.2.2.1 _ hl) (hts _ hy.2.1) hy.2.2 hR
  exact hz_go (va_runIN (b := E.2.2 a) (As := As.map (hz_v E)) (rest := rest.map (hz_v E)) ⟨hx, hb, hml, hown, hts⟩ (ct E) ⟨cw, hyi, hts _ hyv⟩ ⟨hz_blind, fun U hU hWU => ⟨rfl, by rw [hU]; exact hW, hz_Kmove hK hWU (by rw [hU]; exact hS)⟩⟩ rfl (by rw [List.length_map]; exact hn) hls.1 (by show List.map _ _ = _; rw [List.map_append, List.map_reverse]; rfl) (lv_room (by rw [hz_cats E s2]; exact hrl)) hd hf) hS (fun H1 locs1 hW1 hS1 => kk c1 s2 H1 locs1 ls hW1 hS1 hls)
theorem aw_objI (C : Cx G cc own nm ret rm ro h') {r : Option Nat} (hr : ¬ r = none) (hl : Cond.methodLink own ix Lib.objectInit ∈ hz_T) (hin : Cond.instanceMethod Lib.objectInit ∈ hz_T) (hco : Cond.code Lib.objectInit ⟨#[0xb1]⟩ 1 none ∈ hz_T) (hrl : rest.length ≤ 8) (hR : 1 ≤ rm.frames ∧ 20 ≤ rm.locals) (hd : decode cc pc = .ok (.invokespecial ix, 3)) (kk : aw G (pc + 3) L rest h cs sl) : aw G pc L (va_rf r :: rest) h cs sl := by
  obtain ⟨a, rfl⟩ := Option.ne_none_iff_exists'.mp hr
  obtain ⟨p, l, e, R, s, m, args, below, meth, c, Q, E, nL⟩ := G
  obtain ⟨hx, hb, hml, hown, hts, hK, -, -, -, rfl, -⟩ := C
  intro c1 s1 H locs ls hW hS hls
  have s2 : hz_s1 rest := hz_s1t s1
  refine W.objInit hx hb hown (hts _ hl) (hts _ hin) (hts _ hco) rfl (hls.1.trans hml.symm) (a := E.2.2 a) (rest := rest.map (hz_v E)) rfl hd hR.1 ?_ (kk c1 s2 H locs ls hW hS hls)
  have := lv_room (m := m) (pc := pc) (ls := ls) (rest := (va_rf (some a) :: rest).map (hz_v E)) (st := rest.map (hz_v E)) (by rw [hz_cats E s2]; exact hrl)
  omega
theorem aw_vret (C : Cx G cc own nm none rm none h) (hcs : cs ≤ rm.cells) (hsl : sl ≤ rm.slots) (hd : decode cc pc = .ok (.return_, 1)) : aw G pc L [] h cs sl := by
  obtain ⟨p, l, e, R, s, m, args, below, meth, c, Q, E, nL⟩ := G
  obtain ⟨hx, hb, hml, hown, hts, hK, hlk, hr, -, rfl, rfl⟩ := C
  intro c1 s1 H locs ls hW hS hls
  refine W.widen hcs hsl ?_
  exact W.vret hx hb hr (fun t ht _ => ⟨rfl, by rw [ht]; exact hW, hS.F ht⟩) (fun q hq => hS.2.2 q hq) hd hlk
theorem aw_iret {v : Int32} (C : Cx G cc own nm (some .int) rm (some (.int v)) h) (hcs : cs ≤ rm.cells) (hsl : sl ≤ rm.slots) (hd : decode cc pc = .ok (.ireturn, 1)) : aw G pc L [.int v] h cs sl := by
  obtain ⟨p, l, e, R, s, m, args, below, meth, c, Q, E, nL⟩ := G
  obtain ⟨hx, hb, hml, hown, hts, hK, hlk, hr, -, rfl, rfl⟩ := C
  intro c1 s1 H locs ls hW hS hls
  refine W.widen hcs hsl ?_
  exact W.iret hx hb hr (fun t ht _ => ⟨rfl, by rw [ht]; exact hW, hS.F ht⟩) (fun q hq => hS.2.2 q hq) hd hlk
theorem aw_zret {v : Int32} (C : Cx G cc own nm (some .boolean) rm (some (.int v)) h) (hv : v &&& 1 = v) (hcs : cs ≤ rm.cells) (hsl : sl ≤ rm.slots) (hd : decode cc pc = .ok (.ireturn, 1)) : aw G pc L [.int v] h cs sl := by
  obtain ⟨p, l, e, R, s, m, args, below, meth, c, Q, E, nL⟩ := G
  obtain ⟨hx, hb, hml, hown, hts, hK, hlk, hr, -, rfl, rfl⟩ := C
  intro c1 s1 H locs ls hW hS hls
  refine W.widen hcs hsl ?_
  exact W.zret hx hb hr (by show Value.int (v &&& 1) = _; rw [hv]) (fun t ht _ => ⟨rfl, by rw [ht]; exact hW, hS.F ht⟩) (fun q hq => hS.2.2 q hq) hd hlk
theorem aw_aret {v : Option Nat} {rt : FieldType} (C : Cx G cc own nm (some rt) rm (some (va_rf v)) h) (hrt : (∃ n, rt = .object n) ∨ ∃ t, rt = .array t) (hcs : cs ≤ rm.cells) (hsl : sl ≤ rm.slots) (hd : decode cc pc = .ok (.areturn, 1)) : aw G pc L [va_rf v] h cs sl := by
  obtain ⟨p, l, e, R, s, m, args, below, meth, c, Q, E, nL⟩ := G
  obtain ⟨hx, hb, hml, hown, hts, hK, hlk, hr, -, rfl, rfl⟩ := C
  intro c1 s1 H locs ls hW hS hls
  refine W.widen hcs hsl ?_
  refine W.aret hx hb hr hrt ?_ (fun t ht _ => ⟨rfl, by rw [ht]; exact hW, hS.F ht⟩) (fun q hq => hS.2.2 q hq) hd hlk
  rw [hz_vr]
  exact va_rf_or _
end CA
theorem hz_args (E : EV) : ∀ (i : Nat) (avs : List Value), hz_s1 avs → lv_args i (avs.map (hz_v E)) = hz_L E i (avs.map some)
  | i, [], _ => rfl
  | i, v :: r, h => by
    have hc : (hz_v E v).category = 1 := (hz_vc E v).trans (hz_s1h h)
    have ih := hz_args E (i + 1) r (hz_s1t h)
    simp only [List.map_cons, lv_args, hz_L, hc]
    rw [if_neg (by decide), ih]
theorem hz_Lapp (E : EV) : ∀ (i : Nat) (a : List (Option Value)) (k : Nat), hz_L E i (a ++ List.replicate k none) = hz_L E i a
  | i, [], 0 => rfl
  | i, [], k + 1 => hz_Lapp E (i + 1) [] k
  | i, none :: r, k => hz_Lapp E (i + 1) r k
  | i, some v :: r, k => by
    show (i, hz_v E v) :: hz_L E (i + 1) (r ++ List.replicate k none) = _
    rw [hz_Lapp E (i + 1) r k]
    rfl
theorem hz_sl (E : EV) : ∀ (avs : List Value), hz_s1 avs → (lg_sl (avs.map (hz_v E))).length = avs.length
  | [], _ => rfl
  | v :: r, h => by
    have hc : (hz_v E v).category = 1 := (hz_vc E v).trans (hz_s1h h)
    have ih := hz_sl E r (hz_s1t h)
    simp only [lg_sl, List.map_cons, List.flatMap_cons, hc, List.length_append, List.length_cons] at ih ⊢
    rw [if_neg (by decide)]
    simp only [List.length_cons, List.length_nil]
    omega
theorem hz_ofW {l : Launch} {y : MethodName} {ws ws' : List Cond} {rm : Room} {Pc : Array Value → State → Prop} {Qc : Array Value → State → Outcome → State → Prop} {mc ms : Nat} {free : Addr → Prop} {cc : ByteArray} {maxL : Nat} {ret : Option FieldType}
    (hy : plainFor y = true) (hw : ws = Cond.code y cc maxL ret :: ws')
    (body : ∀ p e s m args below meth c s₁, BodyLoose p l y (headSpec ws rm) cc maxL ret e s m args below meth c s₁ → c.maxLocals = maxL → Pc args s →
      W p l e (headSpec ws rm).room s m args below meth c s.heap [] 0 0 (MQ below Qc args s mc ms free) (entryFrame m args maxL)) : Met l y ws rm Pc Qc mc ms free := by
  refine MetFree.of_bodySF (code := cc) (maxLocals := maxL) (ret := ret) hy ?_ ?_
  · intro args s m h hn
    obtain ⟨meth, c, h1, h2, h3, h4, h5, h6, -, -⟩ := Cond.code_spec hn (atoms_spec (ws := ws) h _ (by rw [hw]; exact List.mem_cons_self))
    exact ⟨meth, c, h1, h2, h3, h4, h5, h6⟩
  · intro p e s m args below meth c s₁ B hml hP _
    have hh0 : s₁.heap = s.heap := by rw [B.state]; rfl
    obtain ⟨t, a1, o, b1, b2, b3⟩ := body p e s m args below meth c s₁ B hml hP s₁ hh0 (Stand.of_body B)
    exact ⟨t, o, a1, b1, b2, ⟨b3.1, b3.2⟩⟩
/-- a contract out of a walk -/
theorem Ct.of {l : Launch} {y : MethodName} {cc : ByteArray} {maxL : Nat} {ret : Option FieldType} {rm : Room} {avs : List Value} {ro : Option Value} {h h' : HP} (hy : plainFor y = true) (hs : hz_s1 avs) (hlen : avs.length ≤ maxL)
    (body : ∀ G : GX, G.2.1 = l → G.2.2.2.2.2.2.2.2.2.2.2.2 = maxL → Cx G cc y.cls y.name ret rm ro h' → aw G 0 (avs.map some ++ List.replicate (maxL - avs.length) none) [] h 0 0) : Ct l y cc maxL ret rm avs ro h h' := by
  intro E
  refine hz_ofW (cc := cc) (maxL := maxL) (ret := ret) hy rfl ?_
  intro p e s m args below meth c s₁ B hml hv
  obtain ⟨rfl, hW, hK⟩ := hv
  have hts := atoms_spec (ws := Cond.code y cc maxL ret :: hz_T) B.pre
  have hown : s.vm.findClass y.cls = some m.cls := findClass_of_methodNamed B.named
  have hnm : meth.name = y.name := (name_of_methodNamed B.named B.method).1
  have K := body (p, l, e, rm, s, m, (avs.map (hz_v E)).toArray, below, meth, c, MQ below (hz_Q E ro h') (avs.map (hz_v E)).toArray s rm.cells rm.slots (hz_R E), E, maxL) rfl rfl
    ⟨B.exec, B.bytes, hml, hown, fun w hw => hts w (List.mem_cons_of_mem _ hw), hK, B.notSynchronized, B.returns, hnm, rfl, rfl⟩
  have hl := lv_entry (avs.map (hz_v E)) (n := maxL) (by rw [hz_sl E avs hs]; exact hlen)
  rw [lg_entry_eq]
  refine K ?_ (fun v hv => by cases hv) s.heap [] _ hW va_S.rf ?_
  · intro k v hk
    by_cases hkl : k < avs.length
    · rw [List.getElem?_append_left (by simpa using hkl), List.getElem?_map] at hk
      have hkk : avs[k]? = some v := by
        cases hq : avs[k]? with
        | none => rw [hq] at hk; simp at hk
        | some w => rw [hq] at hk; simp at hk; rw [hk]
      exact hs v (List.mem_of_getElem? hkk)
    · rw [List.getElem?_append_right (by simpa using Nat.not_lt.mp hkl)] at hk
      have := List.mem_of_getElem? hk
      rw [List.mem_replicate] at this
      cases this.2
  · rw [hz_Lapp, ← hz_args E 0 avs hs]
    exact hl
end
section
/-! System.arraycopy of ints -/
theorem hz_nn (z : Int32) (hz : ¬ z < 0) : z.toInt = (z.toNatClampNeg : Int) := by
  have hz0 : (0 : Int) ≤ z.toInt := by
    have := Int32.not_lt.mp hz
    simpa using Int32.le_iff_toInt_le.mp this
  show z.toInt = ((z.toInt.toNat : Nat) : Int)
  omega
section CP
variable {G : GX} {cc : ByteArray} {own nm : String} {ret : Option FieldType} {rm : Room} {ro : Option Value} {h' : HP} {pc : Nat} {L : List (Option Value)} {h : HP} {cs sl : Nat}
theorem aw_cp (C : Cx G cc own nm ret rm ro h') {ix : Nat} {rest : List Value} {r0 r1 : Option Nat} {sp dp n : Int32} {h1 : HP} (hl : Cond.methodLink own ix arraycopyName ∈ hz_T) (hna : Cond.native arraycopyName ∈ hz_T) (hst : Cond.static arraycopyName ∈ hz_T) (hini : Cond.initialized "java/lang/System" ∈ hz_T) (hg : hz_cp h r0 sp r1 dp n = some h1) (hR : 1 ≤ rm.frames ∧ rest.length + (nativeFrameWords "java/lang/System" "arraycopy" 5 + 11) ≤ rm.locals) (hd : decode cc pc = .ok (.invokestatic ix, 3)) (kk : aw G (pc + 3) L rest h1 cs sl) : aw G pc L (.int n :: .int dp :: va_rf r1 :: .int sp :: va_rf r0 :: rest) h cs sl := by
  obtain ⟨p, l, e, R, s, m, args, below, meth, c, Q, E, nL⟩ := G
  obtain ⟨hx, hb, hml, hown, hts, ⟨hi, hK, -⟩, -, -, -, rfl, -⟩ := C
  obtain ⟨a0, n0, f, a, n1, g, rfl, b1, b2, b3, rfl, d1, d2, d3, h1, h2, h3, h4, h5, rfl⟩ := hz_cp_of hg
  intro c1 s1 H locs ls hW hS hls
  have s2 : hz_s1 rest := hz_s1t (hz_s1t (hz_s1t (hz_s1t (hz_s1t s1))))
  have hw0 := hz_wget (E := E) b1 b2
  rw [b3, hz_CI] at hw0
  have hw1 := hz_wget (E := E) d1 d2
  rw [d3, hz_CI] at hw1
  intro T hT X
  have hc0 : H[E.2.2 a0]? = some (vp_cell (E.2.1 0) (n0, .inl f)) := hW.1 _ _ hw0
  have hc1 : H[E.2.2 a]? = some (vp_cell (E.2.1 0) (n1, .inl g)) := hW.1 _ _ hw1
  obtain ⟨-, k0, hk0, cm0, hkk0⟩ := (hK.2 0 _ rfl).1 n0 (fun j => .int (f j))
  obtain ⟨-, k1, hk1, cm1, hkk1⟩ := (hK.2 0 _ rfl).1 n1 (fun j => .int (g j))
  obtain ⟨vm', X', step⟩ := X.arraycopy hx hown (hts _ hl) (hts _ hna) (hts _ hst) (hts _ hini) (src := E.2.2 a0) (dst := E.2.2 a) (cs := vp_cell (E.2.1 0) (n0, .inl f)) (cd := vp_cell (E.2.1 0) (n1, .inl g)) (srcPos := sp) (destPos := dp) (n := n) (by rw [hT]; exact hc0) (by rw [hT]; exact hc1)
    (fun _ h => by cases h) (fun _ h => by cases h) (fun h => by cases h) (fun h => by cases h) hk0 hk1 hkk0 hkk1 (by simp [hz_ty, refKind]) h1 h2 h3
    (by rw [hz_nn sp h1, hz_nn n h3]; show ¬ _ > ((arrV _ n0 (fun j => .int (f j))).slots.size : Int); rw [arrV_size]; omega)
    (by rw [hz_nn dp h2, hz_nn n h3]; show ¬ _ > ((arrV _ n1 (fun j => .int (g j))).slots.size : Int); rw [arrV_size]; omega)
    (fun vm₁ _ i hi => by
      have e : (vp_cell (E.2.1 0) (n0, .inl f)).slots.getD (sp.toNatClampNeg + i) .null = .int (f (sp.toNatClampNeg + i)) := by
        show (arrV _ n0 (fun j => .int (f j))).slots.getD _ _ = _
        rw [Array.getD_eq_getD_getElem?, arrV_read _ _ (by omega)]
        rfl
      refine ⟨?_, ?_⟩
      · rw [e]
        rfl
      · rw [e]
        exact trivial)
    (g := F0 m pc ls ((.int n :: .int dp :: va_rf (some a) :: .int sp :: va_rf (some a0) :: rest).map (hz_v E))) rfl (by rw [hml]; exact hls.1) (rest := rest.map (hz_v E)) rfl (by rw [hb]; exact hd) hR.1 (by
      show 2 * 0 + _ + _ ≤ _
      rw [hz_cats E s2]
      omega)
  have e1 : copied (vp_cell (E.2.1 0) (n0, .inl f)) (vp_cell (E.2.1 0) (n1, .inl g)) sp dp n = vp_cell (E.2.1 0) (n1, .inl (va_cpy f g sp.toNatClampNeg dp.toNatClampNeg n.toNatClampNeg)) := va_copied (fun z => .int z) (E.2.1 0) (E.2.1 0) f g h4
  rw [e1] at X' step
  have hlt : E.2.2 a < H.size := (Array.getElem?_eq_some_iff.mp hc1).1
  have hheap : ((T.setVm vm').setCell (E.2.2 a) (vp_cell (E.2.1 0) (n1, .inl (va_cpy f g sp.toNatClampNeg dp.toNatClampNeg n.toNatClampNeg)))).heap = H.setIfInBounds (E.2.2 a) (vp_cell (E.2.1 0) (n1, .inl (va_cpy f g sp.toNatClampNeg dp.toNatClampNeg n.toNatClampNeg))) := by rw [← hT]; rfl
  have oq : ∀ q : Nat, q ≠ E.2.2 a → (H.setIfInBounds (E.2.2 a) (vp_cell (E.2.1 0) (n1, .inl (va_cpy f g sp.toNatClampNeg dp.toNatClampNeg n.toNatClampNeg))))[q]? = H[q]? := fun q hq => by simp [Array.getElem?_setIfInBounds, Ne.symm hq]
  obtain ⟨hW1, hS1⟩ := hz_upd (k := 0) (c := .inl (0, n1, .inl (va_cpy f g sp.toNatClampNeg dp.toNatClampNeg n.toNatClampNeg))) (H1 := H.setIfInBounds (E.2.2 a) (vp_cell (E.2.1 0) (n1, .inl (va_cpy f g sp.toNatClampNeg dp.toNatClampNeg n.toNatClampNeg)))) hi hW hS d1 d2 (show (H.setIfInBounds (E.2.2 a) _)[E.2.2 a]? = some _ by simp [Array.getElem?_setIfInBounds, hlt]; rfl) (by simp) oq
  obtain ⟨t, a1, b1⟩ := kk c1 s2 _ _ ls hW1 ⟨hS1.1, hS1.2.1, fun q hq => by
      rcases List.mem_append.mp hq with h | h
      · exact hS.2.2 q h
      · obtain ⟨z, -, hz⟩ := List.mem_map.mp h
        rw [← hz]
        exact ⟨a, d1, rfl⟩⟩ hls _ hheap X'
  exact ⟨t, step t a1, b1⟩
end CP
/-! clone of an int array, and the cast behind it -/
def hz_cl (h : HP) (r : Option Nat) (cap : Nat) : Option HP := match hz_ar h r 0 with
  | none => none
  | some x => if x.1 ≤ cap then some (h.1 + 1, va_up h.2 (h.1 + 1) (.inl (0, x.1, .inl x.2))) else none
theorem hz_cl_of {h h1 : HP} {r : Option Nat} {cap : Nat} (H : hz_cl h r cap = some h1) : ∃ (a n : Nat) (f : Nat → Int32), r = some a ∧ 1 ≤ a ∧ a ≤ h.1 ∧ h.2 a = .inl (0, n, .inl f) ∧ n ≤ cap ∧ h1 = (h.1 + 1, va_up h.2 (h.1 + 1) (.inl (0, n, .inl f))) := by
  unfold hz_cl at H
  split at H
  · cases H
  · rename_i x hx
    obtain ⟨a, e1, e2, e3, e4⟩ := hz_ar_of hx
    split at H
    · rename_i hi
      exact ⟨a, x.1, x.2, e1, e2, e3, e4, hi, (Option.some.inj H).symm⟩
    · cases H
section CLN
variable {G : GX} {cc : ByteArray} {own nm : String} {ret : Option FieldType} {rm : Room} {ro : Option Value} {h' : HP} {pc : Nat} {L : List (Option Value)} {st : List Value} {h : HP} {cs sl : Nat}
theorem hz_iname {E : EV} {s : State} (hK : va_K E.1 vwCl (hz_tys E) s) : s.vm.findClass "[I" = some (E.2.1 0) := (hK.2 0 _ rfl).2
theorem aw_cl (C : Cx G cc own nm ret rm ro h') {ix cap : Nat} {rest : List Value} {r : Option Nat} {h1 : HP} (hl : Cond.methodLink own ix ⟨"[I", "clone", "()Ljava/lang/Object;"⟩ ∈ hz_T) (hsa : Cond.sameMethod "[I" "java/lang/Object" "clone" "()Ljava/lang/Object;" ∈ hz_T) (hna : Cond.native ⟨"java/lang/Object", "clone", "()Ljava/lang/Object;"⟩ ∈ hz_T) (hin : Cond.instanceMethod ⟨"java/lang/Object", "clone", "()Ljava/lang/Object;"⟩ ∈ hz_T) (hse : Cond.selects "[I" ⟨"[I", "clone", "()Ljava/lang/Object;"⟩ ⟨"java/lang/Object", "clone", "()Ljava/lang/Object;"⟩ ∈ hz_T) (hca : Cond.castable "[I" "java/lang/Cloneable" ∈ hz_N) (hg : hz_cl h r cap = some h1) (hR : 1 ≤ rm.frames ∧ rest.length + 14 ≤ rm.locals) (hcs : cs + 1 ≤ rm.cells) (hsl : sl + cap ≤ rm.slots) (hd : decode cc pc = .ok (.invokevirtual ix, 3)) (kk : aw G (pc + 3) L (va_rf (some (h.1 + 1)) :: rest) h1 (cs + 1) (sl + cap)) : aw G pc L (va_rf r :: rest) h cs sl := by
  obtain ⟨p, l, e, R, s, m, args, below, meth, c, Q, E, nL⟩ := G
  obtain ⟨hx, hb, hml, hown, hts, ⟨hi, hK, hN, -⟩, -, -, -, rfl, -⟩ := C
  obtain ⟨a, n, f, rfl, b1, b2, b3, hcap, rfl⟩ := hz_cl_of hg
  intro c1 s1 H locs ls hW hS hls
  have s2 : hz_s1 rest := hz_s1t s1
  have hw := hz_wget (E := E) b1 b2
  rw [b3, hz_CI] at hw
  have hsz : (vp_cell (E.2.1 0) (n, .inl f)).slots.size = n := arrV_size _ _ _
  obtain ⟨c0, t0', f1, f2, f3⟩ := Cond.castable_spec (va_Nw.use (A := args) rfl (hN _ hca))
  have hnm := hz_iname hK
  cases hnm.symm.trans f1
  intro T hT X
  have hcellT : T.heap[E.2.2 a]? = some (vp_cell (E.2.1 0) (n, .inl f)) := by rw [hT]; exact hW.1 _ _ hw
  obtain ⟨-, kA, hkA, comp, hkind⟩ := State.isArrayOf_alike X.warmed.alike ((hK.2 0 _ rfl).1 0 (fun _ => .null))
  obtain ⟨-, kS, hkS, compS, hkindS⟩ := (hK.2 0 _ rfl).1 0 (fun _ => .null)
  obtain ⟨vm', X', st⟩ := X.cloneArray hx hown (hts _ hl) (hts _ hsa) (hts _ hna) (hts _ hin) (hts _ hse) (a := E.2.2 a) (cell := vp_cell (E.2.1 0) (n, .inl f)) hcellT (fun k h => by cases h) (fun h => by cases h) hnm f2 f3
    (fun i v hv => by
      have hk' : T.vm.classes[E.2.1 0]? = some kA := hkA
      have hcl0 : (vp_cell (E.2.1 0) (n, .inl f)).cls = E.2.1 0 := rfl
      rw [hcl0]
      have hft : fits .int v = true := va_fit (cA := E.2.1 0) (n := n) (F := fun j => .int (f j)) (fun _ _ => rfl) i v hv
      simpa [State.fitsSlot, State.slotType?, hk', hkind, hz_ty] using hft)
    (g := F0 m pc ls ((va_rf (some a) :: rest).map (hz_v E))) rfl (by rw [hml]; exact hls.1) rfl (by rw [hb]; exact hd) hR.1 (by
      show 2 * 0 + _ + 14 ≤ _
      rw [hz_cats E s2]
      omega) hcs (by rw [hsz]; omega) (hloader := Vm.clonesLoader_of_array hkS hkindS)
  rw [hsz] at X'
  generalize hH1 : H.push (vp_cell (E.2.1 0) (n, .inl f)) = H1
  have z1 : H1.size = H.size + 1 := by rw [← hH1, Array.size_push]
  have e1 : H1[H.size]? = some (vp_cell (E.2.1 0) (n, .inl f)) := by rw [← hH1, Array.getElem?_push_size]
  have o1 : ∀ q : Nat, q < H.size → H1[q]? = H[q]? := fun q hq => by rw [← hH1, Array.getElem?_push, if_neg (Nat.ne_of_lt hq)]
  obtain ⟨ha, hW1, hS1⟩ := hz_new (c := .inl (0, n, .inl f)) hW hS e1 z1 o1
  have k2 := kk c1 (hz_s1c s2 rfl) H1 locs ls hW1 hS1 hls
  rw [List.map_cons, hz_vr, Option.map_some, ha] at k2
  have k3 := W.widen (Nat.le_refl _) (Nat.add_le_add_left hcap _) k2
  obtain ⟨t, d1, d2⟩ := k3 ((T.setVm vm').pushCell (vp_cell (E.2.1 0) (n, .inl f))) (by rw [← hH1, ← hT]; rfl) X'
  refine ⟨t, st t ?_, d2⟩
  rw [hT]
  exact d1
theorem aw_castI (C : Cx G cc own nm ret rm ro h') {ix : Nat} {r : Option Nat} {x : Nat × (Nat → Int32)} (hl : Cond.classLink own ix "[I" ∈ hz_T) (hg : hz_ar h r 0 = some x) (hd : decode cc pc = .ok (.checkcast ix, 3)) (kk : aw G (pc + 3) L (va_rf r :: st) h cs sl) : aw G pc L (va_rf r :: st) h cs sl := by
  obtain ⟨p, l, e, R, s, m, args, below, meth, c, Q, E, nL⟩ := G
  obtain ⟨hx, hb, hml, hown, hts, ⟨hi, hK, hN, -⟩, -⟩ := C
  obtain ⟨a, rfl, b1, b2, b3⟩ := hz_ar_of hg
  intro c1 s1 H locs ls hW hS hls
  have hw := hz_wget (E := E) b1 b2
  rw [b3, hz_CI] at hw
  exact va_castA hx hb hown (hts _ hl) hW.1 _ hw (hz_iname hK) hd (kk c1 s1 H locs ls hW hS hls)
end CLN
end
section
/-! words that the rows use, classes and methods as the tables have them; small rows for walks -/
theorem hz_bd {α β : Type} {o : Option α} {f : α → Option β} {b : β} (H : o.bind f = some b) : ∃ a, o = some a ∧ f a = some b := Option.bind_eq_some_iff.mp H
theorem hz_lt {α β : Type} {a : α} {f : α → Option β} {b : β} (H : (some a).bind f = some b) : f a = some b := H
theorem hz_un {β : Type} {c : Prop} [Decidable c] {x : Option β} {b : β} (H : (if c then none else x) = some b) : ¬ c ∧ x = some b := by
  by_cases h : c
  · rw [if_pos h] at H; cases H
  · rw [if_neg h] at H; exact ⟨h, H⟩
theorem hz_wn {β : Type} {c : Prop} [Decidable c] {x : Option β} {b : β} (H : (if c then x else none) = some b) : c ∧ x = some b := by
  by_cases h : c
  · rw [if_pos h] at H; exact ⟨h, H⟩
  · rw [if_neg h] at H; cases H
theorem hz_it {β : Type} {c : Prop} [Decidable c] {x y : Option β} {b : β} (h : c) (H : (if c then x else y) = some b) : x = some b := by rw [if_pos h] at H; exact H
theorem hz_if {β : Type} {c : Prop} [Decidable c] {x y : Option β} {b : β} (h : ¬ c) (H : (if c then x else y) = some b) : y = some b := by rw [if_neg h] at H; exact H
theorem hz_sub_0 : hz_sub [] [] := trivial
theorem hz_sub_s {a b : List (Option Value)} {v : Value} (h : hz_sub a b) : hz_sub (some v :: a) (some v :: b) := ⟨rfl, h⟩
theorem hz_sub_n {a b : List (Option Value)} {w : Option Value} (h : hz_sub a b) : hz_sub (none :: a) (w :: b) := h
theorem hz_s1n : hz_s1 [] := fun v h => by cases h
theorem hz_ao2 : ∀ (E : EV) (U : State), hz_K E U → va_AO "GroupCast$Channel" U := fun _ _ h => h.2.2.2.2.2.1
theorem hz_ao3 : ∀ (E : EV) (U : State), hz_K E U → va_AO "GroupCast$Node" U := fun _ _ h => h.2.2.2.2.2.2
theorem hz_mT {w : Cond} (k : Nat) (h : lw_tbl[k]? = some w) (g : goodWord w = true) : w ∈ hz_T := List.mem_filter.mpr ⟨List.mem_of_getElem? h, g⟩
theorem hz_mN {w : Cond} (k : Nat) (h : lw_tbl[k]? = some w) (g : hz_isN w = true) : w ∈ hz_N := List.mem_filter.mpr ⟨List.mem_of_getElem? h, g⟩
set_option maxRecDepth 100000 in
theorem cl_0 : hz_Cl 0 RX0 TX0 tyX0 5 := ⟨rfl, by decide +kernel, tyX0_ok, nmX0, by decide +kernel⟩
theorem df_0 : ∀ E : EV, ∀ j, j < 5 → defaultValue (tyX0 j) = vp_V (([.int 0, .int 0, .null, .int 0, .int 0] : List Value).map (hz_v E)) j := fun E j hj => by
  match j, hj with
  | 0, _ => rfl
  | 1, _ => rfl
  | 2, _ => rfl
  | 3, _ => rfl
  | 4, _ => rfl
  | j + 5, hj => exact absurd hj (by omega)
set_option maxRecDepth 100000 in
theorem cl_1 : hz_Cl 1 RX1 TX1 tyX1 3 := ⟨rfl, by decide +kernel, tyX1_ok, nmX1, by decide +kernel⟩
theorem df_1 : ∀ E : EV, ∀ j, j < 3 → defaultValue (tyX1 j) = vp_V (([.null, .null, .int 0] : List Value).map (hz_v E)) j := fun E j hj => by
  match j, hj with
  | 0, _ => rfl
  | 1, _ => rfl
  | 2, _ => rfl
  | j + 3, hj => exact absurd hj (by omega)
set_option maxRecDepth 100000 in
theorem cl_2 : hz_Cl 2 RX2 TX2 tyX2 5 := ⟨rfl, by decide +kernel, tyX2_ok, nmX2, by decide +kernel⟩
theorem df_2 : ∀ E : EV, ∀ j, j < 5 → defaultValue (tyX2 j) = vp_V (([.int 0, .int 0, .int 0, .null, .null] : List Value).map (hz_v E)) j := fun E j hj => by
  match j, hj with
  | 0, _ => rfl
  | 1, _ => rfl
  | 2, _ => rfl
  | 3, _ => rfl
  | 4, _ => rfl
  | j + 5, hj => exact absurd hj (by omega)
set_option maxRecDepth 100000 in
theorem cl_3 : hz_Cl 3 RX3 TX3 tyX3 2 := ⟨rfl, by decide +kernel, tyX3_ok, nmX3, by decide +kernel⟩
theorem df_3 : ∀ E : EV, ∀ j, j < 2 → defaultValue (tyX3 j) = vp_V (([.null, .int 0] : List Value).map (hz_v E)) j := fun E j hj => by
  match j, hj with
  | 0, _ => rfl
  | 1, _ => rfl
  | j + 2, hj => exact absurd hj (by omega)
set_option maxRecDepth 100000 in
theorem cl_4 : hz_Cl 4 RX4 TX4 tyX4 17 := ⟨rfl, by decide +kernel, tyX4_ok, nmX4, by decide +kernel⟩
theorem df_4 : ∀ E : EV, ∀ j, j < 17 → defaultValue (tyX4 j) = vp_V (([.int 0, .int 0, .null, .null, .null, .null, .null, .null, .int 0, .int 0, .int 0, .int 0, .int 0, .int 0, .int 0, .int 0, .int 0] : List Value).map (hz_v E)) j := fun E j hj => by
  match j, hj with
  | 0, _ => rfl
  | 1, _ => rfl
  | 2, _ => rfl
  | 3, _ => rfl
  | 4, _ => rfl
  | 5, _ => rfl
  | 6, _ => rfl
  | 7, _ => rfl
  | 8, _ => rfl
  | 9, _ => rfl
  | 10, _ => rfl
  | 11, _ => rfl
  | 12, _ => rfl
  | 13, _ => rfl
  | 14, _ => rfl
  | 15, _ => rfl
  | 16, _ => rfl
  | j + 17, hj => exact absurd hj (by omega)
set_option maxRecDepth 100000 in
theorem cl_5 : hz_Cl 5 RX5 TX5 tyX5 4 := ⟨rfl, by decide +kernel, tyX5_ok, nmX5, by decide +kernel⟩
theorem df_5 : ∀ E : EV, ∀ j, j < 4 → defaultValue (tyX5 j) = vp_V (([.int 0, .null, .null, .int 0] : List Value).map (hz_v E)) j := fun E j hj => by
  match j, hj with
  | 0, _ => rfl
  | 1, _ => rfl
  | 2, _ => rfl
  | 3, _ => rfl
  | j + 4, hj => exact absurd hj (by omega)
set_option maxRecDepth 100000 in
theorem cl_6 : hz_Cl 6 RX6 TX6 tyX6 2 := ⟨rfl, by decide +kernel, tyX6_ok, nmX6, by decide +kernel⟩
theorem df_6 : ∀ E : EV, ∀ j, j < 2 → defaultValue (tyX6 j) = vp_V (([.null, .int 0] : List Value).map (hz_v E)) j := fun E j hj => by
  match j, hj with
  | 0, _ => rfl
  | 1, _ => rfl
  | j + 2, hj => exact absurd hj (by omega)
set_option maxRecDepth 100000 in
theorem cl_7 : hz_Cl 7 RX7 TX7 tyX7 5 := ⟨rfl, by decide +kernel, tyX7_ok, nmX7, by decide +kernel⟩
theorem df_7 : ∀ E : EV, ∀ j, j < 5 → defaultValue (tyX7 j) = vp_V (([.int 0, .int 0, .int 0, .int 0, .int 0] : List Value).map (hz_v E)) j := fun E j hj => by
  match j, hj with
  | 0, _ => rfl
  | 1, _ => rfl
  | 2, _ => rfl
  | 3, _ => rfl
  | 4, _ => rfl
  | j + 5, hj => exact absurd hj (by omega)
set_option maxRecDepth 100000 in
theorem cl_8 : hz_Cl 8 RX8 TX8 tyX8 3 := ⟨rfl, by decide +kernel, tyX8_ok, nmX8, by decide +kernel⟩
theorem df_8 : ∀ E : EV, ∀ j, j < 3 → defaultValue (tyX8 j) = vp_V (([.null, .null, .null] : List Value).map (hz_v E)) j := fun E j hj => by
  match j, hj with
  | 0, _ => rfl
  | 1, _ => rfl
  | 2, _ => rfl
  | j + 3, hj => exact absurd hj (by omega)
set_option maxRecDepth 100000 in
theorem cl_9 : hz_Cl 9 RX9 TX9 tyX9 35 := ⟨rfl, by decide +kernel, tyX9_ok, nmX9, by decide +kernel⟩
theorem df_9 : ∀ E : EV, ∀ j, j < 35 → defaultValue (tyX9 j) = vp_V (([.int 0, .null, .null, .null, .null, .null, .null, .null, .null, .null, .null, .null, .null, .null, .null, .null, .null, .null, .null, .null, .null, .null, .null, .null, .null, .null, .null, .null, .null, .int 0, .int 0, .int 0, .int 0, .int 0, .int 0] : List Value).map (hz_v E)) j := fun E j hj => by
  match j, hj with
  | 0, _ => rfl
  | 1, _ => rfl
  | 2, _ => rfl
  | 3, _ => rfl
  | 4, _ => rfl
  | 5, _ => rfl
  | 6, _ => rfl
  | 7, _ => rfl
  | 8, _ => rfl
  | 9, _ => rfl
  | 10, _ => rfl
  | 11, _ => rfl
  | 12, _ => rfl
  | 13, _ => rfl
  | 14, _ => rfl
  | 15, _ => rfl
  | 16, _ => rfl
  | 17, _ => rfl
  | 18, _ => rfl
  | 19, _ => rfl
  | 20, _ => rfl
  | 21, _ => rfl
  | 22, _ => rfl
  | 23, _ => rfl
  | 24, _ => rfl
  | 25, _ => rfl
  | 26, _ => rfl
  | 27, _ => rfl
  | 28, _ => rfl
  | 29, _ => rfl
  | 30, _ => rfl
  | 31, _ => rfl
  | 32, _ => rfl
  | 33, _ => rfl
  | 34, _ => rfl
  | j + 35, hj => exact absurd hj (by omega)
theorem wd_0 : Cond.selects RX8 yX8_find yX8_find ∈ hz_T := hz_mT 0 (by decide +kernel) (by decide +kernel)
theorem wd_1 : Cond.selects RX4 yX4_isBlocked yX4_isBlocked ∈ hz_T := hz_mT 1 (by decide +kernel) (by decide +kernel)
theorem wd_2 : Cond.selects RX4 yX4_leader yX4_leader ∈ hz_T := hz_mT 2 (by decide +kernel) (by decide +kernel)
theorem wd_3 : Cond.selects RX4 yX4_putInOrder yX4_putInOrder ∈ hz_T := hz_mT 3 (by decide +kernel) (by decide +kernel)
theorem wd_4 : Cond.selects RX4 yX4_others yX4_others ∈ hz_T := hz_mT 4 (by decide +kernel) (by decide +kernel)
theorem wd_5 : Cond.selects RX4 yX4_carryOutWhatMostHold yX4_carryOutWhatMostHold ∈ hz_T := hz_mT 5 (by decide +kernel) (by decide +kernel)
theorem wd_6 : Cond.selects RX4 yX4_heldByMost yX4_heldByMost ∈ hz_T := hz_mT 6 (by decide +kernel) (by decide +kernel)
theorem wd_7 : Cond.selects RX4 yX4_holdersOf yX4_holdersOf ∈ hz_T := hz_mT 7 (by decide +kernel) (by decide +kernel)
theorem wd_8 : Cond.selects RX4 yX4_areMost yX4_areMost ∈ hz_T := hz_mT 8 (by decide +kernel) (by decide +kernel)
theorem wd_9 : Cond.selects RX4 yX4_carryOutUpTo yX4_carryOutUpTo ∈ hz_T := hz_mT 9 (by decide +kernel) (by decide +kernel)
theorem wd_10 : Cond.selects RX3 yX3_add yX3_add ∈ hz_T := hz_mT 10 (by decide +kernel) (by decide +kernel)
theorem wd_11 : Cond.selects RX3 yX3_multiply yX3_multiply ∈ hz_T := hz_mT 11 (by decide +kernel) (by decide +kernel)
theorem wd_12 : Cond.selects RX3 yX3_duplicate yX3_duplicate ∈ hz_T := hz_mT 12 (by decide +kernel) (by decide +kernel)
theorem wd_13 : Cond.selects RX3 yX3_drop yX3_drop ∈ hz_T := hz_mT 13 (by decide +kernel) (by decide +kernel)
theorem wd_14 : Cond.selects RX3 yX3_swap yX3_swap ∈ hz_T := hz_mT 14 (by decide +kernel) (by decide +kernel)
theorem wd_15 : Cond.selects RX3 yX3_push yX3_push ∈ hz_T := hz_mT 15 (by decide +kernel) (by decide +kernel)
theorem wd_16 : Cond.selects RX4 yX4_onPass yX4_onPass ∈ hz_T := hz_mT 16 (by decide +kernel) (by decide +kernel)
theorem wd_17 : Cond.selects RX4 yX4_leadsUnblocked yX4_leadsUnblocked ∈ hz_T := hz_mT 17 (by decide +kernel) (by decide +kernel)
theorem wd_18 : Cond.selects RX4 yX4_onOrder yX4_onOrder ∈ hz_T := hz_mT 18 (by decide +kernel) (by decide +kernel)
theorem wd_19 : Cond.selects RX4 yX4_reply yX4_reply ∈ hz_T := hz_mT 19 (by decide +kernel) (by decide +kernel)
theorem wd_20 : Cond.selects RX4 yX4_onHeld yX4_onHeld ∈ hz_T := hz_mT 20 (by decide +kernel) (by decide +kernel)
theorem wd_21 : Cond.selects RX4 yX4_onDo yX4_onDo ∈ hz_T := hz_mT 21 (by decide +kernel) (by decide +kernel)
theorem wd_22 : Cond.selects RX4 yX4_onElect yX4_onElect ∈ hz_T := hz_mT 22 (by decide +kernel) (by decide +kernel)
theorem wd_23 : Cond.selects RX4 yX4_ask yX4_ask ∈ hz_T := hz_mT 23 (by decide +kernel) (by decide +kernel)
theorem wd_24 : Cond.selects RX4 yX4_flush yX4_flush ∈ hz_T := hz_mT 24 (by decide +kernel) (by decide +kernel)
theorem wd_25 : Cond.selects RX4 yX4_nextOwnNumber yX4_nextOwnNumber ∈ hz_T := hz_mT 25 (by decide +kernel) (by decide +kernel)
theorem wd_26 : Cond.selects RX4 yX4_onWait yX4_onWait ∈ hz_T := hz_mT 26 (by decide +kernel) (by decide +kernel)
theorem wd_27 : Cond.selects RX4 yX4_onFlush yX4_onFlush ∈ hz_T := hz_mT 27 (by decide +kernel) (by decide +kernel)
theorem wd_28 : Cond.selects RX4 yX4_onFlushed yX4_onFlushed ∈ hz_T := hz_mT 28 (by decide +kernel) (by decide +kernel)
theorem wd_29 : Cond.selects RX0 yX0_isBetter yX0_isBetter ∈ hz_T := hz_mT 29 (by decide +kernel) (by decide +kernel)
theorem wd_30 : Cond.selects RX4 yX4_onSync yX4_onSync ∈ hz_T := hz_mT 30 (by decide +kernel) (by decide +kernel)
theorem wd_31 : Cond.selects RX4 yX4_onSynced yX4_onSynced ∈ hz_T := hz_mT 31 (by decide +kernel) (by decide +kernel)
theorem wd_32 : Cond.selects RX4 yX4_onBegin yX4_onBegin ∈ hz_T := hz_mT 32 (by decide +kernel) (by decide +kernel)
theorem wd_33 : Cond.selects RX4 yX4_begin yX4_begin ∈ hz_T := hz_mT 33 (by decide +kernel) (by decide +kernel)
theorem wd_34 : Cond.selects RX4 yX4_giveBest yX4_giveBest ∈ hz_T := hz_mT 34 (by decide +kernel) (by decide +kernel)
theorem wd_35 : Cond.selects RX4 yX4_beginAnew yX4_beginAnew ∈ hz_T := hz_mT 35 (by decide +kernel) (by decide +kernel)
theorem wd_36 : Cond.selects RX4 yX4_isChanging yX4_isChanging ∈ hz_T := hz_mT 36 (by decide +kernel) (by decide +kernel)
theorem wd_37 : Cond.selects RX9 yX9_isNode yX9_isNode ∈ hz_T := hz_mT 37 (by decide +kernel) (by decide +kernel)
theorem wd_38 : Cond.selects RX9 yX9_isBlocked yX9_isBlocked ∈ hz_T := hz_mT 38 (by decide +kernel) (by decide +kernel)
theorem wd_39 : Cond.selects RX9 yX9_leader yX9_leader ∈ hz_T := hz_mT 39 (by decide +kernel) (by decide +kernel)
theorem wd_40 : Cond.selects RX9 yX9_send yX9_send ∈ hz_T := hz_mT 40 (by decide +kernel) (by decide +kernel)
theorem wd_41 : Cond.selects RX9 yX9_add yX9_add ∈ hz_T := hz_mT 41 (by decide +kernel) (by decide +kernel)
theorem wd_42 : Cond.selects RX9 yX9_sendAll yX9_sendAll ∈ hz_T := hz_mT 42 (by decide +kernel) (by decide +kernel)
theorem wd_43 : Cond.selects RX9 yX9_look yX9_look ∈ hz_T := hz_mT 43 (by decide +kernel) (by decide +kernel)
theorem wd_44 : Cond.selects RX9 yX9_carryTo yX9_carryTo ∈ hz_T := hz_mT 44 (by decide +kernel) (by decide +kernel)
theorem wd_45 : Cond.selects RX9 yX9_carry yX9_carry ∈ hz_T := hz_mT 45 (by decide +kernel) (by decide +kernel)
theorem wd_46 : Cond.selects RX9 yX9_push yX9_push ∈ hz_T := hz_mT 46 (by decide +kernel) (by decide +kernel)
theorem wd_47 : Cond.selects RX9 yX9_oldest yX9_oldest ∈ hz_T := hz_mT 47 (by decide +kernel) (by decide +kernel)
theorem wd_48 : Cond.selects RX9 yX9_keepLetter yX9_keepLetter ∈ hz_T := hz_mT 48 (by decide +kernel) (by decide +kernel)
theorem wd_49 : Cond.selects RX9 yX9_come yX9_come ∈ hz_T := hz_mT 49 (by decide +kernel) (by decide +kernel)
theorem wd_50 : Cond.selects RX9 yX9_ask yX9_ask ∈ hz_T := hz_mT 50 (by decide +kernel) (by decide +kernel)
theorem wd_51 : Cond.selects RX9 yX9_flush yX9_flush ∈ hz_T := hz_mT 51 (by decide +kernel) (by decide +kernel)
theorem wd_52 : Cond.selects RX9 yX9_many yX9_many ∈ hz_T := hz_mT 52 (by decide +kernel) (by decide +kernel)
theorem wd_53 : Cond.selects RX9 yX9_choose yX9_choose ∈ hz_T := hz_mT 53 (by decide +kernel) (by decide +kernel)
theorem wd_54 : Cond.selects RX9 yX9_found yX9_found ∈ hz_T := hz_mT 54 (by decide +kernel) (by decide +kernel)
theorem wd_55 : Cond.selects RX9 yX9_begin yX9_begin ∈ hz_T := hz_mT 55 (by decide +kernel) (by decide +kernel)
theorem wd_56 : Cond.selects RX9 yX9_comeOfView yX9_comeOfView ∈ hz_T := hz_mT 56 (by decide +kernel) (by decide +kernel)
theorem wd_58 : Cond.initialized RX8 ∈ hz_T := hz_mT 58 (by decide +kernel) (by decide +kernel)
theorem wd_59 : Cond.initialized RX7 ∈ hz_T := hz_mT 59 (by decide +kernel) (by decide +kernel)
theorem wd_60 : Cond.initialized RX5 ∈ hz_T := hz_mT 60 (by decide +kernel) (by decide +kernel)
theorem wd_61 : Cond.initialized RX1 ∈ hz_T := hz_mT 61 (by decide +kernel) (by decide +kernel)
theorem wd_62 : Cond.initialized RX4 ∈ hz_T := hz_mT 62 (by decide +kernel) (by decide +kernel)
theorem wd_63 : Cond.initialized RX6 ∈ hz_T := hz_mT 63 (by decide +kernel) (by decide +kernel)
theorem wd_64 : Cond.initialized RX3 ∈ hz_T := hz_mT 64 (by decide +kernel) (by decide +kernel)
theorem wd_65 : Cond.initialized RX0 ∈ hz_T := hz_mT 65 (by decide +kernel) (by decide +kernel)
theorem wd_66 : Cond.initialized RX9 ∈ hz_T := hz_mT 66 (by decide +kernel) (by decide +kernel)
theorem wd_67 : Cond.initialized RX2 ∈ hz_T := hz_mT 67 (by decide +kernel) (by decide +kernel)
theorem wd_68 : Cond.initialized RJ6 ∈ hz_T := hz_mT 68 (by decide +kernel) (by decide +kernel)
theorem wd_69 : Cond.initialized RJ9 ∈ hz_T := hz_mT 69 (by decide +kernel) (by decide +kernel)
theorem wd_70 : Cond.initialized RJ7 ∈ hz_T := hz_mT 70 (by decide +kernel) (by decide +kernel)
theorem wd_71 : Cond.initialized RJ10 ∈ hz_T := hz_mT 71 (by decide +kernel) (by decide +kernel)
set_option maxRecDepth 100000 in
theorem wd_76 : Cond.code yX8_init cX8_init 4 none ∈ hz_T := hz_mT 76 rfl (by decide +kernel)
theorem wd_77 : Cond.methodLink RX8 3 Lib.objectInit ∈ hz_T := hz_mT 77 (by decide +kernel) (by decide +kernel)
theorem wd_78 : Cond.instanceMethod Lib.objectInit ∈ hz_T := hz_mT 78 (by decide +kernel) (by decide +kernel)
set_option maxRecDepth 100000 in
theorem wd_79 : Cond.code Lib.objectInit ⟨#[0xb1]⟩ 1 none ∈ hz_T := hz_mT 79 rfl (by decide +kernel)
theorem wd_80 : Cond.classLink RX8 9 RX7 ∈ hz_T := hz_mT 80 (by decide +kernel) (by decide +kernel)
theorem wd_81 : Cond.instantiable RX7 5 ∈ hz_T := hz_mT 81 (by decide +kernel) (by decide +kernel)
theorem wn_82 : Cond.methodLinkNest RX8 11 yX7_init "GroupCast" ∈ hz_N := hz_mN 82 (by decide +kernel) (by decide +kernel)
theorem wd_83 : Cond.instanceMethod yX7_init ∈ hz_T := hz_mT 83 (by decide +kernel) (by decide +kernel)
set_option maxRecDepth 100000 in
theorem wd_84 : Cond.code yX7_init cX7_init 1 none ∈ hz_T := hz_mT 84 rfl (by decide +kernel)
theorem wd_85 : Cond.methodLink RX7 3 Lib.objectInit ∈ hz_T := hz_mT 85 (by decide +kernel) (by decide +kernel)
theorem wd_86 : Cond.fieldLink RX7 9 "GroupCast$Tally" "sent" "I" ∈ hz_T := hz_mT 86 (by decide +kernel) (by decide +kernel)
theorem wd_87 : Cond.fieldLink RX5 37 "GroupCast$Tally" "sent" "I" ∈ hz_T := hz_mT 87 (by decide +kernel) (by decide +kernel)
theorem wd_88 : Cond.fieldLink RX7 15 "GroupCast$Tally" "lost" "I" ∈ hz_T := hz_mT 88 (by decide +kernel) (by decide +kernel)
theorem wd_89 : Cond.fieldLink RX8 58 "GroupCast$Tally" "lost" "I" ∈ hz_T := hz_mT 89 (by decide +kernel) (by decide +kernel)
theorem wd_90 : Cond.fieldLink RX5 46 "GroupCast$Tally" "lost" "I" ∈ hz_T := hz_mT 90 (by decide +kernel) (by decide +kernel)
theorem wd_91 : Cond.fieldLink RX4 208 "GroupCast$Tally" "lost" "I" ∈ hz_T := hz_mT 91 (by decide +kernel) (by decide +kernel)
theorem wd_92 : Cond.fieldLink RX7 18 "GroupCast$Tally" "carriedOut" "I" ∈ hz_T := hz_mT 92 (by decide +kernel) (by decide +kernel)
theorem wd_93 : Cond.fieldLink RX4 156 "GroupCast$Tally" "carriedOut" "I" ∈ hz_T := hz_mT 93 (by decide +kernel) (by decide +kernel)
theorem wd_94 : Cond.fieldLink RX7 21 "GroupCast$Tally" "begins" "I" ∈ hz_T := hz_mT 94 (by decide +kernel) (by decide +kernel)
theorem wd_95 : Cond.fieldLink RX4 261 "GroupCast$Tally" "begins" "I" ∈ hz_T := hz_mT 95 (by decide +kernel) (by decide +kernel)
theorem wd_96 : Cond.fieldLink RX7 24 "GroupCast$Tally" "flushes" "I" ∈ hz_T := hz_mT 96 (by decide +kernel) (by decide +kernel)
theorem wd_97 : Cond.fieldLink RX4 273 "GroupCast$Tally" "flushes" "I" ∈ hz_T := hz_mT 97 (by decide +kernel) (by decide +kernel)
theorem wd_109 : Cond.classLink RX8 16 RX5 ∈ hz_T := hz_mT 109 (by decide +kernel) (by decide +kernel)
theorem wd_110 : Cond.instantiable RX5 4 ∈ hz_T := hz_mT 110 (by decide +kernel) (by decide +kernel)
theorem wd_111 : Cond.methodLink RX8 18 yX5_init ∈ hz_T := hz_mT 111 (by decide +kernel) (by decide +kernel)
theorem wd_112 : Cond.instanceMethod yX5_init ∈ hz_T := hz_mT 112 (by decide +kernel) (by decide +kernel)
set_option maxRecDepth 100000 in
theorem wd_113 : Cond.code yX5_init cX5_init 4 none ∈ hz_T := hz_mT 113 rfl (by decide +kernel)
theorem wd_114 : Cond.methodLink RX5 3 Lib.objectInit ∈ hz_T := hz_mT 114 (by decide +kernel) (by decide +kernel)
theorem wd_115 : Cond.classLink RX5 19 RX1 ∈ hz_T := hz_mT 115 (by decide +kernel) (by decide +kernel)
theorem wd_117 : Cond.instantiable RX1 3 ∈ hz_T := hz_mT 117 (by decide +kernel) (by decide +kernel)
theorem wn_118 : Cond.methodLinkNest RX5 25 yX1_init "GroupCast" ∈ hz_N := hz_mN 118 (by decide +kernel) (by decide +kernel)
theorem wd_119 : Cond.instanceMethod yX1_init ∈ hz_T := hz_mT 119 (by decide +kernel) (by decide +kernel)
set_option maxRecDepth 100000 in
theorem wd_120 : Cond.code yX1_init cX1_init 1 none ∈ hz_T := hz_mT 120 rfl (by decide +kernel)
theorem wd_121 : Cond.methodLink RX1 1 Lib.objectInit ∈ hz_T := hz_mT 121 (by decide +kernel) (by decide +kernel)
theorem wd_122 : Cond.fieldLink RX1 13 "GroupCast$Channel" "first" "LGroupCast$Letter;" ∈ hz_T := hz_mT 122 (by decide +kernel) (by decide +kernel)
theorem wd_123 : Cond.fieldLink RX8 127 "GroupCast$Channel" "first" "LGroupCast$Letter;" ∈ hz_T := hz_mT 123 (by decide +kernel) (by decide +kernel)
theorem wd_124 : Cond.fieldLink RX1 7 "GroupCast$Channel" "last" "LGroupCast$Letter;" ∈ hz_T := hz_mT 124 (by decide +kernel) (by decide +kernel)
theorem wd_125 : Cond.fieldLink RX1 21 "GroupCast$Channel" "size" "I" ∈ hz_T := hz_mT 125 (by decide +kernel) (by decide +kernel)
theorem wd_126 : Cond.fieldLink RX8 124 "GroupCast$Channel" "size" "I" ∈ hz_T := hz_mT 126 (by decide +kernel) (by decide +kernel)
theorem wd_134 : Cond.fieldLink RX5 9 "GroupCast$Post" "size" "I" ∈ hz_T := hz_mT 134 (by decide +kernel) (by decide +kernel)
theorem wd_135 : Cond.fieldLink RX5 15 "GroupCast$Post" "tally" "LGroupCast$Tally;" ∈ hz_T := hz_mT 135 (by decide +kernel) (by decide +kernel)
theorem wd_136 : Cond.fieldLink RX5 21 "GroupCast$Post" "channels" "[LGroupCast$Channel;" ∈ hz_T := hz_mT 136 (by decide +kernel) (by decide +kernel)
theorem wd_137 : Cond.fieldLink RX5 30 "GroupCast$Post" "inFlight" "I" ∈ hz_T := hz_mT 137 (by decide +kernel) (by decide +kernel)
theorem wd_138 : Cond.fieldLink RX8 121 "GroupCast$Post" "inFlight" "I" ∈ hz_T := hz_mT 138 (by decide +kernel) (by decide +kernel)
theorem wd_148 : Cond.classLink RX8 25 RX4 ∈ hz_T := hz_mT 148 (by decide +kernel) (by decide +kernel)
theorem wd_150 : Cond.instantiable RX4 17 ∈ hz_T := hz_mT 150 (by decide +kernel) (by decide +kernel)
theorem wd_151 : Cond.methodLink RX8 31 yX4_init ∈ hz_T := hz_mT 151 (by decide +kernel) (by decide +kernel)
theorem wd_152 : Cond.instanceMethod yX4_init ∈ hz_T := hz_mT 152 (by decide +kernel) (by decide +kernel)
set_option maxRecDepth 100000 in
theorem wd_153 : Cond.code yX4_init cX4_init 5 none ∈ hz_T := hz_mT 153 rfl (by decide +kernel)
theorem wd_154 : Cond.methodLink RX4 3 Lib.objectInit ∈ hz_T := hz_mT 154 (by decide +kernel) (by decide +kernel)
theorem wd_155 : Cond.classLink RX4 9 RX6 ∈ hz_T := hz_mT 155 (by decide +kernel) (by decide +kernel)
theorem wd_156 : Cond.instantiable RX6 2 ∈ hz_T := hz_mT 156 (by decide +kernel) (by decide +kernel)
theorem wn_157 : Cond.methodLinkNest RX4 11 yX6_init "GroupCast" ∈ hz_N := hz_mN 157 (by decide +kernel) (by decide +kernel)
theorem wd_158 : Cond.instanceMethod yX6_init ∈ hz_T := hz_mT 158 (by decide +kernel) (by decide +kernel)
set_option maxRecDepth 100000 in
theorem wd_159 : Cond.code yX6_init cX6_init 1 none ∈ hz_T := hz_mT 159 rfl (by decide +kernel)
theorem wd_160 : Cond.methodLink RX6 3 Lib.objectInit ∈ hz_T := hz_mT 160 (by decide +kernel) (by decide +kernel)
theorem wd_161 : Cond.fieldLink RX6 9 "GroupCast$Row" "acts" "[I" ∈ hz_T := hz_mT 161 (by decide +kernel) (by decide +kernel)
theorem wd_162 : Cond.fieldLink RX8 107 "GroupCast$Row" "acts" "[I" ∈ hz_T := hz_mT 162 (by decide +kernel) (by decide +kernel)
theorem wd_163 : Cond.fieldLink RX4 150 "GroupCast$Row" "acts" "[I" ∈ hz_T := hz_mT 163 (by decide +kernel) (by decide +kernel)
theorem wd_164 : Cond.fieldLink RX6 15 "GroupCast$Row" "size" "I" ∈ hz_T := hz_mT 164 (by decide +kernel) (by decide +kernel)
theorem wd_165 : Cond.fieldLink RX4 76 "GroupCast$Row" "size" "I" ∈ hz_T := hz_mT 165 (by decide +kernel) (by decide +kernel)
theorem wd_166 : Cond.fieldLink RX8 101 "GroupCast$Row" "size" "I" ∈ hz_T := hz_mT 166 (by decide +kernel) (by decide +kernel)
theorem wd_172 : Cond.arrayClass (hz_ty 0) ∈ hz_T := hz_mT 172 (by decide +kernel) (by decide +kernel)
theorem wd_173 : Cond.classLink RX4 18 RX3 ∈ hz_T := hz_mT 173 (by decide +kernel) (by decide +kernel)
theorem wd_174 : Cond.instantiable RX3 2 ∈ hz_T := hz_mT 174 (by decide +kernel) (by decide +kernel)
theorem wn_175 : Cond.methodLinkNest RX4 20 yX3_init "GroupCast" ∈ hz_N := hz_mN 175 (by decide +kernel) (by decide +kernel)
theorem wd_176 : Cond.instanceMethod yX3_init ∈ hz_T := hz_mT 176 (by decide +kernel) (by decide +kernel)
set_option maxRecDepth 100000 in
theorem wd_177 : Cond.code yX3_init cX3_init 1 none ∈ hz_T := hz_mT 177 rfl (by decide +kernel)
theorem wd_178 : Cond.methodLink RX3 3 Lib.objectInit ∈ hz_T := hz_mT 178 (by decide +kernel) (by decide +kernel)
theorem wd_179 : Cond.fieldLink RX3 9 "GroupCast$Machine" "ints" "[I" ∈ hz_T := hz_mT 179 (by decide +kernel) (by decide +kernel)
theorem wd_180 : Cond.fieldLink RX3 34 "GroupCast$Machine" "size" "I" ∈ hz_T := hz_mT 180 (by decide +kernel) (by decide +kernel)
theorem wd_181 : Cond.fieldLink RX8 115 "GroupCast$Machine" "size" "I" ∈ hz_T := hz_mT 181 (by decide +kernel) (by decide +kernel)
theorem wd_187 : Cond.classLink RX4 25 RX0 ∈ hz_T := hz_mT 187 (by decide +kernel) (by decide +kernel)
theorem wd_188 : Cond.instantiable RX0 5 ∈ hz_T := hz_mT 188 (by decide +kernel) (by decide +kernel)
theorem wn_189 : Cond.methodLinkNest RX4 27 yX0_init "GroupCast" ∈ hz_N := hz_mN 189 (by decide +kernel) (by decide +kernel)
theorem wd_190 : Cond.instanceMethod yX0_init ∈ hz_T := hz_mT 190 (by decide +kernel) (by decide +kernel)
set_option maxRecDepth 100000 in
theorem wd_191 : Cond.code yX0_init cX0_init 1 none ∈ hz_T := hz_mT 191 rfl (by decide +kernel)
theorem wd_192 : Cond.methodLink RX0 1 Lib.objectInit ∈ hz_T := hz_mT 192 (by decide +kernel) (by decide +kernel)
theorem wn_193 : Cond.fieldLinkNest RX0 7 "GroupCast" "NO_ACTS" "[I" "GroupCast" ∈ hz_N := hz_mN 193 (by decide +kernel) (by decide +kernel)
theorem wd_195 : Cond.fieldLink RX0 18 "GroupCast$Change" "members" "I" ∈ hz_T := hz_mT 195 (by decide +kernel) (by decide +kernel)
theorem wd_196 : Cond.fieldLink RX4 92 "GroupCast$Change" "members" "I" ∈ hz_T := hz_mT 196 (by decide +kernel) (by decide +kernel)
theorem wd_197 : Cond.fieldLink RX0 26 "GroupCast$Change" "awaited" "I" ∈ hz_T := hz_mT 197 (by decide +kernel) (by decide +kernel)
theorem wd_198 : Cond.fieldLink RX4 243 "GroupCast$Change" "awaited" "I" ∈ hz_T := hz_mT 198 (by decide +kernel) (by decide +kernel)
theorem wd_199 : Cond.fieldLink RX0 13 "GroupCast$Change" "best" "[I" ∈ hz_T := hz_mT 199 (by decide +kernel) (by decide +kernel)
theorem wd_200 : Cond.fieldLink RX4 252 "GroupCast$Change" "best" "[I" ∈ hz_T := hz_mT 200 (by decide +kernel) (by decide +kernel)
theorem wd_201 : Cond.fieldLink RX0 32 "GroupCast$Change" "bestStamp" "I" ∈ hz_T := hz_mT 201 (by decide +kernel) (by decide +kernel)
theorem wd_202 : Cond.fieldLink RX0 29 "GroupCast$Change" "bestNode" "I" ∈ hz_T := hz_mT 202 (by decide +kernel) (by decide +kernel)
theorem wd_214 : Cond.fieldLink RX4 42 "GroupCast$Node" "id" "I" ∈ hz_T := hz_mT 214 (by decide +kernel) (by decide +kernel)
theorem wd_215 : Cond.fieldLink RX4 45 "GroupCast$Node" "groupSize" "I" ∈ hz_T := hz_mT 215 (by decide +kernel) (by decide +kernel)
theorem wd_216 : Cond.fieldLink RX4 48 "GroupCast$Node" "post" "LGroupCast$Post;" ∈ hz_T := hz_mT 216 (by decide +kernel) (by decide +kernel)
theorem wd_217 : Cond.fieldLink RX4 52 "GroupCast$Node" "tally" "LGroupCast$Tally;" ∈ hz_T := hz_mT 217 (by decide +kernel) (by decide +kernel)
theorem wd_218 : Cond.fieldLink RX4 12 "GroupCast$Node" "row" "LGroupCast$Row;" ∈ hz_T := hz_mT 218 (by decide +kernel) (by decide +kernel)
theorem wd_219 : Cond.fieldLink RX8 97 "GroupCast$Node" "row" "LGroupCast$Row;" ∈ hz_T := hz_mT 219 (by decide +kernel) (by decide +kernel)
theorem wd_220 : Cond.fieldLink RX4 21 "GroupCast$Node" "machine" "LGroupCast$Machine;" ∈ hz_T := hz_mT 220 (by decide +kernel) (by decide +kernel)
theorem wd_221 : Cond.fieldLink RX8 111 "GroupCast$Node" "machine" "LGroupCast$Machine;" ∈ hz_T := hz_mT 221 (by decide +kernel) (by decide +kernel)
theorem wd_222 : Cond.fieldLink RX4 28 "GroupCast$Node" "change" "LGroupCast$Change;" ∈ hz_T := hz_mT 222 (by decide +kernel) (by decide +kernel)
theorem wd_223 : Cond.fieldLink RX4 56 "GroupCast$Node" "toldHeld" "[I" ∈ hz_T := hz_mT 223 (by decide +kernel) (by decide +kernel)
theorem wd_224 : Cond.fieldLink RX4 32 "GroupCast$Node" "life" "I" ∈ hz_T := hz_mT 224 (by decide +kernel) (by decide +kernel)
theorem wd_225 : Cond.fieldLink RX8 85 "GroupCast$Node" "life" "I" ∈ hz_T := hz_mT 225 (by decide +kernel) (by decide +kernel)
theorem wd_226 : Cond.fieldLink RX4 36 "GroupCast$Node" "task" "I" ∈ hz_T := hz_mT 226 (by decide +kernel) (by decide +kernel)
theorem wd_227 : Cond.fieldLink RX8 88 "GroupCast$Node" "task" "I" ∈ hz_T := hz_mT 227 (by decide +kernel) (by decide +kernel)
theorem wd_228 : Cond.fieldLink RX4 63 "GroupCast$Node" "view" "I" ∈ hz_T := hz_mT 228 (by decide +kernel) (by decide +kernel)
theorem wd_229 : Cond.fieldLink RX4 60 "GroupCast$Node" "members" "I" ∈ hz_T := hz_mT 229 (by decide +kernel) (by decide +kernel)
theorem wd_230 : Cond.fieldLink RX4 70 "GroupCast$Node" "promise" "I" ∈ hz_T := hz_mT 230 (by decide +kernel) (by decide +kernel)
theorem wd_231 : Cond.fieldLink RX4 82 "GroupCast$Node" "stamp" "I" ∈ hz_T := hz_mT 231 (by decide +kernel) (by decide +kernel)
theorem wd_232 : Cond.fieldLink RX4 79 "GroupCast$Node" "carriedOut" "I" ∈ hz_T := hz_mT 232 (by decide +kernel) (by decide +kernel)
theorem wd_233 : Cond.fieldLink RX4 73 "GroupCast$Node" "suspects" "I" ∈ hz_T := hz_mT 233 (by decide +kernel) (by decide +kernel)
theorem wd_234 : Cond.fieldLink RX8 74 "GroupCast$Node" "suspects" "I" ∈ hz_T := hz_mT 234 (by decide +kernel) (by decide +kernel)
theorem wd_235 : Cond.fieldLink RX4 39 "GroupCast$Node" "lastFlusher" "I" ∈ hz_T := hz_mT 235 (by decide +kernel) (by decide +kernel)
theorem wd_271 : Cond.fieldLink RX8 12 "GroupCast" "tally" "LGroupCast$Tally;" ∈ hz_T := hz_mT 271 (by decide +kernel) (by decide +kernel)
theorem wd_272 : Cond.fieldLink RX8 21 "GroupCast" "post" "LGroupCast$Post;" ∈ hz_T := hz_mT 272 (by decide +kernel) (by decide +kernel)
theorem wd_273 : Cond.fieldLink RX8 27 "GroupCast" "nodes" "[LGroupCast$Node;" ∈ hz_T := hz_mT 273 (by decide +kernel) (by decide +kernel)
theorem wd_282 : Cond.instanceMethod yX8_submit ∈ hz_T := hz_mT 282 (by decide +kernel) (by decide +kernel)
theorem wd_283 : Cond.selects RX8 yX8_submit yX8_submit ∈ hz_T := hz_mT 283 (by decide +kernel) (by decide +kernel)
set_option maxRecDepth 100000 in
theorem wd_284 : Cond.code yX8_submit cX8_submit 4 (some .int) ∈ hz_T := hz_mT 284 rfl (by decide +kernel)
theorem wd_285 : Cond.methodLink RX8 34 yX8_find ∈ hz_T := hz_mT 285 (by decide +kernel) (by decide +kernel)
theorem wd_287 : Cond.instanceMethod yX8_find ∈ hz_T := hz_mT 287 (by decide +kernel) (by decide +kernel)
set_option maxRecDepth 100000 in
theorem wd_288 : Cond.code yX8_find cX8_find 2 (some (.object "GroupCast$Node")) ∈ hz_T := hz_mT 288 rfl (by decide +kernel)
theorem wd_289 : Cond.methodLink RX8 38 yX8_isAct ∈ hz_T := hz_mT 289 (by decide +kernel) (by decide +kernel)
theorem wd_290 : Cond.static yX8_isAct ∈ hz_T := hz_mT 290 (by decide +kernel) (by decide +kernel)
set_option maxRecDepth 100000 in
theorem wd_291 : Cond.code yX8_isAct cX8_isAct 2 (some .boolean) ∈ hz_T := hz_mT 291 rfl (by decide +kernel)
theorem wd_292 : Cond.methodLink RX8 42 yX4_isLive ∈ hz_T := hz_mT 292 (by decide +kernel) (by decide +kernel)
theorem wd_293 : Cond.instanceMethod yX4_isLive ∈ hz_T := hz_mT 293 (by decide +kernel) (by decide +kernel)
theorem wd_294 : Cond.selects RX4 yX4_isLive yX4_isLive ∈ hz_T := hz_mT 294 (by decide +kernel) (by decide +kernel)
set_option maxRecDepth 100000 in
theorem wd_295 : Cond.code yX4_isLive cX4_isLive 1 (some .boolean) ∈ hz_T := hz_mT 295 rfl (by decide +kernel)
theorem wd_296 : Cond.methodLink RX8 46 yX4_accept ∈ hz_T := hz_mT 296 (by decide +kernel) (by decide +kernel)
theorem wd_297 : Cond.instanceMethod yX4_accept ∈ hz_T := hz_mT 297 (by decide +kernel) (by decide +kernel)
theorem wd_298 : Cond.selects RX4 yX4_accept yX4_accept ∈ hz_T := hz_mT 298 (by decide +kernel) (by decide +kernel)
set_option maxRecDepth 100000 in
theorem wd_299 : Cond.code yX4_accept cX4_accept 2 (some .int) ∈ hz_T := hz_mT 299 rfl (by decide +kernel)
theorem wd_300 : Cond.methodLink RX4 85 yX4_isBlocked ∈ hz_T := hz_mT 300 (by decide +kernel) (by decide +kernel)
theorem wd_302 : Cond.instanceMethod yX4_isBlocked ∈ hz_T := hz_mT 302 (by decide +kernel) (by decide +kernel)
set_option maxRecDepth 100000 in
theorem wd_303 : Cond.code yX4_isBlocked cX4_isBlocked 1 (some .boolean) ∈ hz_T := hz_mT 303 rfl (by decide +kernel)
theorem wd_304 : Cond.methodLink RX4 66 yX4_leader ∈ hz_T := hz_mT 304 (by decide +kernel) (by decide +kernel)
theorem wd_306 : Cond.instanceMethod yX4_leader ∈ hz_T := hz_mT 306 (by decide +kernel) (by decide +kernel)
set_option maxRecDepth 100000 in
theorem wd_307 : Cond.code yX4_leader cX4_leader 2 (some .int) ∈ hz_T := hz_mT 307 rfl (by decide +kernel)
theorem wn_308 : Cond.methodLinkNest RX4 93 yX8_has "GroupCast" ∈ hz_N := hz_mN 308 (by decide +kernel) (by decide +kernel)
theorem wd_309 : Cond.static yX8_has ∈ hz_T := hz_mT 309 (by decide +kernel) (by decide +kernel)
set_option maxRecDepth 100000 in
theorem wd_310 : Cond.code yX8_has cX8_has 2 (some .boolean) ∈ hz_T := hz_mT 310 rfl (by decide +kernel)
theorem wd_311 : Cond.methodLink RX4 110 yX5_send ∈ hz_T := hz_mT 311 (by decide +kernel) (by decide +kernel)
theorem wd_312 : Cond.instanceMethod yX5_send ∈ hz_T := hz_mT 312 (by decide +kernel) (by decide +kernel)
theorem wd_313 : Cond.selects RX5 yX5_send yX5_send ∈ hz_T := hz_mT 313 (by decide +kernel) (by decide +kernel)
set_option maxRecDepth 100000 in
theorem wd_314 : Cond.code yX5_send cX5_send 9 none ∈ hz_T := hz_mT 314 rfl (by decide +kernel)
theorem wn_315 : Cond.methodLinkNest RX5 33 yX8_has "GroupCast" ∈ hz_N := hz_mN 315 (by decide +kernel) (by decide +kernel)
theorem wd_316 : Cond.methodLink RX5 42 yX5_between ∈ hz_T := hz_mT 316 (by decide +kernel) (by decide +kernel)
theorem wd_317 : Cond.instanceMethod yX5_between ∈ hz_T := hz_mT 317 (by decide +kernel) (by decide +kernel)
theorem wd_318 : Cond.selects RX5 yX5_between yX5_between ∈ hz_T := hz_mT 318 (by decide +kernel) (by decide +kernel)
set_option maxRecDepth 100000 in
theorem wd_319 : Cond.code yX5_between cX5_between 4 (some (.object "GroupCast$Channel")) ∈ hz_T := hz_mT 319 rfl (by decide +kernel)
theorem wd_320 : Cond.classLink RX5 49 RX2 ∈ hz_T := hz_mT 320 (by decide +kernel) (by decide +kernel)
theorem wd_321 : Cond.instantiable RX2 5 ∈ hz_T := hz_mT 321 (by decide +kernel) (by decide +kernel)
theorem wd_322 : Cond.methodLink RX5 51 yX2_init ∈ hz_T := hz_mT 322 (by decide +kernel) (by decide +kernel)
theorem wd_323 : Cond.instanceMethod yX2_init ∈ hz_T := hz_mT 323 (by decide +kernel) (by decide +kernel)
set_option maxRecDepth 100000 in
theorem wd_324 : Cond.code yX2_init cX2_init 5 none ∈ hz_T := hz_mT 324 rfl (by decide +kernel)
theorem wd_325 : Cond.methodLink RX2 3 Lib.objectInit ∈ hz_T := hz_mT 325 (by decide +kernel) (by decide +kernel)
theorem wd_326 : Cond.fieldLink RX2 9 "GroupCast$Letter" "kind" "I" ∈ hz_T := hz_mT 326 (by decide +kernel) (by decide +kernel)
theorem wd_327 : Cond.fieldLink RX8 62 "GroupCast$Letter" "kind" "I" ∈ hz_T := hz_mT 327 (by decide +kernel) (by decide +kernel)
theorem wd_328 : Cond.fieldLink RX4 162 "GroupCast$Letter" "kind" "I" ∈ hz_T := hz_mT 328 (by decide +kernel) (by decide +kernel)
theorem wd_329 : Cond.fieldLink RX2 15 "GroupCast$Letter" "number" "I" ∈ hz_T := hz_mT 329 (by decide +kernel) (by decide +kernel)
theorem wd_330 : Cond.fieldLink RX4 214 "GroupCast$Letter" "number" "I" ∈ hz_T := hz_mT 330 (by decide +kernel) (by decide +kernel)
theorem wd_331 : Cond.fieldLink RX2 18 "GroupCast$Letter" "detail" "I" ∈ hz_T := hz_mT 331 (by decide +kernel) (by decide +kernel)
theorem wd_332 : Cond.fieldLink RX4 211 "GroupCast$Letter" "detail" "I" ∈ hz_T := hz_mT 332 (by decide +kernel) (by decide +kernel)
theorem wd_333 : Cond.fieldLink RX2 21 "GroupCast$Letter" "acts" "[I" ∈ hz_T := hz_mT 333 (by decide +kernel) (by decide +kernel)
theorem wd_334 : Cond.fieldLink RX4 228 "GroupCast$Letter" "acts" "[I" ∈ hz_T := hz_mT 334 (by decide +kernel) (by decide +kernel)
theorem wd_335 : Cond.fieldLink RX1 16 "GroupCast$Letter" "next" "LGroupCast$Letter;" ∈ hz_T := hz_mT 335 (by decide +kernel) (by decide +kernel)
theorem wd_347 : Cond.methodLink RX5 54 yX1_put ∈ hz_T := hz_mT 347 (by decide +kernel) (by decide +kernel)
theorem wd_348 : Cond.instanceMethod yX1_put ∈ hz_T := hz_mT 348 (by decide +kernel) (by decide +kernel)
theorem wd_349 : Cond.selects RX1 yX1_put yX1_put ∈ hz_T := hz_mT 349 (by decide +kernel) (by decide +kernel)
set_option maxRecDepth 100000 in
theorem wd_350 : Cond.code yX1_put cX1_put 2 none ∈ hz_T := hz_mT 350 rfl (by decide +kernel)
theorem wd_351 : Cond.methodLink RX4 116 yX6_isFull ∈ hz_T := hz_mT 351 (by decide +kernel) (by decide +kernel)
theorem wd_352 : Cond.instanceMethod yX6_isFull ∈ hz_T := hz_mT 352 (by decide +kernel) (by decide +kernel)
theorem wd_353 : Cond.selects RX6 yX6_isFull yX6_isFull ∈ hz_T := hz_mT 353 (by decide +kernel) (by decide +kernel)
set_option maxRecDepth 100000 in
theorem wd_354 : Cond.code yX6_isFull cX6_isFull 1 (some .boolean) ∈ hz_T := hz_mT 354 rfl (by decide +kernel)
theorem wd_355 : Cond.methodLink RX4 119 yX4_putInOrder ∈ hz_T := hz_mT 355 (by decide +kernel) (by decide +kernel)
theorem wd_357 : Cond.instanceMethod yX4_putInOrder ∈ hz_T := hz_mT 357 (by decide +kernel) (by decide +kernel)
set_option maxRecDepth 100000 in
theorem wd_358 : Cond.code yX4_putInOrder cX4_putInOrder 3 none ∈ hz_T := hz_mT 358 rfl (by decide +kernel)
theorem wd_359 : Cond.methodLink RX4 126 yX6_add ∈ hz_T := hz_mT 359 (by decide +kernel) (by decide +kernel)
theorem wd_360 : Cond.instanceMethod yX6_add ∈ hz_T := hz_mT 360 (by decide +kernel) (by decide +kernel)
theorem wd_361 : Cond.selects RX6 yX6_add yX6_add ∈ hz_T := hz_mT 361 (by decide +kernel) (by decide +kernel)
set_option maxRecDepth 100000 in
theorem wd_362 : Cond.code yX6_add cX6_add 2 none ∈ hz_T := hz_mT 362 rfl (by decide +kernel)
theorem wd_363 : Cond.methodLink RX6 19 yX6_isFull ∈ hz_T := hz_mT 363 (by decide +kernel) (by decide +kernel)
theorem wd_364 : Cond.methodLink RX4 129 yX4_others ∈ hz_T := hz_mT 364 (by decide +kernel) (by decide +kernel)
theorem wd_366 : Cond.instanceMethod yX4_others ∈ hz_T := hz_mT 366 (by decide +kernel) (by decide +kernel)
set_option maxRecDepth 100000 in
theorem wd_367 : Cond.code yX4_others cX4_others 1 (some .int) ∈ hz_T := hz_mT 367 rfl (by decide +kernel)
theorem wn_368 : Cond.methodLinkNest RX4 103 yX8_without "GroupCast" ∈ hz_N := hz_mN 368 (by decide +kernel) (by decide +kernel)
theorem wd_369 : Cond.static yX8_without ∈ hz_T := hz_mT 369 (by decide +kernel) (by decide +kernel)
set_option maxRecDepth 100000 in
theorem wd_370 : Cond.code yX8_without cX8_without 2 (some .int) ∈ hz_T := hz_mT 370 rfl (by decide +kernel)
theorem wd_371 : Cond.methodLink RX4 123 yX4_carryOutWhatMostHold ∈ hz_T := hz_mT 371 (by decide +kernel) (by decide +kernel)
theorem wd_373 : Cond.instanceMethod yX4_carryOutWhatMostHold ∈ hz_T := hz_mT 373 (by decide +kernel) (by decide +kernel)
set_option maxRecDepth 100000 in
theorem wd_374 : Cond.code yX4_carryOutWhatMostHold cX4_carryOutWhatMostHold 2 none ∈ hz_T := hz_mT 374 rfl (by decide +kernel)
theorem wd_375 : Cond.methodLink RX4 132 yX4_heldByMost ∈ hz_T := hz_mT 375 (by decide +kernel) (by decide +kernel)
theorem wd_377 : Cond.instanceMethod yX4_heldByMost ∈ hz_T := hz_mT 377 (by decide +kernel) (by decide +kernel)
set_option maxRecDepth 100000 in
theorem wd_378 : Cond.code yX4_heldByMost cX4_heldByMost 2 (some .int) ∈ hz_T := hz_mT 378 rfl (by decide +kernel)
theorem wd_379 : Cond.methodLink RX4 138 yX4_holdersOf ∈ hz_T := hz_mT 379 (by decide +kernel) (by decide +kernel)
theorem wd_381 : Cond.instanceMethod yX4_holdersOf ∈ hz_T := hz_mT 381 (by decide +kernel) (by decide +kernel)
set_option maxRecDepth 100000 in
theorem wd_382 : Cond.code yX4_holdersOf cX4_holdersOf 5 (some .int) ∈ hz_T := hz_mT 382 rfl (by decide +kernel)
theorem wd_383 : Cond.methodLink RX4 141 yX4_areMost ∈ hz_T := hz_mT 383 (by decide +kernel) (by decide +kernel)
theorem wd_385 : Cond.instanceMethod yX4_areMost ∈ hz_T := hz_mT 385 (by decide +kernel) (by decide +kernel)
set_option maxRecDepth 100000 in
theorem wd_386 : Cond.code yX4_areMost cX4_areMost 2 (some .boolean) ∈ hz_T := hz_mT 386 rfl (by decide +kernel)
theorem wd_387 : Cond.methodLink RX4 97 yJ6_bitCount_0f7a4 ∈ hz_T := hz_mT 387 (by decide +kernel) (by decide +kernel)
theorem wd_388 : Cond.static yJ6_bitCount_0f7a4 ∈ hz_T := hz_mT 388 (by decide +kernel) (by decide +kernel)
set_option maxRecDepth 100000 in
theorem wd_389 : Cond.code yJ6_bitCount_0f7a4 cJ6_bitCount_0f7a4 1 (some .int) ∈ hz_T := hz_mT 389 rfl (by decide +kernel)
theorem wd_390 : Cond.constant RJ6 265 1431655765 ∈ hz_T := hz_mT 390 (by decide +kernel) (by decide +kernel)
theorem wd_391 : Cond.constant RJ6 266 858993459 ∈ hz_T := hz_mT 391 (by decide +kernel) (by decide +kernel)
theorem wd_392 : Cond.constant RJ6 267 252645135 ∈ hz_T := hz_mT 392 (by decide +kernel) (by decide +kernel)
theorem wd_393 : Cond.methodLink RX4 135 yX4_carryOutUpTo ∈ hz_T := hz_mT 393 (by decide +kernel) (by decide +kernel)
theorem wd_395 : Cond.instanceMethod yX4_carryOutUpTo ∈ hz_T := hz_mT 395 (by decide +kernel) (by decide +kernel)
set_option maxRecDepth 100000 in
theorem wd_396 : Cond.code yX4_carryOutUpTo cX4_carryOutUpTo 4 none ∈ hz_T := hz_mT 396 rfl (by decide +kernel)
theorem wd_397 : Cond.methodLink RX4 145 yJ9_min_7cf53 ∈ hz_T := hz_mT 397 (by decide +kernel) (by decide +kernel)
theorem wd_398 : Cond.static yJ9_min_7cf53 ∈ hz_T := hz_mT 398 (by decide +kernel) (by decide +kernel)
set_option maxRecDepth 100000 in
theorem wd_399 : Cond.code yJ9_min_7cf53 cJ9_min_7cf53 2 (some .int) ∈ hz_T := hz_mT 399 rfl (by decide +kernel)
theorem wd_400 : Cond.methodLink RX4 153 yX3_carryOut ∈ hz_T := hz_mT 400 (by decide +kernel) (by decide +kernel)
theorem wd_401 : Cond.instanceMethod yX3_carryOut ∈ hz_T := hz_mT 401 (by decide +kernel) (by decide +kernel)
theorem wd_402 : Cond.selects RX3 yX3_carryOut yX3_carryOut ∈ hz_T := hz_mT 402 (by decide +kernel) (by decide +kernel)
set_option maxRecDepth 100000 in
theorem wd_403 : Cond.code yX3_carryOut cX3_carryOut 2 none ∈ hz_T := hz_mT 403 rfl (by decide +kernel)
theorem wd_404 : Cond.methodLink RX3 15 yX3_add ∈ hz_T := hz_mT 404 (by decide +kernel) (by decide +kernel)
theorem wd_406 : Cond.instanceMethod yX3_add ∈ hz_T := hz_mT 406 (by decide +kernel) (by decide +kernel)
set_option maxRecDepth 100000 in
theorem wd_407 : Cond.code yX3_add cX3_add 1 none ∈ hz_T := hz_mT 407 rfl (by decide +kernel)
theorem wd_408 : Cond.methodLink RX3 18 yX3_multiply ∈ hz_T := hz_mT 408 (by decide +kernel) (by decide +kernel)
theorem wd_410 : Cond.instanceMethod yX3_multiply ∈ hz_T := hz_mT 410 (by decide +kernel) (by decide +kernel)
set_option maxRecDepth 100000 in
theorem wd_411 : Cond.code yX3_multiply cX3_multiply 1 none ∈ hz_T := hz_mT 411 rfl (by decide +kernel)
theorem wd_412 : Cond.methodLink RX3 21 yX3_duplicate ∈ hz_T := hz_mT 412 (by decide +kernel) (by decide +kernel)
theorem wd_414 : Cond.instanceMethod yX3_duplicate ∈ hz_T := hz_mT 414 (by decide +kernel) (by decide +kernel)
set_option maxRecDepth 100000 in
theorem wd_415 : Cond.code yX3_duplicate cX3_duplicate 1 none ∈ hz_T := hz_mT 415 rfl (by decide +kernel)
theorem wd_416 : Cond.methodLink RX3 24 yX3_drop ∈ hz_T := hz_mT 416 (by decide +kernel) (by decide +kernel)
theorem wd_418 : Cond.instanceMethod yX3_drop ∈ hz_T := hz_mT 418 (by decide +kernel) (by decide +kernel)
set_option maxRecDepth 100000 in
theorem wd_419 : Cond.code yX3_drop cX3_drop 1 none ∈ hz_T := hz_mT 419 rfl (by decide +kernel)
theorem wd_420 : Cond.methodLink RX3 27 yX3_swap ∈ hz_T := hz_mT 420 (by decide +kernel) (by decide +kernel)
theorem wd_422 : Cond.instanceMethod yX3_swap ∈ hz_T := hz_mT 422 (by decide +kernel) (by decide +kernel)
set_option maxRecDepth 100000 in
theorem wd_423 : Cond.code yX3_swap cX3_swap 2 none ∈ hz_T := hz_mT 423 rfl (by decide +kernel)
theorem wd_424 : Cond.methodLink RX3 30 yX3_push ∈ hz_T := hz_mT 424 (by decide +kernel) (by decide +kernel)
theorem wd_426 : Cond.instanceMethod yX3_push ∈ hz_T := hz_mT 426 (by decide +kernel) (by decide +kernel)
set_option maxRecDepth 100000 in
theorem wd_427 : Cond.code yX3_push cX3_push 2 none ∈ hz_T := hz_mT 427 rfl (by decide +kernel)
theorem wd_428 : Cond.methodLink RX4 159 yJ9_max_7cf53 ∈ hz_T := hz_mT 428 (by decide +kernel) (by decide +kernel)
theorem wd_429 : Cond.static yJ9_max_7cf53 ∈ hz_T := hz_mT 429 (by decide +kernel) (by decide +kernel)
set_option maxRecDepth 100000 in
theorem wd_430 : Cond.code yJ9_max_7cf53 cJ9_max_7cf53 2 (some .int) ∈ hz_T := hz_mT 430 rfl (by decide +kernel)
theorem wn_431 : Cond.fieldLinkNest RX4 107 "GroupCast" "NO_ACTS" "[I" "GroupCast" ∈ hz_N := hz_mN 431 (by decide +kernel) (by decide +kernel)
theorem wd_433 : Cond.instanceMethod yX8_deliver ∈ hz_T := hz_mT 433 (by decide +kernel) (by decide +kernel)
theorem wd_434 : Cond.selects RX8 yX8_deliver yX8_deliver ∈ hz_T := hz_mT 434 (by decide +kernel) (by decide +kernel)
set_option maxRecDepth 100000 in
theorem wd_435 : Cond.code yX8_deliver cX8_deliver 6 (some .int) ∈ hz_T := hz_mT 435 rfl (by decide +kernel)
theorem wd_436 : Cond.methodLink RX8 50 yX5_between ∈ hz_T := hz_mT 436 (by decide +kernel) (by decide +kernel)
theorem wd_437 : Cond.methodLink RX8 54 yX5_takeOldest ∈ hz_T := hz_mT 437 (by decide +kernel) (by decide +kernel)
theorem wd_438 : Cond.instanceMethod yX5_takeOldest ∈ hz_T := hz_mT 438 (by decide +kernel) (by decide +kernel)
theorem wd_439 : Cond.selects RX5 yX5_takeOldest yX5_takeOldest ∈ hz_T := hz_mT 439 (by decide +kernel) (by decide +kernel)
set_option maxRecDepth 100000 in
theorem wd_440 : Cond.code yX5_takeOldest cX5_takeOldest 3 (some (.object "GroupCast$Letter")) ∈ hz_T := hz_mT 440 rfl (by decide +kernel)
theorem wd_441 : Cond.methodLink RX5 26 yX1_take ∈ hz_T := hz_mT 441 (by decide +kernel) (by decide +kernel)
theorem wd_442 : Cond.instanceMethod yX1_take ∈ hz_T := hz_mT 442 (by decide +kernel) (by decide +kernel)
theorem wd_443 : Cond.selects RX1 yX1_take yX1_take ∈ hz_T := hz_mT 443 (by decide +kernel) (by decide +kernel)
set_option maxRecDepth 100000 in
theorem wd_444 : Cond.code yX1_take cX1_take 2 (some (.object "GroupCast$Letter")) ∈ hz_T := hz_mT 444 rfl (by decide +kernel)
theorem wd_445 : Cond.methodLink RX8 67 yX4_receive ∈ hz_T := hz_mT 445 (by decide +kernel) (by decide +kernel)
theorem wd_446 : Cond.instanceMethod yX4_receive ∈ hz_T := hz_mT 446 (by decide +kernel) (by decide +kernel)
theorem wd_447 : Cond.selects RX4 yX4_receive yX4_receive ∈ hz_T := hz_mT 447 (by decide +kernel) (by decide +kernel)
set_option maxRecDepth 100000 in
theorem wd_448 : Cond.code yX4_receive cX4_receive 3 none ∈ hz_T := hz_mT 448 rfl (by decide +kernel)
theorem wd_449 : Cond.methodLink RX4 167 yX4_onPass ∈ hz_T := hz_mT 449 (by decide +kernel) (by decide +kernel)
theorem wd_451 : Cond.instanceMethod yX4_onPass ∈ hz_T := hz_mT 451 (by decide +kernel) (by decide +kernel)
set_option maxRecDepth 100000 in
theorem wd_452 : Cond.code yX4_onPass cX4_onPass 2 none ∈ hz_T := hz_mT 452 rfl (by decide +kernel)
theorem wd_453 : Cond.methodLink RX4 202 yX4_leadsUnblocked ∈ hz_T := hz_mT 453 (by decide +kernel) (by decide +kernel)
theorem wd_455 : Cond.instanceMethod yX4_leadsUnblocked ∈ hz_T := hz_mT 455 (by decide +kernel) (by decide +kernel)
set_option maxRecDepth 100000 in
theorem wd_456 : Cond.code yX4_leadsUnblocked cX4_leadsUnblocked 1 (some .boolean) ∈ hz_T := hz_mT 456 rfl (by decide +kernel)
theorem wd_457 : Cond.methodLink RX4 205 yX2_firstAct ∈ hz_T := hz_mT 457 (by decide +kernel) (by decide +kernel)
theorem wd_458 : Cond.instanceMethod yX2_firstAct ∈ hz_T := hz_mT 458 (by decide +kernel) (by decide +kernel)
theorem wd_459 : Cond.selects RX2 yX2_firstAct yX2_firstAct ∈ hz_T := hz_mT 459 (by decide +kernel) (by decide +kernel)
set_option maxRecDepth 100000 in
theorem wd_460 : Cond.code yX2_firstAct cX2_firstAct 1 (some .int) ∈ hz_T := hz_mT 460 rfl (by decide +kernel)
theorem wd_461 : Cond.methodLink RX4 171 yX4_onOrder ∈ hz_T := hz_mT 461 (by decide +kernel) (by decide +kernel)
theorem wd_463 : Cond.instanceMethod yX4_onOrder ∈ hz_T := hz_mT 463 (by decide +kernel) (by decide +kernel)
set_option maxRecDepth 100000 in
theorem wd_464 : Cond.code yX4_onOrder cX4_onOrder 4 none ∈ hz_T := hz_mT 464 rfl (by decide +kernel)
theorem wd_465 : Cond.methodLink RX4 217 yX4_reply ∈ hz_T := hz_mT 465 (by decide +kernel) (by decide +kernel)
theorem wd_467 : Cond.instanceMethod yX4_reply ∈ hz_T := hz_mT 467 (by decide +kernel) (by decide +kernel)
set_option maxRecDepth 100000 in
theorem wd_468 : Cond.code yX4_reply cX4_reply 5 none ∈ hz_T := hz_mT 468 rfl (by decide +kernel)
theorem wd_469 : Cond.methodLink RX4 175 yX4_onHeld ∈ hz_T := hz_mT 469 (by decide +kernel) (by decide +kernel)
theorem wd_471 : Cond.instanceMethod yX4_onHeld ∈ hz_T := hz_mT 471 (by decide +kernel) (by decide +kernel)
set_option maxRecDepth 100000 in
theorem wd_472 : Cond.code yX4_onHeld cX4_onHeld 4 none ∈ hz_T := hz_mT 472 rfl (by decide +kernel)
theorem wd_473 : Cond.methodLink RX4 178 yX4_onDo ∈ hz_T := hz_mT 473 (by decide +kernel) (by decide +kernel)
theorem wd_475 : Cond.instanceMethod yX4_onDo ∈ hz_T := hz_mT 475 (by decide +kernel) (by decide +kernel)
set_option maxRecDepth 100000 in
theorem wd_476 : Cond.code yX4_onDo cX4_onDo 2 none ∈ hz_T := hz_mT 476 rfl (by decide +kernel)
theorem wd_477 : Cond.methodLink RX4 181 yX4_onElect ∈ hz_T := hz_mT 477 (by decide +kernel) (by decide +kernel)
theorem wd_479 : Cond.instanceMethod yX4_onElect ∈ hz_T := hz_mT 479 (by decide +kernel) (by decide +kernel)
set_option maxRecDepth 100000 in
theorem wd_480 : Cond.code yX4_onElect cX4_onElect 2 none ∈ hz_T := hz_mT 480 rfl (by decide +kernel)
theorem wd_481 : Cond.methodLink RX4 221 yX4_ask ∈ hz_T := hz_mT 481 (by decide +kernel) (by decide +kernel)
theorem wd_483 : Cond.instanceMethod yX4_ask ∈ hz_T := hz_mT 483 (by decide +kernel) (by decide +kernel)
set_option maxRecDepth 100000 in
theorem wd_484 : Cond.code yX4_ask cX4_ask 2 none ∈ hz_T := hz_mT 484 rfl (by decide +kernel)
theorem wn_485 : Cond.methodLinkNest RX4 264 yX8_allAbove "GroupCast" ∈ hz_N := hz_mN 485 (by decide +kernel) (by decide +kernel)
theorem wd_486 : Cond.static yX8_allAbove ∈ hz_T := hz_mT 486 (by decide +kernel) (by decide +kernel)
set_option maxRecDepth 100000 in
theorem wd_487 : Cond.code yX8_allAbove cX8_allAbove 2 (some .int) ∈ hz_T := hz_mT 487 rfl (by decide +kernel)
theorem wd_488 : Cond.methodLink RX4 267 yX4_flush ∈ hz_T := hz_mT 488 (by decide +kernel) (by decide +kernel)
theorem wd_490 : Cond.instanceMethod yX4_flush ∈ hz_T := hz_mT 490 (by decide +kernel) (by decide +kernel)
set_option maxRecDepth 100000 in
theorem wd_491 : Cond.code yX4_flush cX4_flush 2 none ∈ hz_T := hz_mT 491 rfl (by decide +kernel)
theorem wd_492 : Cond.methodLink RX4 270 yX4_nextOwnNumber ∈ hz_T := hz_mT 492 (by decide +kernel) (by decide +kernel)
theorem wd_494 : Cond.instanceMethod yX4_nextOwnNumber ∈ hz_T := hz_mT 494 (by decide +kernel) (by decide +kernel)
set_option maxRecDepth 100000 in
theorem wd_495 : Cond.code yX4_nextOwnNumber cX4_nextOwnNumber 2 (some .int) ∈ hz_T := hz_mT 495 rfl (by decide +kernel)
theorem wd_496 : Cond.methodLink RX4 280 yJ9_floorMod_7cf53 ∈ hz_T := hz_mT 496 (by decide +kernel) (by decide +kernel)
theorem wd_497 : Cond.static yJ9_floorMod_7cf53 ∈ hz_T := hz_mT 497 (by decide +kernel) (by decide +kernel)
set_option maxRecDepth 100000 in
theorem wd_498 : Cond.code yJ9_floorMod_7cf53 cJ9_floorMod_7cf53 3 (some .int) ∈ hz_T := hz_mT 498 rfl (by decide +kernel)
theorem wd_499 : Cond.methodLink RX4 224 yX6_copy ∈ hz_T := hz_mT 499 (by decide +kernel) (by decide +kernel)
theorem wd_500 : Cond.instanceMethod yX6_copy ∈ hz_T := hz_mT 500 (by decide +kernel) (by decide +kernel)
theorem wd_501 : Cond.selects RX6 yX6_copy yX6_copy ∈ hz_T := hz_mT 501 (by decide +kernel) (by decide +kernel)
set_option maxRecDepth 100000 in
theorem wd_502 : Cond.code yX6_copy cX6_copy 1 (some (.array .int)) ∈ hz_T := hz_mT 502 rfl (by decide +kernel)
theorem wd_503 : Cond.methodLink RX6 23 yJ7_copyOf_59c91 ∈ hz_T := hz_mT 503 (by decide +kernel) (by decide +kernel)
theorem wd_504 : Cond.static yJ7_copyOf_59c91 ∈ hz_T := hz_mT 504 (by decide +kernel) (by decide +kernel)
set_option maxRecDepth 100000 in
theorem wd_505 : Cond.code yJ7_copyOf_59c91 cJ7_copyOf_59c91 3 (some (.array .int)) ∈ hz_T := hz_mT 505 rfl (by decide +kernel)
theorem wd_506 : Cond.methodLink RJ7 316 ⟨"[I", "clone", "()Ljava/lang/Object;"⟩ ∈ hz_T := hz_mT 506 (by decide +kernel) (by decide +kernel)
theorem wd_507 : Cond.sameMethod "[I" "java/lang/Object" "clone" "()Ljava/lang/Object;" ∈ hz_T := hz_mT 507 (by decide +kernel) (by decide +kernel)
theorem wd_508 : Cond.native ⟨"java/lang/Object", "clone", "()Ljava/lang/Object;"⟩ ∈ hz_T := hz_mT 508 (by decide +kernel) (by decide +kernel)
theorem wd_509 : Cond.instanceMethod ⟨"java/lang/Object", "clone", "()Ljava/lang/Object;"⟩ ∈ hz_T := hz_mT 509 (by decide +kernel) (by decide +kernel)
theorem wd_510 : Cond.selects "[I" ⟨"[I", "clone", "()Ljava/lang/Object;"⟩ ⟨"java/lang/Object", "clone", "()Ljava/lang/Object;"⟩ ∈ hz_T := hz_mT 510 (by decide +kernel) (by decide +kernel)
theorem wn_511 : Cond.castable "[I" "java/lang/Cloneable" ∈ hz_N := hz_mN 511 (by decide +kernel) (by decide +kernel)
theorem wd_512 : Cond.classLink RJ7 317 "[I" ∈ hz_T := hz_mT 512 (by decide +kernel) (by decide +kernel)
theorem wd_513 : Cond.methodLink RJ7 304 yJ9_min_7cf53 ∈ hz_T := hz_mT 513 (by decide +kernel) (by decide +kernel)
theorem wd_514 : Cond.methodLink RJ7 150 ⟨"java/lang/System", "arraycopy", "(Ljava/lang/Object;ILjava/lang/Object;II)V"⟩ ∈ hz_T := hz_mT 514 (by decide +kernel) (by decide +kernel)
theorem wd_515 : Cond.static ⟨"java/lang/System", "arraycopy", "(Ljava/lang/Object;ILjava/lang/Object;II)V"⟩ ∈ hz_T := hz_mT 515 (by decide +kernel) (by decide +kernel)
theorem wd_516 : Cond.native ⟨"java/lang/System", "arraycopy", "(Ljava/lang/Object;ILjava/lang/Object;II)V"⟩ ∈ hz_T := hz_mT 516 (by decide +kernel) (by decide +kernel)
theorem wd_517 : Cond.methodLink RX4 276 yX0_start ∈ hz_T := hz_mT 517 (by decide +kernel) (by decide +kernel)
theorem wd_518 : Cond.instanceMethod yX0_start ∈ hz_T := hz_mT 518 (by decide +kernel) (by decide +kernel)
theorem wd_519 : Cond.selects RX0 yX0_start yX0_start ∈ hz_T := hz_mT 519 (by decide +kernel) (by decide +kernel)
set_option maxRecDepth 100000 in
theorem wd_520 : Cond.code yX0_start cX0_start 5 none ∈ hz_T := hz_mT 520 rfl (by decide +kernel)
theorem wn_521 : Cond.methodLinkNest RX0 22 yX8_without "GroupCast" ∈ hz_N := hz_mN 521 (by decide +kernel) (by decide +kernel)
theorem wd_522 : Cond.methodLink RX4 184 yX4_onWait ∈ hz_T := hz_mT 522 (by decide +kernel) (by decide +kernel)
theorem wd_524 : Cond.instanceMethod yX4_onWait ∈ hz_T := hz_mT 524 (by decide +kernel) (by decide +kernel)
set_option maxRecDepth 100000 in
theorem wd_525 : Cond.code yX4_onWait cX4_onWait 1 none ∈ hz_T := hz_mT 525 rfl (by decide +kernel)
theorem wd_526 : Cond.methodLink RX4 187 yX4_onFlush ∈ hz_T := hz_mT 526 (by decide +kernel) (by decide +kernel)
theorem wd_528 : Cond.instanceMethod yX4_onFlush ∈ hz_T := hz_mT 528 (by decide +kernel) (by decide +kernel)
set_option maxRecDepth 100000 in
theorem wd_529 : Cond.code yX4_onFlush cX4_onFlush 3 none ∈ hz_T := hz_mT 529 rfl (by decide +kernel)
theorem wd_530 : Cond.methodLink RX4 190 yX4_onFlushed ∈ hz_T := hz_mT 530 (by decide +kernel) (by decide +kernel)
theorem wd_532 : Cond.instanceMethod yX4_onFlushed ∈ hz_T := hz_mT 532 (by decide +kernel) (by decide +kernel)
set_option maxRecDepth 100000 in
theorem wd_533 : Cond.code yX4_onFlushed cX4_onFlushed 3 none ∈ hz_T := hz_mT 533 rfl (by decide +kernel)
theorem wd_534 : Cond.methodLink RX4 229 yX0_weigh ∈ hz_T := hz_mT 534 (by decide +kernel) (by decide +kernel)
theorem wd_535 : Cond.instanceMethod yX0_weigh ∈ hz_T := hz_mT 535 (by decide +kernel) (by decide +kernel)
theorem wd_536 : Cond.selects RX0 yX0_weigh yX0_weigh ∈ hz_T := hz_mT 536 (by decide +kernel) (by decide +kernel)
set_option maxRecDepth 100000 in
theorem wd_537 : Cond.code yX0_weigh cX0_weigh 4 none ∈ hz_T := hz_mT 537 rfl (by decide +kernel)
theorem wd_538 : Cond.methodLink RX0 35 yX0_isBetter ∈ hz_T := hz_mT 538 (by decide +kernel) (by decide +kernel)
theorem wd_540 : Cond.instanceMethod yX0_isBetter ∈ hz_T := hz_mT 540 (by decide +kernel) (by decide +kernel)
set_option maxRecDepth 100000 in
theorem wd_541 : Cond.code yX0_isBetter cX0_isBetter 4 (some .boolean) ∈ hz_T := hz_mT 541 rfl (by decide +kernel)
theorem wd_542 : Cond.methodLink RX4 233 yX0_answered ∈ hz_T := hz_mT 542 (by decide +kernel) (by decide +kernel)
theorem wd_543 : Cond.instanceMethod yX0_answered ∈ hz_T := hz_mT 543 (by decide +kernel) (by decide +kernel)
theorem wd_544 : Cond.selects RX0 yX0_answered yX0_answered ∈ hz_T := hz_mT 544 (by decide +kernel) (by decide +kernel)
set_option maxRecDepth 100000 in
theorem wd_545 : Cond.code yX0_answered cX0_answered 2 none ∈ hz_T := hz_mT 545 rfl (by decide +kernel)
theorem wd_546 : Cond.methodLink RX4 193 yX4_onSync ∈ hz_T := hz_mT 546 (by decide +kernel) (by decide +kernel)
theorem wd_548 : Cond.instanceMethod yX4_onSync ∈ hz_T := hz_mT 548 (by decide +kernel) (by decide +kernel)
set_option maxRecDepth 100000 in
theorem wd_549 : Cond.code yX4_onSync cX4_onSync 3 none ∈ hz_T := hz_mT 549 rfl (by decide +kernel)
theorem wd_550 : Cond.methodLink RX4 236 yX6_become ∈ hz_T := hz_mT 550 (by decide +kernel) (by decide +kernel)
theorem wd_551 : Cond.instanceMethod yX6_become ∈ hz_T := hz_mT 551 (by decide +kernel) (by decide +kernel)
theorem wd_552 : Cond.selects RX6 yX6_become yX6_become ∈ hz_T := hz_mT 552 (by decide +kernel) (by decide +kernel)
set_option maxRecDepth 100000 in
theorem wd_553 : Cond.code yX6_become cX6_become 2 none ∈ hz_T := hz_mT 553 rfl (by decide +kernel)
theorem wd_554 : Cond.methodLink RX6 29 yJ9_min_7cf53 ∈ hz_T := hz_mT 554 (by decide +kernel) (by decide +kernel)
theorem wd_555 : Cond.methodLink RX6 35 ⟨"java/lang/System", "arraycopy", "(Ljava/lang/Object;ILjava/lang/Object;II)V"⟩ ∈ hz_T := hz_mT 555 (by decide +kernel) (by decide +kernel)
theorem wd_556 : Cond.methodLink RX4 196 yX4_onSynced ∈ hz_T := hz_mT 556 (by decide +kernel) (by decide +kernel)
theorem wd_558 : Cond.instanceMethod yX4_onSynced ∈ hz_T := hz_mT 558 (by decide +kernel) (by decide +kernel)
set_option maxRecDepth 100000 in
theorem wd_559 : Cond.code yX4_onSynced cX4_onSynced 3 none ∈ hz_T := hz_mT 559 rfl (by decide +kernel)
theorem wd_560 : Cond.methodLink RX4 199 yX4_onBegin ∈ hz_T := hz_mT 560 (by decide +kernel) (by decide +kernel)
theorem wd_562 : Cond.instanceMethod yX4_onBegin ∈ hz_T := hz_mT 562 (by decide +kernel) (by decide +kernel)
set_option maxRecDepth 100000 in
theorem wd_563 : Cond.code yX4_onBegin cX4_onBegin 2 none ∈ hz_T := hz_mT 563 rfl (by decide +kernel)
theorem wd_564 : Cond.methodLink RX4 240 yX4_begin ∈ hz_T := hz_mT 564 (by decide +kernel) (by decide +kernel)
theorem wd_566 : Cond.instanceMethod yX4_begin ∈ hz_T := hz_mT 566 (by decide +kernel) (by decide +kernel)
set_option maxRecDepth 100000 in
theorem wd_567 : Cond.code yX4_begin cX4_begin 2 none ∈ hz_T := hz_mT 567 rfl (by decide +kernel)
theorem wd_568 : Cond.methodLink RX4 255 yJ7_fill_53178 ∈ hz_T := hz_mT 568 (by decide +kernel) (by decide +kernel)
theorem wd_569 : Cond.static yJ7_fill_53178 ∈ hz_T := hz_mT 569 (by decide +kernel) (by decide +kernel)
set_option maxRecDepth 100000 in
theorem wd_570 : Cond.code yJ7_fill_53178 cJ7_fill_53178 4 none ∈ hz_T := hz_mT 570 rfl (by decide +kernel)
theorem wd_571 : Cond.methodLink RX8 71 yX4_goOn ∈ hz_T := hz_mT 571 (by decide +kernel) (by decide +kernel)
theorem wd_572 : Cond.instanceMethod yX4_goOn ∈ hz_T := hz_mT 572 (by decide +kernel) (by decide +kernel)
theorem wd_573 : Cond.selects RX4 yX4_goOn yX4_goOn ∈ hz_T := hz_mT 573 (by decide +kernel) (by decide +kernel)
set_option maxRecDepth 100000 in
theorem wd_574 : Cond.code yX4_goOn cX4_goOn 1 none ∈ hz_T := hz_mT 574 rfl (by decide +kernel)
theorem wd_575 : Cond.methodLink RX4 246 yX4_giveBest ∈ hz_T := hz_mT 575 (by decide +kernel) (by decide +kernel)
theorem wd_577 : Cond.instanceMethod yX4_giveBest ∈ hz_T := hz_mT 577 (by decide +kernel) (by decide +kernel)
set_option maxRecDepth 100000 in
theorem wd_578 : Cond.code yX4_giveBest cX4_giveBest 1 none ∈ hz_T := hz_mT 578 rfl (by decide +kernel)
theorem wd_579 : Cond.methodLink RX4 249 yX4_beginAnew ∈ hz_T := hz_mT 579 (by decide +kernel) (by decide +kernel)
theorem wd_581 : Cond.instanceMethod yX4_beginAnew ∈ hz_T := hz_mT 581 (by decide +kernel) (by decide +kernel)
set_option maxRecDepth 100000 in
theorem wd_582 : Cond.code yX4_beginAnew cX4_beginAnew 1 none ∈ hz_T := hz_mT 582 rfl (by decide +kernel)
theorem wd_584 : Cond.instanceMethod yX8_suspect ∈ hz_T := hz_mT 584 (by decide +kernel) (by decide +kernel)
theorem wd_585 : Cond.selects RX8 yX8_suspect yX8_suspect ∈ hz_T := hz_mT 585 (by decide +kernel) (by decide +kernel)
set_option maxRecDepth 100000 in
theorem wd_586 : Cond.code yX8_suspect cX8_suspect 4 (some .int) ∈ hz_T := hz_mT 586 rfl (by decide +kernel)
theorem wd_587 : Cond.methodLink RX8 77 yX8_has ∈ hz_T := hz_mT 587 (by decide +kernel) (by decide +kernel)
theorem wd_588 : Cond.methodLink RX8 81 yX4_turnAgainst ∈ hz_T := hz_mT 588 (by decide +kernel) (by decide +kernel)
theorem wd_589 : Cond.instanceMethod yX4_turnAgainst ∈ hz_T := hz_mT 589 (by decide +kernel) (by decide +kernel)
theorem wd_590 : Cond.selects RX4 yX4_turnAgainst yX4_turnAgainst ∈ hz_T := hz_mT 590 (by decide +kernel) (by decide +kernel)
set_option maxRecDepth 100000 in
theorem wd_591 : Cond.code yX4_turnAgainst cX4_turnAgainst 3 none ∈ hz_T := hz_mT 591 rfl (by decide +kernel)
theorem wd_592 : Cond.methodLink RX4 89 yX4_isChanging ∈ hz_T := hz_mT 592 (by decide +kernel) (by decide +kernel)
theorem wd_594 : Cond.instanceMethod yX4_isChanging ∈ hz_T := hz_mT 594 (by decide +kernel) (by decide +kernel)
set_option maxRecDepth 100000 in
theorem wd_595 : Cond.code yX4_isChanging cX4_isChanging 1 (some .boolean) ∈ hz_T := hz_mT 595 rfl (by decide +kernel)
theorem wd_597 : Cond.instanceMethod yX8_crash ∈ hz_T := hz_mT 597 (by decide +kernel) (by decide +kernel)
theorem wd_598 : Cond.selects RX8 yX8_crash yX8_crash ∈ hz_T := hz_mT 598 (by decide +kernel) (by decide +kernel)
set_option maxRecDepth 100000 in
theorem wd_599 : Cond.code yX8_crash cX8_crash 3 (some .boolean) ∈ hz_T := hz_mT 599 rfl (by decide +kernel)
theorem wd_601 : Cond.instanceMethod yX8_timeout ∈ hz_T := hz_mT 601 (by decide +kernel) (by decide +kernel)
theorem wd_602 : Cond.selects RX8 yX8_timeout yX8_timeout ∈ hz_T := hz_mT 602 (by decide +kernel) (by decide +kernel)
set_option maxRecDepth 100000 in
theorem wd_603 : Cond.code yX8_timeout cX8_timeout 3 (some .int) ∈ hz_T := hz_mT 603 rfl (by decide +kernel)
theorem wd_604 : Cond.methodLink RX8 91 yX4_losePatience ∈ hz_T := hz_mT 604 (by decide +kernel) (by decide +kernel)
theorem wd_605 : Cond.instanceMethod yX4_losePatience ∈ hz_T := hz_mT 605 (by decide +kernel) (by decide +kernel)
theorem wd_606 : Cond.selects RX4 yX4_losePatience yX4_losePatience ∈ hz_T := hz_mT 606 (by decide +kernel) (by decide +kernel)
set_option maxRecDepth 100000 in
theorem wd_607 : Cond.code yX4_losePatience cX4_losePatience 1 none ∈ hz_T := hz_mT 607 rfl (by decide +kernel)
theorem wd_609 : Cond.instanceMethod yX8_node ∈ hz_T := hz_mT 609 (by decide +kernel) (by decide +kernel)
theorem wd_610 : Cond.selects RX8 yX8_node yX8_node ∈ hz_T := hz_mT 610 (by decide +kernel) (by decide +kernel)
set_option maxRecDepth 100000 in
theorem wd_611 : Cond.code yX8_node cX8_node 4 (some .int) ∈ hz_T := hz_mT 611 rfl (by decide +kernel)
theorem wd_612 : Cond.methodLink RX8 94 yX4_tell ∈ hz_T := hz_mT 612 (by decide +kernel) (by decide +kernel)
theorem wd_613 : Cond.instanceMethod yX4_tell ∈ hz_T := hz_mT 613 (by decide +kernel) (by decide +kernel)
theorem wd_614 : Cond.selects RX4 yX4_tell yX4_tell ∈ hz_T := hz_mT 614 (by decide +kernel) (by decide +kernel)
set_option maxRecDepth 100000 in
theorem wd_615 : Cond.code yX4_tell cX4_tell 2 (some .int) ∈ hz_T := hz_mT 615 rfl (by decide +kernel)
theorem wd_617 : Cond.instanceMethod yX8_held ∈ hz_T := hz_mT 617 (by decide +kernel) (by decide +kernel)
theorem wd_618 : Cond.selects RX8 yX8_held yX8_held ∈ hz_T := hz_mT 618 (by decide +kernel) (by decide +kernel)
set_option maxRecDepth 100000 in
theorem wd_619 : Cond.code yX8_held cX8_held 4 (some .int) ∈ hz_T := hz_mT 619 rfl (by decide +kernel)
theorem wd_620 : Cond.constant RX8 106 (-100001) ∈ hz_T := hz_mT 620 (by decide +kernel) (by decide +kernel)
theorem wd_622 : Cond.instanceMethod yX8_depth ∈ hz_T := hz_mT 622 (by decide +kernel) (by decide +kernel)
theorem wd_623 : Cond.selects RX8 yX8_depth yX8_depth ∈ hz_T := hz_mT 623 (by decide +kernel) (by decide +kernel)
set_option maxRecDepth 100000 in
theorem wd_624 : Cond.code yX8_depth cX8_depth 3 (some .int) ∈ hz_T := hz_mT 624 rfl (by decide +kernel)
theorem wd_626 : Cond.instanceMethod yX8_top ∈ hz_T := hz_mT 626 (by decide +kernel) (by decide +kernel)
theorem wd_627 : Cond.selects RX8 yX8_top yX8_top ∈ hz_T := hz_mT 627 (by decide +kernel) (by decide +kernel)
set_option maxRecDepth 100000 in
theorem wd_628 : Cond.code yX8_top cX8_top 4 (some .int) ∈ hz_T := hz_mT 628 rfl (by decide +kernel)
theorem wd_629 : Cond.methodLink RX8 118 yX3_fromTop ∈ hz_T := hz_mT 629 (by decide +kernel) (by decide +kernel)
theorem wd_630 : Cond.instanceMethod yX3_fromTop ∈ hz_T := hz_mT 630 (by decide +kernel) (by decide +kernel)
theorem wd_631 : Cond.selects RX3 yX3_fromTop yX3_fromTop ∈ hz_T := hz_mT 631 (by decide +kernel) (by decide +kernel)
set_option maxRecDepth 100000 in
theorem wd_632 : Cond.code yX3_fromTop cX3_fromTop 2 (some .int) ∈ hz_T := hz_mT 632 rfl (by decide +kernel)
theorem wd_634 : Cond.instanceMethod yX8_flying ∈ hz_T := hz_mT 634 (by decide +kernel) (by decide +kernel)
theorem wd_635 : Cond.selects RX8 yX8_flying yX8_flying ∈ hz_T := hz_mT 635 (by decide +kernel) (by decide +kernel)
set_option maxRecDepth 100000 in
theorem wd_636 : Cond.code yX8_flying cX8_flying 4 (some .int) ∈ hz_T := hz_mT 636 rfl (by decide +kernel)
theorem wd_638 : Cond.instanceMethod yX8_letter ∈ hz_T := hz_mT 638 (by decide +kernel) (by decide +kernel)
theorem wd_639 : Cond.selects RX8 yX8_letter yX8_letter ∈ hz_T := hz_mT 639 (by decide +kernel) (by decide +kernel)
set_option maxRecDepth 100000 in
theorem wd_640 : Cond.code yX8_letter cX8_letter 5 (some .int) ∈ hz_T := hz_mT 640 rfl (by decide +kernel)
theorem wd_641 : Cond.methodLink RX8 131 yX2_tell ∈ hz_T := hz_mT 641 (by decide +kernel) (by decide +kernel)
theorem wd_642 : Cond.instanceMethod yX2_tell ∈ hz_T := hz_mT 642 (by decide +kernel) (by decide +kernel)
theorem wd_643 : Cond.selects RX2 yX2_tell yX2_tell ∈ hz_T := hz_mT 643 (by decide +kernel) (by decide +kernel)
set_option maxRecDepth 100000 in
theorem wd_644 : Cond.code yX2_tell cX2_tell 2 (some .int) ∈ hz_T := hz_mT 644 rfl (by decide +kernel)
theorem wd_646 : Cond.instanceMethod yX8_count ∈ hz_T := hz_mT 646 (by decide +kernel) (by decide +kernel)
theorem wd_647 : Cond.selects RX8 yX8_count yX8_count ∈ hz_T := hz_mT 647 (by decide +kernel) (by decide +kernel)
set_option maxRecDepth 100000 in
theorem wd_648 : Cond.code yX8_count cX8_count 2 (some .int) ∈ hz_T := hz_mT 648 rfl (by decide +kernel)
theorem wd_649 : Cond.methodLink RX8 132 yX7_tell ∈ hz_T := hz_mT 649 (by decide +kernel) (by decide +kernel)
theorem wd_650 : Cond.instanceMethod yX7_tell ∈ hz_T := hz_mT 650 (by decide +kernel) (by decide +kernel)
theorem wd_651 : Cond.selects RX7 yX7_tell yX7_tell ∈ hz_T := hz_mT 651 (by decide +kernel) (by decide +kernel)
set_option maxRecDepth 100000 in
theorem wd_652 : Cond.code yX7_tell cX7_tell 2 (some .int) ∈ hz_T := hz_mT 652 rfl (by decide +kernel)
set_option maxRecDepth 100000 in
theorem wd_660 : Cond.code yX9_init cX9_init 3 none ∈ hz_T := hz_mT 660 rfl (by decide +kernel)
theorem wd_661 : Cond.methodLink RX9 1 Lib.objectInit ∈ hz_T := hz_mT 661 (by decide +kernel) (by decide +kernel)
theorem wd_662 : Cond.fieldLink RX9 95 "GroupCastModel" "n" "I" ∈ hz_T := hz_mT 662 (by decide +kernel) (by decide +kernel)
theorem wd_663 : Cond.fieldLink RX9 7 "GroupCastModel" "state" "[I" ∈ hz_T := hz_mT 663 (by decide +kernel) (by decide +kernel)
theorem wd_664 : Cond.fieldLink RX9 13 "GroupCastModel" "view" "[I" ∈ hz_T := hz_mT 664 (by decide +kernel) (by decide +kernel)
theorem wd_665 : Cond.fieldLink RX9 16 "GroupCastModel" "members" "[I" ∈ hz_T := hz_mT 665 (by decide +kernel) (by decide +kernel)
theorem wd_666 : Cond.fieldLink RX9 19 "GroupCastModel" "acts" "[I" ∈ hz_T := hz_mT 666 (by decide +kernel) (by decide +kernel)
theorem wd_667 : Cond.fieldLink RX9 22 "GroupCastModel" "holds" "[I" ∈ hz_T := hz_mT 667 (by decide +kernel) (by decide +kernel)
theorem wd_668 : Cond.fieldLink RX9 25 "GroupCastModel" "carried" "[I" ∈ hz_T := hz_mT 668 (by decide +kernel) (by decide +kernel)
theorem wd_669 : Cond.fieldLink RX9 28 "GroupCastModel" "stamp" "[I" ∈ hz_T := hz_mT 669 (by decide +kernel) (by decide +kernel)
theorem wd_670 : Cond.fieldLink RX9 31 "GroupCastModel" "promise" "[I" ∈ hz_T := hz_mT 670 (by decide +kernel) (by decide +kernel)
theorem wd_671 : Cond.fieldLink RX9 34 "GroupCastModel" "suspects" "[I" ∈ hz_T := hz_mT 671 (by decide +kernel) (by decide +kernel)
theorem wd_672 : Cond.fieldLink RX9 37 "GroupCastModel" "task" "[I" ∈ hz_T := hz_mT 672 (by decide +kernel) (by decide +kernel)
theorem wd_673 : Cond.fieldLink RX9 40 "GroupCastModel" "toBe" "[I" ∈ hz_T := hz_mT 673 (by decide +kernel) (by decide +kernel)
theorem wd_674 : Cond.fieldLink RX9 43 "GroupCastModel" "asker" "[I" ∈ hz_T := hz_mT 674 (by decide +kernel) (by decide +kernel)
theorem wd_675 : Cond.fieldLink RX9 46 "GroupCastModel" "has" "[I" ∈ hz_T := hz_mT 675 (by decide +kernel) (by decide +kernel)
theorem wd_676 : Cond.fieldLink RX9 49 "GroupCastModel" "got" "[I" ∈ hz_T := hz_mT 676 (by decide +kernel) (by decide +kernel)
theorem wd_677 : Cond.fieldLink RX9 52 "GroupCastModel" "gotStamp" "[I" ∈ hz_T := hz_mT 677 (by decide +kernel) (by decide +kernel)
theorem wd_678 : Cond.fieldLink RX9 55 "GroupCastModel" "gotSize" "[I" ∈ hz_T := hz_mT 678 (by decide +kernel) (by decide +kernel)
theorem wd_679 : Cond.fieldLink RX9 58 "GroupCastModel" "gotActs" "[I" ∈ hz_T := hz_mT 679 (by decide +kernel) (by decide +kernel)
theorem wd_680 : Cond.fieldLink RX9 61 "GroupCastModel" "stack" "[I" ∈ hz_T := hz_mT 680 (by decide +kernel) (by decide +kernel)
theorem wd_681 : Cond.fieldLink RX9 64 "GroupCastModel" "depth" "[I" ∈ hz_T := hz_mT 681 (by decide +kernel) (by decide +kernel)
theorem wd_682 : Cond.fieldLink RX9 67 "GroupCastModel" "flies" "[Z" ∈ hz_T := hz_mT 682 (by decide +kernel) (by decide +kernel)
theorem wd_683 : Cond.fieldLink RX9 71 "GroupCastModel" "from" "[I" ∈ hz_T := hz_mT 683 (by decide +kernel) (by decide +kernel)
theorem wd_684 : Cond.fieldLink RX9 74 "GroupCastModel" "to" "[I" ∈ hz_T := hz_mT 684 (by decide +kernel) (by decide +kernel)
theorem wd_685 : Cond.fieldLink RX9 77 "GroupCastModel" "kind" "[I" ∈ hz_T := hz_mT 685 (by decide +kernel) (by decide +kernel)
theorem wd_686 : Cond.fieldLink RX9 80 "GroupCastModel" "number" "[I" ∈ hz_T := hz_mT 686 (by decide +kernel) (by decide +kernel)
theorem wd_687 : Cond.fieldLink RX9 83 "GroupCastModel" "told" "[I" ∈ hz_T := hz_mT 687 (by decide +kernel) (by decide +kernel)
theorem wd_688 : Cond.fieldLink RX9 86 "GroupCastModel" "size" "[I" ∈ hz_T := hz_mT 688 (by decide +kernel) (by decide +kernel)
theorem wd_689 : Cond.fieldLink RX9 89 "GroupCastModel" "row" "[I" ∈ hz_T := hz_mT 689 (by decide +kernel) (by decide +kernel)
theorem wd_690 : Cond.fieldLink RX9 92 "GroupCastModel" "order" "[I" ∈ hz_T := hz_mT 690 (by decide +kernel) (by decide +kernel)
theorem wd_691 : Cond.fieldLink RX9 105 "GroupCastModel" "flying" "I" ∈ hz_T := hz_mT 691 (by decide +kernel) (by decide +kernel)
theorem wd_692 : Cond.fieldLink RX9 102 "GroupCastModel" "sent" "I" ∈ hz_T := hz_mT 692 (by decide +kernel) (by decide +kernel)
theorem wd_693 : Cond.fieldLink RX9 108 "GroupCastModel" "lost" "I" ∈ hz_T := hz_mT 693 (by decide +kernel) (by decide +kernel)
theorem wd_694 : Cond.fieldLink RX9 115 "GroupCastModel" "done" "I" ∈ hz_T := hz_mT 694 (by decide +kernel) (by decide +kernel)
theorem wd_695 : Cond.fieldLink RX9 171 "GroupCastModel" "begins" "I" ∈ hz_T := hz_mT 695 (by decide +kernel) (by decide +kernel)
theorem wd_696 : Cond.fieldLink RX9 158 "GroupCastModel" "flushes" "I" ∈ hz_T := hz_mT 696 (by decide +kernel) (by decide +kernel)
theorem wd_770 : Cond.instanceMethod yX9_submit ∈ hz_T := hz_mT 770 (by decide +kernel) (by decide +kernel)
theorem wd_771 : Cond.selects RX9 yX9_submit yX9_submit ∈ hz_T := hz_mT 771 (by decide +kernel) (by decide +kernel)
set_option maxRecDepth 100000 in
theorem wd_772 : Cond.code yX9_submit cX9_submit 4 (some .int) ∈ hz_T := hz_mT 772 rfl (by decide +kernel)
theorem wd_773 : Cond.methodLink RX9 135 yX9_isNode ∈ hz_T := hz_mT 773 (by decide +kernel) (by decide +kernel)
theorem wd_775 : Cond.instanceMethod yX9_isNode ∈ hz_T := hz_mT 775 (by decide +kernel) (by decide +kernel)
set_option maxRecDepth 100000 in
theorem wd_776 : Cond.code yX9_isNode cX9_isNode 2 (some .boolean) ∈ hz_T := hz_mT 776 rfl (by decide +kernel)
theorem wd_777 : Cond.methodLink RX9 139 yX9_isAct ∈ hz_T := hz_mT 777 (by decide +kernel) (by decide +kernel)
theorem wd_778 : Cond.static yX9_isAct ∈ hz_T := hz_mT 778 (by decide +kernel) (by decide +kernel)
set_option maxRecDepth 100000 in
theorem wd_779 : Cond.code yX9_isAct cX9_isAct 3 (some .boolean) ∈ hz_T := hz_mT 779 rfl (by decide +kernel)
theorem wd_780 : Cond.methodLink RX9 142 yX9_isBlocked ∈ hz_T := hz_mT 780 (by decide +kernel) (by decide +kernel)
theorem wd_782 : Cond.instanceMethod yX9_isBlocked ∈ hz_T := hz_mT 782 (by decide +kernel) (by decide +kernel)
set_option maxRecDepth 100000 in
theorem wd_783 : Cond.code yX9_isBlocked cX9_isBlocked 2 (some .boolean) ∈ hz_T := hz_mT 783 rfl (by decide +kernel)
theorem wd_784 : Cond.methodLink RX9 145 yX9_leader ∈ hz_T := hz_mT 784 (by decide +kernel) (by decide +kernel)
theorem wd_786 : Cond.instanceMethod yX9_leader ∈ hz_T := hz_mT 786 (by decide +kernel) (by decide +kernel)
set_option maxRecDepth 100000 in
theorem wd_787 : Cond.code yX9_leader cX9_leader 3 (some .int) ∈ hz_T := hz_mT 787 rfl (by decide +kernel)
theorem wd_788 : Cond.methodLink RX9 99 yX9_has ∈ hz_T := hz_mT 788 (by decide +kernel) (by decide +kernel)
theorem wd_789 : Cond.static yX9_has ∈ hz_T := hz_mT 789 (by decide +kernel) (by decide +kernel)
set_option maxRecDepth 100000 in
theorem wd_790 : Cond.code yX9_has cX9_has 2 (some .boolean) ∈ hz_T := hz_mT 790 rfl (by decide +kernel)
theorem wd_791 : Cond.methodLink RX9 111 yX9_send ∈ hz_T := hz_mT 791 (by decide +kernel) (by decide +kernel)
theorem wd_793 : Cond.instanceMethod yX9_send ∈ hz_T := hz_mT 793 (by decide +kernel) (by decide +kernel)
set_option maxRecDepth 100000 in
theorem wd_794 : Cond.code yX9_send cX9_send 10 none ∈ hz_T := hz_mT 794 rfl (by decide +kernel)
theorem wd_795 : Cond.methodLink RX9 149 yX9_add ∈ hz_T := hz_mT 795 (by decide +kernel) (by decide +kernel)
theorem wd_797 : Cond.instanceMethod yX9_add ∈ hz_T := hz_mT 797 (by decide +kernel) (by decide +kernel)
set_option maxRecDepth 100000 in
theorem wd_798 : Cond.code yX9_add cX9_add 4 none ∈ hz_T := hz_mT 798 rfl (by decide +kernel)
theorem wd_799 : Cond.methodLink RX9 126 yX9_sendAll ∈ hz_T := hz_mT 799 (by decide +kernel) (by decide +kernel)
theorem wd_801 : Cond.instanceMethod yX9_sendAll ∈ hz_T := hz_mT 801 (by decide +kernel) (by decide +kernel)
set_option maxRecDepth 100000 in
theorem wd_802 : Cond.code yX9_sendAll cX9_sendAll 9 none ∈ hz_T := hz_mT 802 rfl (by decide +kernel)
theorem wd_803 : Cond.methodLink RX9 129 yX9_look ∈ hz_T := hz_mT 803 (by decide +kernel) (by decide +kernel)
theorem wd_805 : Cond.instanceMethod yX9_look ∈ hz_T := hz_mT 805 (by decide +kernel) (by decide +kernel)
set_option maxRecDepth 100000 in
theorem wd_806 : Cond.code yX9_look cX9_look 6 none ∈ hz_T := hz_mT 806 rfl (by decide +kernel)
theorem wd_807 : Cond.methodLink RX9 132 yX9_carryTo ∈ hz_T := hz_mT 807 (by decide +kernel) (by decide +kernel)
theorem wd_809 : Cond.instanceMethod yX9_carryTo ∈ hz_T := hz_mT 809 (by decide +kernel) (by decide +kernel)
set_option maxRecDepth 100000 in
theorem wd_810 : Cond.code yX9_carryTo cX9_carryTo 3 none ∈ hz_T := hz_mT 810 rfl (by decide +kernel)
theorem wd_811 : Cond.methodLink RX9 122 yX9_carry ∈ hz_T := hz_mT 811 (by decide +kernel) (by decide +kernel)
theorem wd_813 : Cond.instanceMethod yX9_carry ∈ hz_T := hz_mT 813 (by decide +kernel) (by decide +kernel)
set_option maxRecDepth 100000 in
theorem wd_814 : Cond.code yX9_carry cX9_carry 6 none ∈ hz_T := hz_mT 814 rfl (by decide +kernel)
theorem wd_815 : Cond.methodLink RX9 118 yX9_push ∈ hz_T := hz_mT 815 (by decide +kernel) (by decide +kernel)
theorem wd_817 : Cond.instanceMethod yX9_push ∈ hz_T := hz_mT 817 (by decide +kernel) (by decide +kernel)
set_option maxRecDepth 100000 in
theorem wd_818 : Cond.code yX9_push cX9_push 3 none ∈ hz_T := hz_mT 818 rfl (by decide +kernel)
theorem wd_820 : Cond.instanceMethod yX9_deliver ∈ hz_T := hz_mT 820 (by decide +kernel) (by decide +kernel)
theorem wd_821 : Cond.selects RX9 yX9_deliver yX9_deliver ∈ hz_T := hz_mT 821 (by decide +kernel) (by decide +kernel)
set_option maxRecDepth 100000 in
theorem wd_822 : Cond.code yX9_deliver cX9_deliver 5 (some .int) ∈ hz_T := hz_mT 822 rfl (by decide +kernel)
theorem wd_823 : Cond.methodLink RX9 180 yX9_oldest ∈ hz_T := hz_mT 823 (by decide +kernel) (by decide +kernel)
theorem wd_825 : Cond.instanceMethod yX9_oldest ∈ hz_T := hz_mT 825 (by decide +kernel) (by decide +kernel)
set_option maxRecDepth 100000 in
theorem wd_826 : Cond.code yX9_oldest cX9_oldest 5 (some .int) ∈ hz_T := hz_mT 826 rfl (by decide +kernel)
theorem wd_827 : Cond.methodLink RX9 184 yX9_keepLetter ∈ hz_T := hz_mT 827 (by decide +kernel) (by decide +kernel)
theorem wd_829 : Cond.instanceMethod yX9_keepLetter ∈ hz_T := hz_mT 829 (by decide +kernel) (by decide +kernel)
set_option maxRecDepth 100000 in
theorem wd_830 : Cond.code yX9_keepLetter cX9_keepLetter 3 none ∈ hz_T := hz_mT 830 rfl (by decide +kernel)
theorem wd_831 : Cond.methodLink RX9 187 yX9_come ∈ hz_T := hz_mT 831 (by decide +kernel) (by decide +kernel)
theorem wd_833 : Cond.instanceMethod yX9_come ∈ hz_T := hz_mT 833 (by decide +kernel) (by decide +kernel)
set_option maxRecDepth 100000 in
theorem wd_834 : Cond.code yX9_come cX9_come 4 none ∈ hz_T := hz_mT 834 rfl (by decide +kernel)
theorem wd_835 : Cond.methodLink RX9 174 yX9_ask ∈ hz_T := hz_mT 835 (by decide +kernel) (by decide +kernel)
theorem wd_837 : Cond.instanceMethod yX9_ask ∈ hz_T := hz_mT 837 (by decide +kernel) (by decide +kernel)
set_option maxRecDepth 100000 in
theorem wd_838 : Cond.code yX9_ask cX9_ask 3 none ∈ hz_T := hz_mT 838 rfl (by decide +kernel)
theorem wd_839 : Cond.methodLink RX9 152 yX9_flush ∈ hz_T := hz_mT 839 (by decide +kernel) (by decide +kernel)
theorem wd_841 : Cond.instanceMethod yX9_flush ∈ hz_T := hz_mT 841 (by decide +kernel) (by decide +kernel)
set_option maxRecDepth 100000 in
theorem wd_842 : Cond.code yX9_flush cX9_flush 4 none ∈ hz_T := hz_mT 842 rfl (by decide +kernel)
theorem wd_843 : Cond.methodLink RX9 155 yX9_many ∈ hz_T := hz_mT 843 (by decide +kernel) (by decide +kernel)
theorem wd_845 : Cond.instanceMethod yX9_many ∈ hz_T := hz_mT 845 (by decide +kernel) (by decide +kernel)
set_option maxRecDepth 100000 in
theorem wd_846 : Cond.code yX9_many cX9_many 4 (some .int) ∈ hz_T := hz_mT 846 rfl (by decide +kernel)
theorem wd_847 : Cond.methodLink RX9 161 yX9_choose ∈ hz_T := hz_mT 847 (by decide +kernel) (by decide +kernel)
theorem wd_849 : Cond.instanceMethod yX9_choose ∈ hz_T := hz_mT 849 (by decide +kernel) (by decide +kernel)
set_option maxRecDepth 100000 in
theorem wd_850 : Cond.code yX9_choose cX9_choose 6 none ∈ hz_T := hz_mT 850 rfl (by decide +kernel)
theorem wd_851 : Cond.methodLink RX9 164 yX9_found ∈ hz_T := hz_mT 851 (by decide +kernel) (by decide +kernel)
theorem wd_853 : Cond.instanceMethod yX9_found ∈ hz_T := hz_mT 853 (by decide +kernel) (by decide +kernel)
set_option maxRecDepth 100000 in
theorem wd_854 : Cond.code yX9_found cX9_found 4 none ∈ hz_T := hz_mT 854 rfl (by decide +kernel)
theorem wd_855 : Cond.methodLink RX9 167 yX9_begin ∈ hz_T := hz_mT 855 (by decide +kernel) (by decide +kernel)
theorem wd_857 : Cond.instanceMethod yX9_begin ∈ hz_T := hz_mT 857 (by decide +kernel) (by decide +kernel)
set_option maxRecDepth 100000 in
theorem wd_858 : Cond.code yX9_begin cX9_begin 5 none ∈ hz_T := hz_mT 858 rfl (by decide +kernel)
theorem wd_859 : Cond.methodLink RX9 177 yX9_comeOfView ∈ hz_T := hz_mT 859 (by decide +kernel) (by decide +kernel)
theorem wd_861 : Cond.instanceMethod yX9_comeOfView ∈ hz_T := hz_mT 861 (by decide +kernel) (by decide +kernel)
set_option maxRecDepth 100000 in
theorem wd_862 : Cond.code yX9_comeOfView cX9_comeOfView 5 none ∈ hz_T := hz_mT 862 rfl (by decide +kernel)
theorem wd_864 : Cond.instanceMethod yX9_suspect ∈ hz_T := hz_mT 864 (by decide +kernel) (by decide +kernel)
theorem wd_865 : Cond.selects RX9 yX9_suspect yX9_suspect ∈ hz_T := hz_mT 865 (by decide +kernel) (by decide +kernel)
set_option maxRecDepth 100000 in
theorem wd_866 : Cond.code yX9_suspect cX9_suspect 3 (some .int) ∈ hz_T := hz_mT 866 rfl (by decide +kernel)
theorem wd_868 : Cond.instanceMethod yX9_crash ∈ hz_T := hz_mT 868 (by decide +kernel) (by decide +kernel)
theorem wd_869 : Cond.selects RX9 yX9_crash yX9_crash ∈ hz_T := hz_mT 869 (by decide +kernel) (by decide +kernel)
set_option maxRecDepth 100000 in
theorem wd_870 : Cond.code yX9_crash cX9_crash 2 (some .boolean) ∈ hz_T := hz_mT 870 rfl (by decide +kernel)
theorem wd_872 : Cond.instanceMethod yX9_timeout ∈ hz_T := hz_mT 872 (by decide +kernel) (by decide +kernel)
theorem wd_873 : Cond.selects RX9 yX9_timeout yX9_timeout ∈ hz_T := hz_mT 873 (by decide +kernel) (by decide +kernel)
set_option maxRecDepth 100000 in
theorem wd_874 : Cond.code yX9_timeout cX9_timeout 2 (some .int) ∈ hz_T := hz_mT 874 rfl (by decide +kernel)
theorem wd_876 : Cond.instanceMethod yX9_node ∈ hz_T := hz_mT 876 (by decide +kernel) (by decide +kernel)
theorem wd_877 : Cond.selects RX9 yX9_node yX9_node ∈ hz_T := hz_mT 877 (by decide +kernel) (by decide +kernel)
set_option maxRecDepth 100000 in
theorem wd_878 : Cond.code yX9_node cX9_node 3 (some .int) ∈ hz_T := hz_mT 878 rfl (by decide +kernel)
theorem wd_880 : Cond.instanceMethod yX9_held ∈ hz_T := hz_mT 880 (by decide +kernel) (by decide +kernel)
theorem wd_881 : Cond.selects RX9 yX9_held yX9_held ∈ hz_T := hz_mT 881 (by decide +kernel) (by decide +kernel)
set_option maxRecDepth 100000 in
theorem wd_882 : Cond.code yX9_held cX9_held 3 (some .int) ∈ hz_T := hz_mT 882 rfl (by decide +kernel)
theorem wd_883 : Cond.constant RX9 190 (-100001) ∈ hz_T := hz_mT 883 (by decide +kernel) (by decide +kernel)
theorem wd_885 : Cond.instanceMethod yX9_depth ∈ hz_T := hz_mT 885 (by decide +kernel) (by decide +kernel)
theorem wd_886 : Cond.selects RX9 yX9_depth yX9_depth ∈ hz_T := hz_mT 886 (by decide +kernel) (by decide +kernel)
set_option maxRecDepth 100000 in
theorem wd_887 : Cond.code yX9_depth cX9_depth 2 (some .int) ∈ hz_T := hz_mT 887 rfl (by decide +kernel)
theorem wd_889 : Cond.instanceMethod yX9_top ∈ hz_T := hz_mT 889 (by decide +kernel) (by decide +kernel)
theorem wd_890 : Cond.selects RX9 yX9_top yX9_top ∈ hz_T := hz_mT 890 (by decide +kernel) (by decide +kernel)
set_option maxRecDepth 100000 in
theorem wd_891 : Cond.code yX9_top cX9_top 3 (some .int) ∈ hz_T := hz_mT 891 rfl (by decide +kernel)
theorem wd_893 : Cond.instanceMethod yX9_flying ∈ hz_T := hz_mT 893 (by decide +kernel) (by decide +kernel)
theorem wd_894 : Cond.selects RX9 yX9_flying yX9_flying ∈ hz_T := hz_mT 894 (by decide +kernel) (by decide +kernel)
set_option maxRecDepth 100000 in
theorem wd_895 : Cond.code yX9_flying cX9_flying 5 (some .int) ∈ hz_T := hz_mT 895 rfl (by decide +kernel)
theorem wd_897 : Cond.instanceMethod yX9_letter ∈ hz_T := hz_mT 897 (by decide +kernel) (by decide +kernel)
theorem wd_898 : Cond.selects RX9 yX9_letter yX9_letter ∈ hz_T := hz_mT 898 (by decide +kernel) (by decide +kernel)
set_option maxRecDepth 100000 in
theorem wd_899 : Cond.code yX9_letter cX9_letter 5 (some .int) ∈ hz_T := hz_mT 899 rfl (by decide +kernel)
theorem wd_901 : Cond.instanceMethod yX9_count ∈ hz_T := hz_mT 901 (by decide +kernel) (by decide +kernel)
theorem wd_902 : Cond.selects RX9 yX9_count yX9_count ∈ hz_T := hz_mT 902 (by decide +kernel) (by decide +kernel)
set_option maxRecDepth 100000 in
theorem wd_903 : Cond.code yX9_count cX9_count 2 (some .int) ∈ hz_T := hz_mT 903 rfl (by decide +kernel)
theorem wd_az : Cond.arrayClass (hz_ty 1) ∈ hz_T := hz_mT 768 (by decide +kernel) (by decide +kernel)
end
section
theorem hy_J6_bitCount_0f7a4 : hz_Y yJ6_bitCount_0f7a4 cJ6_bitCount_0f7a4 1 (some .int) 1 := ⟨wd_389, wd_68, by decide +kernel, by decide +kernel, by decide +kernel⟩
def f_J6_bitCount_0f7a4 (a0 : Int32) (h : HP) : Option (Int32 × HP) :=
  some (((((((((a0 - ((hz_ushr a0 (1 : Int32)) &&& (1431655765 : Int32))) &&& (858993459 : Int32)) + ((hz_ushr (a0 - ((hz_ushr a0 (1 : Int32)) &&& (1431655765 : Int32))) (2 : Int32)) &&& (858993459 : Int32))) + (hz_ushr (((a0 - ((hz_ushr a0 (1 : Int32)) &&& (1431655765 : Int32))) &&& (858993459 : Int32)) + ((hz_ushr (a0 - ((hz_ushr a0 (1 : Int32)) &&& (1431655765 : Int32))) (2 : Int32)) &&& (858993459 : Int32))) (4 : Int32))) &&& (252645135 : Int32)) + (hz_ushr (((((a0 - ((hz_ushr a0 (1 : Int32)) &&& (1431655765 : Int32))) &&& (858993459 : Int32)) + ((hz_ushr (a0 - ((hz_ushr a0 (1 : Int32)) &&& (1431655765 : Int32))) (2 : Int32)) &&& (858993459 : Int32))) + (hz_ushr (((a0 - ((hz_ushr a0 (1 : Int32)) &&& (1431655765 : Int32))) &&& (858993459 : Int32)) + ((hz_ushr (a0 - ((hz_ushr a0 (1 : Int32)) &&& (1431655765 : Int32))) (2 : Int32)) &&& (858993459 : Int32))) (4 : Int32))) &&& (252645135 : Int32)) (8 : Int32))) + (hz_ushr ((((((a0 - ((hz_ushr a0 (1 : Int32)) &&& (1431655765 : Int32))) &&& (858993459 : Int32)) + ((hz_ushr (a0 - ((hz_ushr a0 (1 : Int32)) &&& (1431655765 : Int32))) (2 : Int32)) &&& (858993459 : Int32))) + (hz_ushr (((a0 - ((hz_ushr a0 (1 : Int32)) &&& (1431655765 : Int32))) &&& (858993459 : Int32)) + ((hz_ushr (a0 - ((hz_ushr a0 (1 : Int32)) &&& (1431655765 : Int32))) (2 : Int32)) &&& (858993459 : Int32))) (4 : Int32))) &&& (252645135 : Int32)) + (hz_ushr (((((a0 - ((hz_ushr a0 (1 : Int32)) &&& (1431655765 : Int32))) &&& (858993459 : Int32)) + ((hz_ushr (a0 - ((hz_ushr a0 (1 : Int32)) &&& (1431655765 : Int32))) (2 : Int32)) &&& (858993459 : Int32))) + (hz_ushr (((a0 - ((hz_ushr a0 (1 : Int32)) &&& (1431655765 : Int32))) &&& (858993459 : Int32)) + ((hz_ushr (a0 - ((hz_ushr a0 (1 : Int32)) &&& (1431655765 : Int32))) (2 : Int32)) &&& (858993459 : Int32))) (4 : Int32))) &&& (252645135 : Int32)) (8 : Int32))) (16 : Int32))) &&& (63 : Int32)), h)
abbrev rm_J6_bitCount_0f7a4 : Room := { frames := 0, cells := 0, slots := 0, locals := 0 }
set_option maxRecDepth 100000 in
set_option maxHeartbeats 4000000 in
theorem c_J6_bitCount_0f7a4 {l : Launch} (a0 : Int32) (h : HP) (v' : Int32) (h' : HP) (H : f_J6_bitCount_0f7a4 a0 h = some (v', h')) : Ct l yJ6_bitCount_0f7a4 cJ6_bitCount_0f7a4 1 (some .int) rm_J6_bitCount_0f7a4 [.int a0] (some (.int v')) h h' := by
  refine Ct.of (by decide +kernel) (hz_s1c hz_s1n rfl) (Nat.le_of_ble_eq_true rfl) (fun G hl hn C0 => ?_)
  have C : Cx G cJ6_bitCount_0f7a4 RJ6 "bitCount" (some .int) rm_J6_bitCount_0f7a4 (some (.int v')) h' := C0
  subst hl
  show aw G 0 [some (.int a0)] [] h 0 0
  unfold f_J6_bitCount_0f7a4 at H
  refine aw_iload_n C dJ6_bitCount_0f7a4_0 rfl ?_
  refine aw_iload_n C dJ6_bitCount_0f7a4_1 rfl ?_
  refine aw_iconst C dJ6_bitCount_0f7a4_2 (v := 1) (by decide) ?_
  refine aw_iushr C dJ6_bitCount_0f7a4_3 ?_
  refine aw_ldcw C wd_390 dJ6_bitCount_0f7a4_4 ?_
  refine aw_iand C dJ6_bitCount_0f7a4_7 ?_
  refine aw_isub C dJ6_bitCount_0f7a4_8 ?_
  refine aw_istore_n C dJ6_bitCount_0f7a4_9 (by rw [hn]; decide) rfl ?_
  refine aw_iload_n C dJ6_bitCount_0f7a4_10 rfl ?_
  refine aw_ldcw C wd_391 dJ6_bitCount_0f7a4_11 ?_
  refine aw_iand C dJ6_bitCount_0f7a4_14 ?_
  refine aw_iload_n C dJ6_bitCount_0f7a4_15 rfl ?_
  refine aw_iconst C dJ6_bitCount_0f7a4_16 (v := 2) (by decide) ?_
  refine aw_iushr C dJ6_bitCount_0f7a4_17 ?_
  refine aw_ldcw C wd_391 dJ6_bitCount_0f7a4_18 ?_
  refine aw_iand C dJ6_bitCount_0f7a4_21 ?_
  refine aw_iadd C dJ6_bitCount_0f7a4_22 ?_
  refine aw_istore_n C dJ6_bitCount_0f7a4_23 (by rw [hn]; decide) rfl ?_
  refine aw_iload_n C dJ6_bitCount_0f7a4_24 rfl ?_
  refine aw_iload_n C dJ6_bitCount_0f7a4_25 rfl ?_
  refine aw_iconst C dJ6_bitCount_0f7a4_26 (v := 4) (by decide) ?_
  refine aw_iushr C dJ6_bitCount_0f7a4_27 ?_
  refine aw_iadd C dJ6_bitCount_0f7a4_28 ?_
  refine aw_ldcw C wd_392 dJ6_bitCount_0f7a4_29 ?_
  refine aw_iand C dJ6_bitCount_0f7a4_32 ?_
  refine aw_istore_n C dJ6_bitCount_0f7a4_33 (by rw [hn]; decide) rfl ?_
  refine aw_iload_n C dJ6_bitCount_0f7a4_34 rfl ?_
  refine aw_iload_n C dJ6_bitCount_0f7a4_35 rfl ?_
  refine aw_bipush C dJ6_bitCount_0f7a4_36 (v := 8) (by decide) ?_
  refine aw_iushr C dJ6_bitCount_0f7a4_38 ?_
  refine aw_iadd C dJ6_bitCount_0f7a4_39 ?_
  refine aw_istore_n C dJ6_bitCount_0f7a4_40 (by rw [hn]; decide) rfl ?_
  refine aw_iload_n C dJ6_bitCount_0f7a4_41 rfl ?_
  refine aw_iload_n C dJ6_bitCount_0f7a4_42 rfl ?_
  refine aw_bipush C dJ6_bitCount_0f7a4_43 (v := 16) (by decide) ?_
  refine aw_iushr C dJ6_bitCount_0f7a4_45 ?_
  refine aw_iadd C dJ6_bitCount_0f7a4_46 ?_
  refine aw_istore_n C dJ6_bitCount_0f7a4_47 (by rw [hn]; decide) rfl ?_
  refine aw_iload_n C dJ6_bitCount_0f7a4_48 rfl ?_
  refine aw_bipush C dJ6_bitCount_0f7a4_49 (v := 63) (by decide) ?_
  refine aw_iand C dJ6_bitCount_0f7a4_51 ?_
  cases H
  exact aw_iret C (Nat.zero_le _) (Nat.zero_le _) dJ6_bitCount_0f7a4_52
theorem hy_J9_min_7cf53 : hz_Y yJ9_min_7cf53 cJ9_min_7cf53 2 (some .int) 2 := ⟨wd_399, wd_69, by decide +kernel, by decide +kernel, by decide +kernel⟩
def f_J9_min_7cf53_10 (s0 : Int32) (h : HP) : Option (Int32 × HP) :=
  some (s0, h)
def f_J9_min_7cf53 (a0 : Int32) (a1 : Int32) (h : HP) : Option (Int32 × HP) :=
  if a1 < a0 then
    f_J9_min_7cf53_10  a1 h
  else
    f_J9_min_7cf53_10  a0 h
abbrev rm_J9_min_7cf53 : Room := { frames := 0, cells := 0, slots := 0, locals := 0 }
set_option maxRecDepth 100000 in
set_option maxHeartbeats 4000000 in
theorem k_J9_min_7cf53_10 {G : GX} {v' : Int32} {h' : HP} (hn : G.2.2.2.2.2.2.2.2.2.2.2.2 = 2) (C : Cx G cJ9_min_7cf53 RJ9 "min" (some .int) rm_J9_min_7cf53 (some (.int v')) h') (s0 : Int32) (h : HP) (H : f_J9_min_7cf53_10  s0 h = some (v', h')) : aw G 10 [none, none] [.int s0] h 0 0 := by
  unfold f_J9_min_7cf53_10 at H
  cases H
  exact aw_iret C (Nat.zero_le _) (Nat.zero_le _) dJ9_min_7cf53_10
set_option maxRecDepth 100000 in
set_option maxHeartbeats 4000000 in
theorem c_J9_min_7cf53 {l : Launch} (a0 : Int32) (a1 : Int32) (h : HP) (v' : Int32) (h' : HP) (H : f_J9_min_7cf53 a0 a1 h = some (v', h')) : Ct l yJ9_min_7cf53 cJ9_min_7cf53 2 (some .int) rm_J9_min_7cf53 [.int a0, .int a1] (some (.int v')) h h' := by
  refine Ct.of (by decide +kernel) (hz_s1c (hz_s1c hz_s1n rfl) rfl) (Nat.le_of_ble_eq_true rfl) (fun G hl hn C0 => ?_)
  have C : Cx G cJ9_min_7cf53 RJ9 "min" (some .int) rm_J9_min_7cf53 (some (.int v')) h' := C0
  subst hl
  show aw G 0 [some (.int a0), some (.int a1)] [] h 0 0
  unfold f_J9_min_7cf53 at H
  refine aw_iload_n C dJ9_min_7cf53_0 rfl ?_
  refine aw_iload_n C dJ9_min_7cf53_1 rfl ?_
  refine aw_icmp_gt (tgt := 9) C dJ9_min_7cf53_2 (by decide) (fun c1 => ?_) (fun c1 => ?_)
  · replace H := hz_it c1 H
    refine aw_iload_n C dJ9_min_7cf53_9 rfl ?_
    exact aw_loc (hz_sub_n (hz_sub_n hz_sub_0)) (k_J9_min_7cf53_10 hn C  _ _ H)
  · replace H := hz_if c1 H
    refine aw_iload_n C dJ9_min_7cf53_5 rfl ?_
    refine aw_goto (tgt := 10) C dJ9_min_7cf53_6 (by decide) ?_
    exact aw_loc (hz_sub_n (hz_sub_n hz_sub_0)) (k_J9_min_7cf53_10 hn C  _ _ H)
theorem hy_J9_max_7cf53 : hz_Y yJ9_max_7cf53 cJ9_max_7cf53 2 (some .int) 2 := ⟨wd_430, wd_69, by decide +kernel, by decide +kernel, by decide +kernel⟩
def f_J9_max_7cf53_10 (s0 : Int32) (h : HP) : Option (Int32 × HP) :=
  some (s0, h)
def f_J9_max_7cf53 (a0 : Int32) (a1 : Int32) (h : HP) : Option (Int32 × HP) :=
  if a0 < a1 then
    f_J9_max_7cf53_10  a1 h
  else
    f_J9_max_7cf53_10  a0 h
abbrev rm_J9_max_7cf53 : Room := { frames := 0, cells := 0, slots := 0, locals := 0 }
set_option maxRecDepth 100000 in
set_option maxHeartbeats 4000000 in
theorem k_J9_max_7cf53_10 {G : GX} {v' : Int32} {h' : HP} (hn : G.2.2.2.2.2.2.2.2.2.2.2.2 = 2) (C : Cx G cJ9_max_7cf53 RJ9 "max" (some .int) rm_J9_max_7cf53 (some (.int v')) h') (s0 : Int32) (h : HP) (H : f_J9_max_7cf53_10  s0 h = some (v', h')) : aw G 10 [none, none] [.int s0] h 0 0 := by
  unfold f_J9_max_7cf53_10 at H
  cases H
  exact aw_iret C (Nat.zero_le _) (Nat.zero_le _) dJ9_max_7cf53_10
set_option maxRecDepth 100000 in
set_option maxHeartbeats 4000000 in
theorem c_J9_max_7cf53 {l : Launch} (a0 : Int32) (a1 : Int32) (h : HP) (v' : Int32) (h' : HP) (H : f_J9_max_7cf53 a0 a1 h = some (v', h')) : Ct l yJ9_max_7cf53 cJ9_max_7cf53 2 (some .int) rm_J9_max_7cf53 [.int a0, .int a1] (some (.int v')) h h' := by
  refine Ct.of (by decide +kernel) (hz_s1c (hz_s1c hz_s1n rfl) rfl) (Nat.le_of_ble_eq_true rfl) (fun G hl hn C0 => ?_)
  have C : Cx G cJ9_max_7cf53 RJ9 "max" (some .int) rm_J9_max_7cf53 (some (.int v')) h' := C0
  subst hl
  show aw G 0 [some (.int a0), some (.int a1)] [] h 0 0
  unfold f_J9_max_7cf53 at H
  refine aw_iload_n C dJ9_max_7cf53_0 rfl ?_
  refine aw_iload_n C dJ9_max_7cf53_1 rfl ?_
  refine aw_icmp_lt (tgt := 9) C dJ9_max_7cf53_2 (by decide) (fun c1 => ?_) (fun c1 => ?_)
  · replace H := hz_it c1 H
    refine aw_iload_n C dJ9_max_7cf53_9 rfl ?_
    exact aw_loc (hz_sub_n (hz_sub_n hz_sub_0)) (k_J9_max_7cf53_10 hn C  _ _ H)
  · replace H := hz_if c1 H
    refine aw_iload_n C dJ9_max_7cf53_5 rfl ?_
    refine aw_goto (tgt := 10) C dJ9_max_7cf53_6 (by decide) ?_
    exact aw_loc (hz_sub_n (hz_sub_n hz_sub_0)) (k_J9_max_7cf53_10 hn C  _ _ H)
theorem hy_J9_floorMod_7cf53 : hz_Y yJ9_floorMod_7cf53 cJ9_floorMod_7cf53 3 (some .int) 2 := ⟨wd_498, wd_69, by decide +kernel, by decide +kernel, by decide +kernel⟩
def f_J9_floorMod_7cf53_18 (l2 : Int32) (h : HP) : Option (Int32 × HP) :=
  some (l2, h)
def f_J9_floorMod_7cf53 (a0 : Int32) (a1 : Int32) (h : HP) : Option (Int32 × HP) :=
  if a1 = 0 then none else
  if 0 ≤ (a0 ^^^ a1) then
    f_J9_floorMod_7cf53_18  (a0 - a0 / a1 * a1) h
  else
    if (a0 - a0 / a1 * a1) = 0 then
      f_J9_floorMod_7cf53_18  (a0 - a0 / a1 * a1) h
    else
      some (((a0 - a0 / a1 * a1) + a1), h)
abbrev rm_J9_floorMod_7cf53 : Room := { frames := 0, cells := 0, slots := 0, locals := 0 }
set_option maxRecDepth 100000 in
set_option maxHeartbeats 4000000 in
theorem k_J9_floorMod_7cf53_18 {G : GX} {v' : Int32} {h' : HP} (hn : G.2.2.2.2.2.2.2.2.2.2.2.2 = 3) (C : Cx G cJ9_floorMod_7cf53 RJ9 "floorMod" (some .int) rm_J9_floorMod_7cf53 (some (.int v')) h') (l2 : Int32) (h : HP) (H : f_J9_floorMod_7cf53_18  l2 h = some (v', h')) : aw G 18 [none, none, some (.int l2)] [] h 0 0 := by
  unfold f_J9_floorMod_7cf53_18 at H
  refine aw_iload_n C dJ9_floorMod_7cf53_18 rfl ?_
  cases H
  exact aw_iret C (Nat.zero_le _) (Nat.zero_le _) dJ9_floorMod_7cf53_19
set_option maxRecDepth 100000 in
set_option maxHeartbeats 4000000 in
theorem c_J9_floorMod_7cf53 {l : Launch} (a0 : Int32) (a1 : Int32) (h : HP) (v' : Int32) (h' : HP) (H : f_J9_floorMod_7cf53 a0 a1 h = some (v', h')) : Ct l yJ9_floorMod_7cf53 cJ9_floorMod_7cf53 3 (some .int) rm_J9_floorMod_7cf53 [.int a0, .int a1] (some (.int v')) h h' := by
  refine Ct.of (by decide +kernel) (hz_s1c (hz_s1c hz_s1n rfl) rfl) (Nat.le_of_ble_eq_true rfl) (fun G hl hn C0 => ?_)
  have C : Cx G cJ9_floorMod_7cf53 RJ9 "floorMod" (some .int) rm_J9_floorMod_7cf53 (some (.int v')) h' := C0
  subst hl
  show aw G 0 [some (.int a0), some (.int a1), none] [] h 0 0
  unfold f_J9_floorMod_7cf53 at H
  refine aw_iload_n C dJ9_floorMod_7cf53_0 rfl ?_
  refine aw_iload_n C dJ9_floorMod_7cf53_1 rfl ?_
  obtain ⟨g1, H⟩ := hz_un H
  refine aw_irem C dJ9_floorMod_7cf53_2 g1 ?_
  refine aw_istore_n C dJ9_floorMod_7cf53_3 (by rw [hn]; decide) rfl ?_
  refine aw_iload_n C dJ9_floorMod_7cf53_4 rfl ?_
  refine aw_iload_n C dJ9_floorMod_7cf53_5 rfl ?_
  refine aw_ixor C dJ9_floorMod_7cf53_6 ?_
  refine aw_if_ge (tgt := 18) C dJ9_floorMod_7cf53_7 (by decide) (fun c2 => ?_) (fun c2 => ?_)
  · replace H := hz_it c2 H
    exact aw_loc (hz_sub_n (hz_sub_n (hz_sub_s hz_sub_0))) (k_J9_floorMod_7cf53_18 hn C  _ _ H)
  · replace H := hz_if c2 H
    refine aw_iload_n C dJ9_floorMod_7cf53_10 rfl ?_
    refine aw_if_eq (tgt := 18) C dJ9_floorMod_7cf53_11 (by decide) (fun c3 => ?_) (fun c3 => ?_)
    · replace H := hz_it c3 H
      exact aw_loc (hz_sub_n (hz_sub_n (hz_sub_s hz_sub_0))) (k_J9_floorMod_7cf53_18 hn C  _ _ H)
    · replace H := hz_if c3 H
      refine aw_iload_n C dJ9_floorMod_7cf53_14 rfl ?_
      refine aw_iload_n C dJ9_floorMod_7cf53_15 rfl ?_
      refine aw_iadd C dJ9_floorMod_7cf53_16 ?_
      cases H
      exact aw_iret C (Nat.zero_le _) (Nat.zero_le _) dJ9_floorMod_7cf53_17
theorem hy_J7_copyOf_59c91 : hz_Y yJ7_copyOf_59c91 cJ7_copyOf_59c91 3 (some (.array .int)) 2 := ⟨wd_505, wd_70, by decide +kernel, by decide +kernel, by decide +kernel⟩
def f_J7_copyOf_59c91 (a0 : Option Nat) (a1 : Int32) (h : HP) : Option (Option Nat × HP) :=
  (hz_aL h a0).bind fun v1 =>
  if a1 = v1 then
    (hz_cl h a0 64).bind fun h11 =>
    (hz_ar h11 (some (h.1 + 1)) 0).bind fun x13 =>
    some ((some (h.1 + 1)), h11)
  else
    (hz_nA h 0 64 a1).bind fun h3 =>
    (hz_aL h3 a0).bind fun v5 =>
    (f_J9_min_7cf53 v5 a1 h3).bind fun p7 =>
    (hz_cp p7.2 a0 (0 : Int32) (some (h.1 + 1)) (0 : Int32) p7.1).bind fun h9 =>
    some ((some (h.1 + 1)), h9)
abbrev rm_J7_copyOf_59c91 : Room := { frames := 1, cells := 1, slots := 64, locals := 40 }
set_option maxRecDepth 100000 in
set_option maxHeartbeats 4000000 in
theorem c_J7_copyOf_59c91 {l : Launch} (a0 : Option Nat) (a1 : Int32) (h : HP) (v' : Option Nat) (h' : HP) (H : f_J7_copyOf_59c91 a0 a1 h = some (v', h')) : Ct l yJ7_copyOf_59c91 cJ7_copyOf_59c91 3 (some (.array .int)) rm_J7_copyOf_59c91 [va_rf a0, .int a1] (some (va_rf v')) h h' := by
  refine Ct.of (by decide +kernel) (hz_s1c (hz_s1c hz_s1n rfl) (hz_cr _)) (Nat.le_of_ble_eq_true rfl) (fun G hl hn C0 => ?_)
  have C : Cx G cJ7_copyOf_59c91 RJ7 "copyOf" (some (.array .int)) rm_J7_copyOf_59c91 (some (va_rf v')) h' := C0
  subst hl
  show aw G 0 [some (va_rf a0), some (.int a1), none] [] h 0 0
  unfold f_J7_copyOf_59c91 at H
  obtain ⟨cs, hcs⟩ : ∃ k : Nat, k = 0 := ⟨0, rfl⟩
  obtain ⟨sl, hsl⟩ : ∃ k : Nat, k = 0 := ⟨0, rfl⟩
  suffices hh : aw G 0 [some (va_rf a0), some (.int a1), none] [] h cs sl by rw [hcs, hsl] at hh; exact hh
  refine aw_iload_n C dJ7_copyOf_59c91_0 rfl ?_
  refine aw_aload_n C dJ7_copyOf_59c91_1 rfl ?_
  obtain ⟨v1, e2, H⟩ := hz_bd H
  refine aw_alen C e2 dJ7_copyOf_59c91_2 ?_
  refine aw_icmp_ne (tgt := 14) C dJ7_copyOf_59c91_3 (by decide) (fun c15 => ?_) (fun c15 => ?_)
  · replace H := hz_if c15 H
    refine aw_iload_n C dJ7_copyOf_59c91_14 rfl ?_
    obtain ⟨h3, e4, H⟩ := hz_bd H
    refine aw_newa (t := 0) (cap := 64) C (by decide) rfl wd_172 e4 (by decide) (by show cs + 1 ≤ 1; omega) (by show sl + 64 ≤ 64; omega) dJ7_copyOf_59c91_15 ?_
    refine aw_astore_n C dJ7_copyOf_59c91_17 (by rw [hn]; decide) rfl ?_
    refine aw_aload_n C dJ7_copyOf_59c91_18 rfl ?_
    refine aw_iconst C dJ7_copyOf_59c91_19 (v := 0) (by decide) ?_
    refine aw_aload_n C dJ7_copyOf_59c91_20 rfl ?_
    refine aw_iconst C dJ7_copyOf_59c91_21 (v := 0) (by decide) ?_
    refine aw_aload_n C dJ7_copyOf_59c91_22 rfl ?_
    obtain ⟨v5, e6, H⟩ := hz_bd H
    refine aw_alen C e6 dJ7_copyOf_59c91_23 ?_
    refine aw_iload_n C dJ7_copyOf_59c91_24 rfl ?_
    obtain ⟨p7, e8, H⟩ := hz_bd H
    refine aw_S (As := [.int v5, .int a1]) (rest := [.int (0 : Int32), va_rf (some (h.1 + 1)), .int (0 : Int32), va_rf a0]) C hy_J9_min_7cf53 wd_398 wd_513 (c_J9_min_7cf53 _ _ _ _ _  e8) (hz_roi _) rfl rfl (Nat.le_of_ble_eq_true rfl) (by decide) (kc := 0) (ks := 0) rfl rfl ⟨(by show cs + 1 + 0 ≤ 1; omega), (by show sl + 64 + 0 ≤ 64; omega)⟩ dJ7_copyOf_59c91_25 ?_
    obtain ⟨h9, e10, H⟩ := hz_bd H
    refine aw_cp C wd_514 wd_516 wd_515 wd_71 e10 ⟨Nat.le_of_ble_eq_true rfl, Nat.le_of_ble_eq_true rfl⟩ dJ7_copyOf_59c91_28 ?_
    refine aw_aload_n C dJ7_copyOf_59c91_31 rfl ?_
    cases H
    exact aw_aret C (Or.inr ⟨_, rfl⟩) (by show cs + 1 + 0 ≤ 1; omega) (by show sl + 64 + 0 ≤ 64; omega) dJ7_copyOf_59c91_32
  · replace H := hz_it c15 H
    refine aw_aload_n C dJ7_copyOf_59c91_6 rfl ?_
    obtain ⟨h11, e12, H⟩ := hz_bd H
    refine aw_cl (cap := 64) C wd_506 wd_507 wd_508 wd_509 wd_510 wn_511 e12 ⟨Nat.le_of_ble_eq_true rfl, Nat.le_of_ble_eq_true rfl⟩ (by show cs + 1 ≤ 1; omega) (by show sl + 64 ≤ 64; omega) dJ7_copyOf_59c91_7 ?_
    obtain ⟨x13, e14, H⟩ := hz_bd H
    refine aw_castI C wd_512 e14 dJ7_copyOf_59c91_10 ?_
    cases H
    exact aw_aret C (Or.inr ⟨_, rfl⟩) (by show cs + 1 ≤ 1; omega) (by show sl + 64 ≤ 64; omega) dJ7_copyOf_59c91_13
theorem hy_J7_fill_53178 : hz_Y yJ7_fill_53178 cJ7_fill_53178 4 none 2 := ⟨wd_570, wd_70, by decide +kernel, by decide +kernel, by decide +kernel⟩
def f_J7_fill_53178_5 : Nat → Option Nat → Int32 → Int32 → Int32 → HP → Option HP
  | 0, _, _, _, _, _ => none
  | n + 1, l0, l1, l2, l3, h =>
    if l3 ≤ l2 then
      some h
    else
      (hz_aS h l0 0 l2 l1).bind fun h3 =>
      f_J7_fill_53178_5  n l0 l1 (l2 + (1 : Int32)) l3 h3
def f_J7_fill_53178 (a0 : Option Nat) (a1 : Int32) (h : HP) : Option HP :=
  (hz_aL h a0).bind fun v1 =>
  f_J7_fill_53178_5  600 a0 a1 (0 : Int32) v1 h
abbrev rm_J7_fill_53178 : Room := { frames := 0, cells := 0, slots := 0, locals := 0 }
set_option maxRecDepth 100000 in
set_option maxHeartbeats 4000000 in
theorem k_J7_fill_53178_5 {G : GX} {h' : HP} (hn : G.2.2.2.2.2.2.2.2.2.2.2.2 = 4) (C : Cx G cJ7_fill_53178 RJ7 "fill" none rm_J7_fill_53178 none h') : ∀ (n : Nat) (l0 : Option Nat) (l1 : Int32) (l2 : Int32) (l3 : Int32) (h : HP), f_J7_fill_53178_5  n l0 l1 l2 l3 h = some h' → aw G 5 [some (va_rf l0), some (.int l1), some (.int l2), some (.int l3)] [] h 0 0 := by
  intro n
  induction n with
  | zero => intro l0 l1 l2 l3 h H; cases H
  | succ n ih =>
    intro l0 l1 l2 l3 h H
    rw [f_J7_fill_53178_5] at H
    refine aw_iload_n C dJ7_fill_53178_5 rfl ?_
    refine aw_iload_n C dJ7_fill_53178_6 rfl ?_
    refine aw_icmp_ge (tgt := 20) C dJ7_fill_53178_7 (by decide) (fun c5 => ?_) (fun c5 => ?_)
    · replace H := hz_it c5 H
      cases H
      exact aw_vret C (Nat.zero_le _) (Nat.zero_le _) dJ7_fill_53178_20
    · replace H := hz_if c5 H
      refine aw_aload_n C dJ7_fill_53178_10 rfl ?_
      refine aw_iload_n C dJ7_fill_53178_11 rfl ?_
      refine aw_iload_n C dJ7_fill_53178_12 rfl ?_
      obtain ⟨h3, e4, H⟩ := hz_bd H
      refine aw_iast C e4 dJ7_fill_53178_13 ?_
      refine aw_iinc (d := 1) C dJ7_fill_53178_14 (by rw [hn]; decide) rfl (by decide) rfl ?_
      refine aw_goto (tgt := 5) C dJ7_fill_53178_17 (by decide) ?_
      exact ih _ _ _ _ _ H
set_option maxRecDepth 100000 in
set_option maxHeartbeats 4000000 in
theorem c_J7_fill_53178 {l : Launch} (a0 : Option Nat) (a1 : Int32) (h : HP) (h' : HP) (H : f_J7_fill_53178 a0 a1 h = some h') : Ct l yJ7_fill_53178 cJ7_fill_53178 4 none rm_J7_fill_53178 [va_rf a0, .int a1] none h h' := by
  refine Ct.of (by decide +kernel) (hz_s1c (hz_s1c hz_s1n rfl) (hz_cr _)) (Nat.le_of_ble_eq_true rfl) (fun G hl hn C0 => ?_)
  have C : Cx G cJ7_fill_53178 RJ7 "fill" none rm_J7_fill_53178 none h' := C0
  subst hl
  show aw G 0 [some (va_rf a0), some (.int a1), none, none] [] h 0 0
  unfold f_J7_fill_53178 at H
  refine aw_iconst C dJ7_fill_53178_0 (v := 0) (by decide) ?_
  refine aw_istore_n C dJ7_fill_53178_1 (by rw [hn]; decide) rfl ?_
  refine aw_aload_n C dJ7_fill_53178_2 rfl ?_
  obtain ⟨v1, e2, H⟩ := hz_bd H
  refine aw_alen C e2 dJ7_fill_53178_3 ?_
  refine aw_istore_n C dJ7_fill_53178_4 (by rw [hn]; decide) rfl ?_
  exact k_J7_fill_53178_5 hn C  600 _ _ _ _ _ H
end
section
theorem hy_X0_init : hz_Y yX0_init cX0_init 1 none 0 := ⟨wd_191, wd_65, by decide +kernel, by decide +kernel, by decide +kernel⟩
def f_X0_init (a0 : Option Nat) (h : HP) : Option HP :=
  if a0 = none then none else
  (hz_pF h a0 0 2 (va_rf (some 0))).bind fun h2 =>
  some h2
abbrev rm_X0_init : Room := { frames := 1, cells := 0, slots := 0, locals := 40 }
set_option maxRecDepth 100000 in
set_option maxHeartbeats 4000000 in
theorem c_X0_init {l : Launch} (a0 : Option Nat) (h : HP) (h' : HP) (H : f_X0_init a0 h = some h') : Ct l yX0_init cX0_init 1 none rm_X0_init [va_rf a0] none h h' := by
  refine Ct.of (plainFor_of_name (by decide)) (hz_s1c hz_s1n (hz_cr _)) (Nat.le_of_ble_eq_true rfl) (fun G hl hn C0 => ?_)
  have C : Cx G cX0_init RX0 "<init>" none rm_X0_init none h' := C0
  subst hl
  show aw G 0 [some (va_rf a0)] [] h 0 0
  unfold f_X0_init at H
  refine aw_aload_n C dX0_init_0 rfl ?_
  obtain ⟨g1, H⟩ := hz_un H
  refine aw_objI C g1 wd_192 wd_78 wd_79 (Nat.le_of_ble_eq_true rfl) (by decide) dX0_init_1 ?_
  refine aw_aload_n C dX0_init_4 rfl ?_
  refine aw_gets C wn_193 dX0_init_5 ?_
  obtain ⟨h2, e3, H⟩ := hz_bd H
  refine aw_pF (k := 2) C cl_0 (by decide) rfl wd_199 (hz_fita _ _) e3 dX0_init_8 ?_
  cases H
  exact aw_vret C (Nat.zero_le _) (Nat.zero_le _) dX0_init_11
theorem hy_X8_without : hz_Y yX8_without cX8_without 2 (some .int) 2 := ⟨wd_370, wd_58, by decide +kernel, by decide +kernel, by decide +kernel⟩
def f_X8_without (a0 : Int32) (a1 : Int32) (h : HP) : Option (Int32 × HP) :=
  some ((a0 &&& (((1 : Int32) <<< (a1 &&& 31)) ^^^ (-1 : Int32))), h)
abbrev rm_X8_without : Room := { frames := 0, cells := 0, slots := 0, locals := 0 }
set_option maxRecDepth 100000 in
set_option maxHeartbeats 4000000 in
theorem c_X8_without {l : Launch} (a0 : Int32) (a1 : Int32) (h : HP) (v' : Int32) (h' : HP) (H : f_X8_without a0 a1 h = some (v', h')) : Ct l yX8_without cX8_without 2 (some .int) rm_X8_without [.int a0, .int a1] (some (.int v')) h h' := by
  refine Ct.of (plainFor_of_name (by decide)) (hz_s1c (hz_s1c hz_s1n rfl) rfl) (Nat.le_of_ble_eq_true rfl) (fun G hl hn C0 => ?_)
  have C : Cx G cX8_without RX8 "without" (some .int) rm_X8_without (some (.int v')) h' := C0
  subst hl
  show aw G 0 [some (.int a0), some (.int a1)] [] h 0 0
  unfold f_X8_without at H
  refine aw_iload_n C dX8_without_0 rfl ?_
  refine aw_iconst C dX8_without_1 (v := 1) (by decide) ?_
  refine aw_iload_n C dX8_without_2 rfl ?_
  refine aw_ishl C dX8_without_3 ?_
  refine aw_iconst C dX8_without_4 (v := (-1)) (by decide) ?_
  refine aw_ixor C dX8_without_5 ?_
  refine aw_iand C dX8_without_6 ?_
  cases H
  exact aw_iret C (Nat.zero_le _) (Nat.zero_le _) dX8_without_7
theorem hy_X0_start : hz_Y yX0_start cX0_start 5 none 4 := ⟨wd_520, wd_65, by decide +kernel, by decide +kernel, by decide +kernel⟩
theorem hv_X0_start : hz_YV yX0_start := ⟨wd_518, wd_519⟩
def f_X0_start (a0 : Option Nat) (a1 : Int32) (a2 : Int32) (a3 : Int32) (a4 : Option Nat) (h : HP) : Option HP :=
  (hz_pF h a0 0 0 (.int a1)).bind fun h1 =>
  (f_X8_without a1 a2 h1).bind fun p3 =>
  (hz_pF p3.2 a0 0 1 (.int p3.1)).bind fun h5 =>
  (hz_pF h5 a0 0 4 (.int a2)).bind fun h7 =>
  (hz_pF h7 a0 0 3 (.int a3)).bind fun h9 =>
  (hz_pF h9 a0 0 2 (va_rf a4)).bind fun h11 =>
  some h11
abbrev rm_X0_start : Room := { frames := 1, cells := 0, slots := 0, locals := 21 }
set_option maxRecDepth 100000 in
set_option maxHeartbeats 4000000 in
theorem c_X0_start {l : Launch} (a0 : Option Nat) (a1 : Int32) (a2 : Int32) (a3 : Int32) (a4 : Option Nat) (h : HP) (h' : HP) (H : f_X0_start a0 a1 a2 a3 a4 h = some h') : Ct l yX0_start cX0_start 5 none rm_X0_start [va_rf a0, .int a1, .int a2, .int a3, va_rf a4] none h h' := by
  refine Ct.of (plainFor_of_name (by decide)) (hz_s1c (hz_s1c (hz_s1c (hz_s1c (hz_s1c hz_s1n (hz_cr _)) rfl) rfl) rfl) (hz_cr _)) (Nat.le_of_ble_eq_true rfl) (fun G hl hn C0 => ?_)
  have C : Cx G cX0_start RX0 "start" none rm_X0_start none h' := C0
  subst hl
  show aw G 0 [some (va_rf a0), some (.int a1), some (.int a2), some (.int a3), some (va_rf a4)] [] h 0 0
  unfold f_X0_start at H
  refine aw_aload_n C dX0_start_0 rfl ?_
  refine aw_iload_n C dX0_start_1 rfl ?_
  obtain ⟨h1, e2, H⟩ := hz_bd H
  refine aw_pF (k := 0) C cl_0 (by decide) rfl wd_195 (hz_fiti _) e2 dX0_start_2 ?_
  refine aw_aload_n C dX0_start_5 rfl ?_
  refine aw_iload_n C dX0_start_6 rfl ?_
  refine aw_iload_n C dX0_start_7 rfl ?_
  obtain ⟨p3, e4, H⟩ := hz_bd H
  refine aw_SN (As := [.int a1, .int a2]) (rest := [va_rf a0]) C hy_X8_without wd_369 wn_521 (c_X8_without _ _ _ _ _  e4) (hz_roi _) rfl rfl (Nat.le_of_ble_eq_true rfl) (by decide) (kc := 0) (ks := 0) rfl rfl (by decide) dX0_start_8 ?_
  obtain ⟨h5, e6, H⟩ := hz_bd H
  refine aw_pF (k := 1) C cl_0 (by decide) rfl wd_197 (hz_fiti _) e6 dX0_start_11 ?_
  refine aw_aload_n C dX0_start_14 rfl ?_
  refine aw_iload_n C dX0_start_15 rfl ?_
  obtain ⟨h7, e8, H⟩ := hz_bd H
  refine aw_pF (k := 4) C cl_0 (by decide) rfl wd_202 (hz_fiti _) e8 dX0_start_16 ?_
  refine aw_aload_n C dX0_start_19 rfl ?_
  refine aw_iload_n C dX0_start_20 rfl ?_
  obtain ⟨h9, e10, H⟩ := hz_bd H
  refine aw_pF (k := 3) C cl_0 (by decide) rfl wd_201 (hz_fiti _) e10 dX0_start_21 ?_
  refine aw_aload_n C dX0_start_24 rfl ?_
  refine aw_aload C dX0_start_25 rfl ?_
  obtain ⟨h11, e12, H⟩ := hz_bd H
  refine aw_pF (k := 2) C cl_0 (by decide) rfl wd_199 (hz_fita _ _) e12 dX0_start_27 ?_
  cases H
  exact aw_vret C (Nat.zero_le _) (Nat.zero_le _) dX0_start_30
theorem hy_X0_answered : hz_Y yX0_answered cX0_answered 2 none 1 := ⟨wd_545, wd_65, by decide +kernel, by decide +kernel, by decide +kernel⟩
theorem hv_X0_answered : hz_YV yX0_answered := ⟨wd_543, wd_544⟩
def f_X0_answered (a0 : Option Nat) (a1 : Int32) (h : HP) : Option HP :=
  (hz_gI h a0 0 1).bind fun v1 =>
  (f_X8_without v1 a1 h).bind fun p3 =>
  (hz_pF p3.2 a0 0 1 (.int p3.1)).bind fun h5 =>
  some h5
abbrev rm_X0_answered : Room := { frames := 1, cells := 0, slots := 0, locals := 21 }
set_option maxRecDepth 100000 in
set_option maxHeartbeats 4000000 in
theorem c_X0_answered {l : Launch} (a0 : Option Nat) (a1 : Int32) (h : HP) (h' : HP) (H : f_X0_answered a0 a1 h = some h') : Ct l yX0_answered cX0_answered 2 none rm_X0_answered [va_rf a0, .int a1] none h h' := by
  refine Ct.of (plainFor_of_name (by decide)) (hz_s1c (hz_s1c hz_s1n rfl) (hz_cr _)) (Nat.le_of_ble_eq_true rfl) (fun G hl hn C0 => ?_)
  have C : Cx G cX0_answered RX0 "answered" none rm_X0_answered none h' := C0
  subst hl
  show aw G 0 [some (va_rf a0), some (.int a1)] [] h 0 0
  unfold f_X0_answered at H
  refine aw_aload_n C dX0_answered_0 rfl ?_
  refine aw_aload_n C dX0_answered_1 rfl ?_
  obtain ⟨v1, e2, H⟩ := hz_bd H
  refine aw_gI (k := 1) C cl_0 (by decide) wd_197 e2 dX0_answered_2 ?_
  refine aw_iload_n C dX0_answered_5 rfl ?_
  obtain ⟨p3, e4, H⟩ := hz_bd H
  refine aw_SN (As := [.int v1, .int a1]) (rest := [va_rf a0]) C hy_X8_without wd_369 wn_521 (c_X8_without _ _ _ _ _  e4) (hz_roi _) rfl rfl (Nat.le_of_ble_eq_true rfl) (by decide) (kc := 0) (ks := 0) rfl rfl (by decide) dX0_answered_6 ?_
  obtain ⟨h5, e6, H⟩ := hz_bd H
  refine aw_pF (k := 1) C cl_0 (by decide) rfl wd_197 (hz_fiti _) e6 dX0_answered_9 ?_
  cases H
  exact aw_vret C (Nat.zero_le _) (Nat.zero_le _) dX0_answered_12
theorem hy_X0_isBetter : hz_Y yX0_isBetter cX0_isBetter 4 (some .boolean) 3 := ⟨wd_541, wd_65, by decide +kernel, by decide +kernel, by decide +kernel⟩
theorem hv_X0_isBetter : hz_YV yX0_isBetter := ⟨wd_540, wd_29⟩
def f_X0_isBetter_59 (s0 : Int32) (h : HP) : Option (Int32 × HP) :=
  if s0 &&& 1 = s0 then some (s0, h) else none
def f_X0_isBetter_45 (s0 : Int32) (h : HP) : Option (Int32 × HP) :=
  if s0 &&& 1 = s0 then some (s0, h) else none
def f_X0_isBetter_21 (s0 : Int32) (h : HP) : Option (Int32 × HP) :=
  if s0 &&& 1 = s0 then some (s0, h) else none
def f_X0_isBetter (a0 : Option Nat) (a1 : Int32) (a2 : Int32) (a3 : Int32) (h : HP) : Option (Int32 × HP) :=
  (hz_gI h a0 0 3).bind fun v1 =>
  if a2 = v1 then
    (hz_gR h a0 0 2).bind fun r3 =>
    (hz_aL h r3).bind fun v5 =>
    if a3 = v5 then
      (hz_gI h a0 0 4).bind fun v7 =>
      if v7 ≤ a1 then
        f_X0_isBetter_59  (0 : Int32) h
      else
        f_X0_isBetter_59  (1 : Int32) h
    else
      (hz_gR h a0 0 2).bind fun r9 =>
      (hz_aL h r9).bind fun v11 =>
      if a3 ≤ v11 then
        f_X0_isBetter_45  (0 : Int32) h
      else
        f_X0_isBetter_45  (1 : Int32) h
  else
    (hz_gI h a0 0 3).bind fun v13 =>
    if a2 ≤ v13 then
      f_X0_isBetter_21  (0 : Int32) h
    else
      f_X0_isBetter_21  (1 : Int32) h
abbrev rm_X0_isBetter : Room := { frames := 0, cells := 0, slots := 0, locals := 0 }
set_option maxRecDepth 100000 in
set_option maxHeartbeats 4000000 in
theorem k_X0_isBetter_59 {G : GX} {v' : Int32} {h' : HP} (hn : G.2.2.2.2.2.2.2.2.2.2.2.2 = 4) (C : Cx G cX0_isBetter RX0 "isBetter" (some .boolean) rm_X0_isBetter (some (.int v')) h') (s0 : Int32) (h : HP) (H : f_X0_isBetter_59  s0 h = some (v', h')) : aw G 59 [none, none, none, none] [.int s0] h 0 0 := by
  unfold f_X0_isBetter_59 at H
  obtain ⟨gz, H⟩ := hz_wn H
  cases H
  exact aw_zret C gz (Nat.zero_le _) (Nat.zero_le _) dX0_isBetter_59
set_option maxRecDepth 100000 in
set_option maxHeartbeats 4000000 in
theorem k_X0_isBetter_45 {G : GX} {v' : Int32} {h' : HP} (hn : G.2.2.2.2.2.2.2.2.2.2.2.2 = 4) (C : Cx G cX0_isBetter RX0 "isBetter" (some .boolean) rm_X0_isBetter (some (.int v')) h') (s0 : Int32) (h : HP) (H : f_X0_isBetter_45  s0 h = some (v', h')) : aw G 45 [none, none, none, none] [.int s0] h 0 0 := by
  unfold f_X0_isBetter_45 at H
  obtain ⟨gz, H⟩ := hz_wn H
  cases H
  exact aw_zret C gz (Nat.zero_le _) (Nat.zero_le _) dX0_isBetter_45
set_option maxRecDepth 100000 in
set_option maxHeartbeats 4000000 in
theorem k_X0_isBetter_21 {G : GX} {v' : Int32} {h' : HP} (hn : G.2.2.2.2.2.2.2.2.2.2.2.2 = 4) (C : Cx G cX0_isBetter RX0 "isBetter" (some .boolean) rm_X0_isBetter (some (.int v')) h') (s0 : Int32) (h : HP) (H : f_X0_isBetter_21  s0 h = some (v', h')) : aw G 21 [none, none, none, none] [.int s0] h 0 0 := by
  unfold f_X0_isBetter_21 at H
  obtain ⟨gz, H⟩ := hz_wn H
  cases H
  exact aw_zret C gz (Nat.zero_le _) (Nat.zero_le _) dX0_isBetter_21
set_option maxRecDepth 100000 in
set_option maxHeartbeats 4000000 in
theorem c_X0_isBetter {l : Launch} (a0 : Option Nat) (a1 : Int32) (a2 : Int32) (a3 : Int32) (h : HP) (v' : Int32) (h' : HP) (H : f_X0_isBetter a0 a1 a2 a3 h = some (v', h')) : Ct l yX0_isBetter cX0_isBetter 4 (some .boolean) rm_X0_isBetter [va_rf a0, .int a1, .int a2, .int a3] (some (.int v')) h h' := by
  refine Ct.of (plainFor_of_name (by decide)) (hz_s1c (hz_s1c (hz_s1c (hz_s1c hz_s1n rfl) rfl) rfl) (hz_cr _)) (Nat.le_of_ble_eq_true rfl) (fun G hl hn C0 => ?_)
  have C : Cx G cX0_isBetter RX0 "isBetter" (some .boolean) rm_X0_isBetter (some (.int v')) h' := C0
  subst hl
  show aw G 0 [some (va_rf a0), some (.int a1), some (.int a2), some (.int a3)] [] h 0 0
  unfold f_X0_isBetter at H
  refine aw_iload_n C dX0_isBetter_0 rfl ?_
  refine aw_aload_n C dX0_isBetter_1 rfl ?_
  obtain ⟨v1, e2, H⟩ := hz_bd H
  refine aw_gI (k := 3) C cl_0 (by decide) wd_201 e2 dX0_isBetter_2 ?_
  refine aw_icmp_eq (tgt := 22) C dX0_isBetter_5 (by decide) (fun c15 => ?_) (fun c15 => ?_)
  · replace H := hz_it c15 H
    refine aw_iload_n C dX0_isBetter_22 rfl ?_
    refine aw_aload_n C dX0_isBetter_23 rfl ?_
    obtain ⟨r3, e4, H⟩ := hz_bd H
    refine aw_gR (k := 2) C cl_0 (by decide) wd_199 e4 dX0_isBetter_24 ?_
    obtain ⟨v5, e6, H⟩ := hz_bd H
    refine aw_alen C e6 dX0_isBetter_27 ?_
    refine aw_icmp_eq (tgt := 46) C dX0_isBetter_28 (by decide) (fun c16 => ?_) (fun c16 => ?_)
    · replace H := hz_it c16 H
      refine aw_iload_n C dX0_isBetter_46 rfl ?_
      refine aw_aload_n C dX0_isBetter_47 rfl ?_
      obtain ⟨v7, e8, H⟩ := hz_bd H
      refine aw_gI (k := 4) C cl_0 (by decide) wd_202 e8 dX0_isBetter_48 ?_
      refine aw_icmp_ge (tgt := 58) C dX0_isBetter_51 (by decide) (fun c17 => ?_) (fun c17 => ?_)
      · replace H := hz_it c17 H
        refine aw_iconst C dX0_isBetter_58 (v := 0) (by decide) ?_
        exact aw_loc (hz_sub_n (hz_sub_n (hz_sub_n (hz_sub_n hz_sub_0)))) (k_X0_isBetter_59 hn C  _ _ H)
      · replace H := hz_if c17 H
        refine aw_iconst C dX0_isBetter_54 (v := 1) (by decide) ?_
        refine aw_goto (tgt := 59) C dX0_isBetter_55 (by decide) ?_
        exact aw_loc (hz_sub_n (hz_sub_n (hz_sub_n (hz_sub_n hz_sub_0)))) (k_X0_isBetter_59 hn C  _ _ H)
    · replace H := hz_if c16 H
      refine aw_iload_n C dX0_isBetter_31 rfl ?_
      refine aw_aload_n C dX0_isBetter_32 rfl ?_
      obtain ⟨r9, e10, H⟩ := hz_bd H
      refine aw_gR (k := 2) C cl_0 (by decide) wd_199 e10 dX0_isBetter_33 ?_
      obtain ⟨v11, e12, H⟩ := hz_bd H
      refine aw_alen C e12 dX0_isBetter_36 ?_
      refine aw_icmp_le (tgt := 44) C dX0_isBetter_37 (by decide) (fun c18 => ?_) (fun c18 => ?_)
      · replace H := hz_it c18 H
        refine aw_iconst C dX0_isBetter_44 (v := 0) (by decide) ?_
        exact aw_loc (hz_sub_n (hz_sub_n (hz_sub_n (hz_sub_n hz_sub_0)))) (k_X0_isBetter_45 hn C  _ _ H)
      · replace H := hz_if c18 H
        refine aw_iconst C dX0_isBetter_40 (v := 1) (by decide) ?_
        refine aw_goto (tgt := 45) C dX0_isBetter_41 (by decide) ?_
        exact aw_loc (hz_sub_n (hz_sub_n (hz_sub_n (hz_sub_n hz_sub_0)))) (k_X0_isBetter_45 hn C  _ _ H)
  · replace H := hz_if c15 H
    refine aw_iload_n C dX0_isBetter_8 rfl ?_
    refine aw_aload_n C dX0_isBetter_9 rfl ?_
    obtain ⟨v13, e14, H⟩ := hz_bd H
    refine aw_gI (k := 3) C cl_0 (by decide) wd_201 e14 dX0_isBetter_10 ?_
    refine aw_icmp_le (tgt := 20) C dX0_isBetter_13 (by decide) (fun c19 => ?_) (fun c19 => ?_)
    · replace H := hz_it c19 H
      refine aw_iconst C dX0_isBetter_20 (v := 0) (by decide) ?_
      exact aw_loc (hz_sub_n (hz_sub_n (hz_sub_n (hz_sub_n hz_sub_0)))) (k_X0_isBetter_21 hn C  _ _ H)
    · replace H := hz_if c19 H
      refine aw_iconst C dX0_isBetter_16 (v := 1) (by decide) ?_
      refine aw_goto (tgt := 21) C dX0_isBetter_17 (by decide) ?_
      exact aw_loc (hz_sub_n (hz_sub_n (hz_sub_n (hz_sub_n hz_sub_0)))) (k_X0_isBetter_21 hn C  _ _ H)
theorem hy_X0_weigh : hz_Y yX0_weigh cX0_weigh 4 none 3 := ⟨wd_537, wd_65, by decide +kernel, by decide +kernel, by decide +kernel⟩
theorem hv_X0_weigh : hz_YV yX0_weigh := ⟨wd_535, wd_536⟩
def f_X0_weigh_26 (h : HP) : Option HP :=
  some h
def f_X0_weigh (a0 : Option Nat) (a1 : Int32) (a2 : Int32) (a3 : Option Nat) (h : HP) : Option HP :=
  (hz_aL h a3).bind fun v1 =>
  if hz_ob h a0 0 = true then
  (f_X0_isBetter a0 a1 a2 v1 h).bind fun p3 =>
  if p3.1 = 0 then
    f_X0_weigh_26   p3.2
  else
    (hz_pF p3.2 a0 0 4 (.int a1)).bind fun h6 =>
    (hz_pF h6 a0 0 3 (.int a2)).bind fun h8 =>
    (hz_pF h8 a0 0 2 (va_rf a3)).bind fun h10 =>
    f_X0_weigh_26   h10
  else none
abbrev rm_X0_weigh : Room := { frames := 1, cells := 0, slots := 0, locals := 23 }
set_option maxRecDepth 100000 in
set_option maxHeartbeats 4000000 in
theorem k_X0_weigh_26 {G : GX} {h' : HP} (hn : G.2.2.2.2.2.2.2.2.2.2.2.2 = 4) (C : Cx G cX0_weigh RX0 "weigh" none rm_X0_weigh none h') (h : HP) (H : f_X0_weigh_26   h = some h') : aw G 26 [none, none, none, none] [] h 0 0 := by
  unfold f_X0_weigh_26 at H
  cases H
  exact aw_vret C (Nat.zero_le _) (Nat.zero_le _) dX0_weigh_26
set_option maxRecDepth 100000 in
set_option maxHeartbeats 4000000 in
theorem c_X0_weigh {l : Launch} (a0 : Option Nat) (a1 : Int32) (a2 : Int32) (a3 : Option Nat) (h : HP) (h' : HP) (H : f_X0_weigh a0 a1 a2 a3 h = some h') : Ct l yX0_weigh cX0_weigh 4 none rm_X0_weigh [va_rf a0, .int a1, .int a2, va_rf a3] none h h' := by
  refine Ct.of (plainFor_of_name (by decide)) (hz_s1c (hz_s1c (hz_s1c (hz_s1c hz_s1n (hz_cr _)) rfl) rfl) (hz_cr _)) (Nat.le_of_ble_eq_true rfl) (fun G hl hn C0 => ?_)
  have C : Cx G cX0_weigh RX0 "weigh" none rm_X0_weigh none h' := C0
  subst hl
  show aw G 0 [some (va_rf a0), some (.int a1), some (.int a2), some (va_rf a3)] [] h 0 0
  unfold f_X0_weigh at H
  refine aw_aload_n C dX0_weigh_0 rfl ?_
  refine aw_iload_n C dX0_weigh_1 rfl ?_
  refine aw_iload_n C dX0_weigh_2 rfl ?_
  refine aw_aload_n C dX0_weigh_3 rfl ?_
  obtain ⟨v1, e2, H⟩ := hz_bd H
  refine aw_alen C e2 dX0_weigh_4 ?_
  obtain ⟨g5, H⟩ := hz_wn H
  obtain ⟨p3, e4, H⟩ := hz_bd H
  refine aw_V (As := [.int a1, .int a2, .int v1]) (rest := []) C hy_X0_isBetter hv_X0_isBetter wd_538 cl_0.1 g5 (c_X0_isBetter _ _ _ _ _ _ _  e4) (hz_roi _) rfl rfl (Nat.le_of_ble_eq_true rfl) (by decide) (kc := 0) (ks := 0) rfl rfl (by decide) dX0_weigh_5 ?_
  refine aw_if_eq (tgt := 26) C dX0_weigh_8 (by decide) (fun c12 => ?_) (fun c12 => ?_)
  · replace H := hz_it c12 H
    exact aw_loc (hz_sub_n (hz_sub_n (hz_sub_n (hz_sub_n hz_sub_0)))) (k_X0_weigh_26 hn C  _ H)
  · replace H := hz_if c12 H
    refine aw_aload_n C dX0_weigh_11 rfl ?_
    refine aw_iload_n C dX0_weigh_12 rfl ?_
    obtain ⟨h6, e7, H⟩ := hz_bd H
    refine aw_pF (k := 4) C cl_0 (by decide) rfl wd_202 (hz_fiti _) e7 dX0_weigh_13 ?_
    refine aw_aload_n C dX0_weigh_16 rfl ?_
    refine aw_iload_n C dX0_weigh_17 rfl ?_
    obtain ⟨h8, e9, H⟩ := hz_bd H
    refine aw_pF (k := 3) C cl_0 (by decide) rfl wd_201 (hz_fiti _) e9 dX0_weigh_18 ?_
    refine aw_aload_n C dX0_weigh_21 rfl ?_
    refine aw_aload_n C dX0_weigh_22 rfl ?_
    obtain ⟨h10, e11, H⟩ := hz_bd H
    refine aw_pF (k := 2) C cl_0 (by decide) rfl wd_199 (hz_fita _ _) e11 dX0_weigh_23 ?_
    exact aw_loc (hz_sub_n (hz_sub_n (hz_sub_n (hz_sub_n hz_sub_0)))) (k_X0_weigh_26 hn C  _ H)
theorem hy_X1_init : hz_Y yX1_init cX1_init 1 none 0 := ⟨wd_120, wd_61, by decide +kernel, by decide +kernel, by decide +kernel⟩
def f_X1_init (a0 : Option Nat) (h : HP) : Option HP :=
  if a0 = none then none else
  some h
abbrev rm_X1_init : Room := { frames := 1, cells := 0, slots := 0, locals := 40 }
set_option maxRecDepth 100000 in
set_option maxHeartbeats 4000000 in
theorem c_X1_init {l : Launch} (a0 : Option Nat) (h : HP) (h' : HP) (H : f_X1_init a0 h = some h') : Ct l yX1_init cX1_init 1 none rm_X1_init [va_rf a0] none h h' := by
  refine Ct.of (plainFor_of_name (by decide)) (hz_s1c hz_s1n (hz_cr _)) (Nat.le_of_ble_eq_true rfl) (fun G hl hn C0 => ?_)
  have C : Cx G cX1_init RX1 "<init>" none rm_X1_init none h' := C0
  subst hl
  show aw G 0 [some (va_rf a0)] [] h 0 0
  unfold f_X1_init at H
  refine aw_aload_n C dX1_init_0 rfl ?_
  obtain ⟨g1, H⟩ := hz_un H
  refine aw_objI C g1 wd_121 wd_78 wd_79 (Nat.le_of_ble_eq_true rfl) (by decide) dX1_init_1 ?_
  cases H
  exact aw_vret C (Nat.zero_le _) (Nat.zero_le _) dX1_init_4
theorem hy_X1_put : hz_Y yX1_put cX1_put 2 none 1 := ⟨wd_350, wd_61, by decide +kernel, by decide +kernel, by decide +kernel⟩
theorem hv_X1_put : hz_YV yX1_put := ⟨wd_348, wd_349⟩
def f_X1_put_23 (l0 : Option Nat) (l1 : Option Nat) (h : HP) : Option HP :=
  (hz_pF h l0 1 1 (va_rf l1)).bind fun h9 =>
  (hz_gI h9 l0 1 2).bind fun v11 =>
  (hz_pF h9 l0 1 2 (.int (v11 + (1 : Int32)))).bind fun h13 =>
  some h13
def f_X1_put (a0 : Option Nat) (a1 : Option Nat) (h : HP) : Option HP :=
  (hz_gR h a0 1 1).bind fun r1 =>
  if r1 = none then
    (hz_pF h a0 1 0 (va_rf a1)).bind fun h7 =>
    f_X1_put_23  a0 a1 h7
  else
    (hz_gR h a0 1 1).bind fun r3 =>
    (hz_pF h r3 2 4 (va_rf a1)).bind fun h5 =>
    f_X1_put_23  a0 a1 h5
abbrev rm_X1_put : Room := { frames := 0, cells := 0, slots := 0, locals := 0 }
set_option maxRecDepth 100000 in
set_option maxHeartbeats 4000000 in
theorem k_X1_put_23 {G : GX} {h' : HP} (hn : G.2.2.2.2.2.2.2.2.2.2.2.2 = 2) (C : Cx G cX1_put RX1 "put" none rm_X1_put none h') (l0 : Option Nat) (l1 : Option Nat) (h : HP) (H : f_X1_put_23  l0 l1 h = some h') : aw G 23 [some (va_rf l0), some (va_rf l1)] [] h 0 0 := by
  unfold f_X1_put_23 at H
  refine aw_aload_n C dX1_put_23 rfl ?_
  refine aw_aload_n C dX1_put_24 rfl ?_
  obtain ⟨h9, e10, H⟩ := hz_bd H
  refine aw_pF (k := 1) C cl_1 (by decide) rfl wd_124 (hz_fito _ _) e10 dX1_put_25 ?_
  refine aw_aload_n C dX1_put_28 rfl ?_
  refine aw_dup C dX1_put_29 ?_
  obtain ⟨v11, e12, H⟩ := hz_bd H
  refine aw_gI (k := 2) C cl_1 (by decide) wd_125 e12 dX1_put_30 ?_
  refine aw_iconst C dX1_put_33 (v := 1) (by decide) ?_
  refine aw_iadd C dX1_put_34 ?_
  obtain ⟨h13, e14, H⟩ := hz_bd H
  refine aw_pF (k := 2) C cl_1 (by decide) rfl wd_125 (hz_fiti _) e14 dX1_put_35 ?_
  cases H
  exact aw_vret C (Nat.zero_le _) (Nat.zero_le _) dX1_put_38
set_option maxRecDepth 100000 in
set_option maxHeartbeats 4000000 in
theorem c_X1_put {l : Launch} (a0 : Option Nat) (a1 : Option Nat) (h : HP) (h' : HP) (H : f_X1_put a0 a1 h = some h') : Ct l yX1_put cX1_put 2 none rm_X1_put [va_rf a0, va_rf a1] none h h' := by
  refine Ct.of (plainFor_of_name (by decide)) (hz_s1c (hz_s1c hz_s1n (hz_cr _)) (hz_cr _)) (Nat.le_of_ble_eq_true rfl) (fun G hl hn C0 => ?_)
  have C : Cx G cX1_put RX1 "put" none rm_X1_put none h' := C0
  subst hl
  show aw G 0 [some (va_rf a0), some (va_rf a1)] [] h 0 0
  unfold f_X1_put at H
  refine aw_aload_n C dX1_put_0 rfl ?_
  obtain ⟨r1, e2, H⟩ := hz_bd H
  refine aw_gR (k := 1) C cl_1 (by decide) wd_124 e2 dX1_put_1 ?_
  refine aw_ifnonnull (tgt := 15) C dX1_put_4 (by decide) (fun c15 => ?_) (fun c15 => ?_)
  · replace H := hz_if c15 H
    refine aw_aload_n C dX1_put_15 rfl ?_
    obtain ⟨r3, e4, H⟩ := hz_bd H
    refine aw_gR (k := 1) C cl_1 (by decide) wd_124 e4 dX1_put_16 ?_
    refine aw_aload_n C dX1_put_19 rfl ?_
    obtain ⟨h5, e6, H⟩ := hz_bd H
    refine aw_pF (k := 4) C cl_2 (by decide) rfl wd_335 (hz_fito _ _) e6 dX1_put_20 ?_
    exact k_X1_put_23 hn C  _ _ _ H
  · replace H := hz_it c15 H
    refine aw_aload_n C dX1_put_7 rfl ?_
    refine aw_aload_n C dX1_put_8 rfl ?_
    obtain ⟨h7, e8, H⟩ := hz_bd H
    refine aw_pF (k := 0) C cl_1 (by decide) rfl wd_122 (hz_fito _ _) e8 dX1_put_9 ?_
    refine aw_goto (tgt := 23) C dX1_put_12 (by decide) ?_
    exact k_X1_put_23 hn C  _ _ _ H
theorem hy_X1_take : hz_Y yX1_take cX1_take 2 (some (.object "GroupCast$Letter")) 0 := ⟨wd_444, wd_61, by decide +kernel, by decide +kernel, by decide +kernel⟩
theorem hv_X1_take : hz_YV yX1_take := ⟨wd_442, wd_443⟩
def f_X1_take_31 (l0 : Option Nat) (l1 : Option Nat) (h : HP) : Option (Option Nat × HP) :=
  (hz_gI h l0 1 2).bind fun v11 =>
  (hz_pF h l0 1 2 (.int (v11 - (1 : Int32)))).bind fun h13 =>
  some (l1, h13)
def f_X1_take (a0 : Option Nat) (h : HP) : Option (Option Nat × HP) :=
  (hz_gR h a0 1 0).bind fun r1 =>
  if r1 = none then
    some (none, h)
  else
    (hz_gR h r1 2 4).bind fun r3 =>
    (hz_pF h a0 1 0 (va_rf r3)).bind fun h5 =>
    (hz_gR h5 a0 1 0).bind fun r7 =>
    if r7 = none then
      (hz_pF h5 a0 1 1 (va_rf none)).bind fun h9 =>
      f_X1_take_31  a0 r1 h9
    else
      f_X1_take_31  a0 r1 h5
abbrev rm_X1_take : Room := { frames := 0, cells := 0, slots := 0, locals := 0 }
set_option maxRecDepth 100000 in
set_option maxHeartbeats 4000000 in
theorem k_X1_take_31 {G : GX} {v' : Option Nat} {h' : HP} (hn : G.2.2.2.2.2.2.2.2.2.2.2.2 = 2) (C : Cx G cX1_take RX1 "take" (some (.object "GroupCast$Letter")) rm_X1_take (some (va_rf v')) h') (l0 : Option Nat) (l1 : Option Nat) (h : HP) (H : f_X1_take_31  l0 l1 h = some (v', h')) : aw G 31 [some (va_rf l0), some (va_rf l1)] [] h 0 0 := by
  unfold f_X1_take_31 at H
  refine aw_aload_n C dX1_take_31 rfl ?_
  refine aw_dup C dX1_take_32 ?_
  obtain ⟨v11, e12, H⟩ := hz_bd H
  refine aw_gI (k := 2) C cl_1 (by decide) wd_125 e12 dX1_take_33 ?_
  refine aw_iconst C dX1_take_36 (v := 1) (by decide) ?_
  refine aw_isub C dX1_take_37 ?_
  obtain ⟨h13, e14, H⟩ := hz_bd H
  refine aw_pF (k := 2) C cl_1 (by decide) rfl wd_125 (hz_fiti _) e14 dX1_take_38 ?_
  refine aw_aload_n C dX1_take_41 rfl ?_
  cases H
  exact aw_aret C (Or.inl ⟨_, rfl⟩) (Nat.zero_le _) (Nat.zero_le _) dX1_take_42
set_option maxRecDepth 100000 in
set_option maxHeartbeats 4000000 in
theorem c_X1_take {l : Launch} (a0 : Option Nat) (h : HP) (v' : Option Nat) (h' : HP) (H : f_X1_take a0 h = some (v', h')) : Ct l yX1_take cX1_take 2 (some (.object "GroupCast$Letter")) rm_X1_take [va_rf a0] (some (va_rf v')) h h' := by
  refine Ct.of (plainFor_of_name (by decide)) (hz_s1c hz_s1n (hz_cr _)) (Nat.le_of_ble_eq_true rfl) (fun G hl hn C0 => ?_)
  have C : Cx G cX1_take RX1 "take" (some (.object "GroupCast$Letter")) rm_X1_take (some (va_rf v')) h' := C0
  subst hl
  show aw G 0 [some (va_rf a0), none] [] h 0 0
  unfold f_X1_take at H
  refine aw_aload_n C dX1_take_0 rfl ?_
  obtain ⟨r1, e2, H⟩ := hz_bd H
  refine aw_gR (k := 0) C cl_1 (by decide) wd_122 e2 dX1_take_1 ?_
  refine aw_astore_n C dX1_take_4 (by rw [hn]; decide) rfl ?_
  refine aw_aload_n C dX1_take_5 rfl ?_
  refine aw_ifnonnull (tgt := 11) C dX1_take_6 (by decide) (fun c15 => ?_) (fun c15 => ?_)
  · replace H := hz_if c15 H
    refine aw_aload_n C dX1_take_11 rfl ?_
    refine aw_aload_n C dX1_take_12 rfl ?_
    obtain ⟨r3, e4, H⟩ := hz_bd H
    refine aw_gR (k := 4) C cl_2 (by decide) wd_335 e4 dX1_take_13 ?_
    obtain ⟨h5, e6, H⟩ := hz_bd H
    refine aw_pF (k := 0) C cl_1 (by decide) rfl wd_122 (hz_fito _ _) e6 dX1_take_16 ?_
    refine aw_aload_n C dX1_take_19 rfl ?_
    obtain ⟨r7, e8, H⟩ := hz_bd H
    refine aw_gR (k := 0) C cl_1 (by decide) wd_122 e8 dX1_take_20 ?_
    refine aw_ifnonnull (tgt := 31) C dX1_take_23 (by decide) (fun c16 => ?_) (fun c16 => ?_)
    · replace H := hz_if c16 H
      exact k_X1_take_31 hn C  _ _ _ H
    · replace H := hz_it c16 H
      refine aw_aload_n C dX1_take_26 rfl ?_
      refine aw_null C dX1_take_27 ?_
      obtain ⟨h9, e10, H⟩ := hz_bd H
      refine aw_pF (k := 1) C cl_1 (by decide) rfl wd_124 (hz_fito _ _) e10 dX1_take_28 ?_
      exact k_X1_take_31 hn C  _ _ _ H
  · replace H := hz_it c15 H
    refine aw_null C dX1_take_9 ?_
    cases H
    exact aw_aret C (Or.inl ⟨_, rfl⟩) (Nat.zero_le _) (Nat.zero_le _) dX1_take_10
theorem hy_X2_init : hz_Y yX2_init cX2_init 5 none 4 := ⟨wd_324, wd_67, by decide +kernel, by decide +kernel, by decide +kernel⟩
def f_X2_init (a0 : Option Nat) (a1 : Int32) (a2 : Int32) (a3 : Int32) (a4 : Option Nat) (h : HP) : Option HP :=
  if a0 = none then none else
  (hz_pF h a0 2 0 (.int a1)).bind fun h2 =>
  (hz_pF h2 a0 2 1 (.int a2)).bind fun h4 =>
  (hz_pF h4 a0 2 2 (.int a3)).bind fun h6 =>
  (hz_pF h6 a0 2 3 (va_rf a4)).bind fun h8 =>
  some h8
abbrev rm_X2_init : Room := { frames := 1, cells := 0, slots := 0, locals := 40 }
set_option maxRecDepth 100000 in
set_option maxHeartbeats 4000000 in
theorem c_X2_init {l : Launch} (a0 : Option Nat) (a1 : Int32) (a2 : Int32) (a3 : Int32) (a4 : Option Nat) (h : HP) (h' : HP) (H : f_X2_init a0 a1 a2 a3 a4 h = some h') : Ct l yX2_init cX2_init 5 none rm_X2_init [va_rf a0, .int a1, .int a2, .int a3, va_rf a4] none h h' := by
  refine Ct.of (plainFor_of_name (by decide)) (hz_s1c (hz_s1c (hz_s1c (hz_s1c (hz_s1c hz_s1n (hz_cr _)) rfl) rfl) rfl) (hz_cr _)) (Nat.le_of_ble_eq_true rfl) (fun G hl hn C0 => ?_)
  have C : Cx G cX2_init RX2 "<init>" none rm_X2_init none h' := C0
  subst hl
  show aw G 0 [some (va_rf a0), some (.int a1), some (.int a2), some (.int a3), some (va_rf a4)] [] h 0 0
  unfold f_X2_init at H
  refine aw_aload_n C dX2_init_0 rfl ?_
  obtain ⟨g1, H⟩ := hz_un H
  refine aw_objI C g1 wd_325 wd_78 wd_79 (Nat.le_of_ble_eq_true rfl) (by decide) dX2_init_1 ?_
  refine aw_aload_n C dX2_init_4 rfl ?_
  refine aw_iload_n C dX2_init_5 rfl ?_
  obtain ⟨h2, e3, H⟩ := hz_bd H
  refine aw_pFF (k := 0) C cl_2 (by decide) rfl wd_326 (hz_fiti _) e3 dX2_init_6 ?_
  refine aw_aload_n C dX2_init_9 rfl ?_
  refine aw_iload_n C dX2_init_10 rfl ?_
  obtain ⟨h4, e5, H⟩ := hz_bd H
  refine aw_pFF (k := 1) C cl_2 (by decide) rfl wd_329 (hz_fiti _) e5 dX2_init_11 ?_
  refine aw_aload_n C dX2_init_14 rfl ?_
  refine aw_iload_n C dX2_init_15 rfl ?_
  obtain ⟨h6, e7, H⟩ := hz_bd H
  refine aw_pFF (k := 2) C cl_2 (by decide) rfl wd_331 (hz_fiti _) e7 dX2_init_16 ?_
  refine aw_aload_n C dX2_init_19 rfl ?_
  refine aw_aload C dX2_init_20 rfl ?_
  obtain ⟨h8, e9, H⟩ := hz_bd H
  refine aw_pFF (k := 3) C cl_2 (by decide) rfl wd_333 (hz_fita _ _) e9 dX2_init_22 ?_
  cases H
  exact aw_vret C (Nat.zero_le _) (Nat.zero_le _) dX2_init_25
theorem hy_X2_firstAct : hz_Y yX2_firstAct cX2_firstAct 1 (some .int) 0 := ⟨wd_460, wd_67, by decide +kernel, by decide +kernel, by decide +kernel⟩
theorem hv_X2_firstAct : hz_YV yX2_firstAct := ⟨wd_458, wd_459⟩
def f_X2_firstAct_18 (s0 : Int32) (h : HP) : Option (Int32 × HP) :=
  some (s0, h)
def f_X2_firstAct (a0 : Option Nat) (h : HP) : Option (Int32 × HP) :=
  (hz_gR h a0 2 3).bind fun r1 =>
  (hz_aL h r1).bind fun v3 =>
  if v3 ≤ 0 then
    f_X2_firstAct_18  (0 : Int32) h
  else
    (hz_gR h a0 2 3).bind fun r5 =>
    (hz_aI h r5 0 (0 : Int32)).bind fun v7 =>
    f_X2_firstAct_18  v7 h
abbrev rm_X2_firstAct : Room := { frames := 0, cells := 0, slots := 0, locals := 0 }
set_option maxRecDepth 100000 in
set_option maxHeartbeats 4000000 in
theorem k_X2_firstAct_18 {G : GX} {v' : Int32} {h' : HP} (hn : G.2.2.2.2.2.2.2.2.2.2.2.2 = 1) (C : Cx G cX2_firstAct RX2 "firstAct" (some .int) rm_X2_firstAct (some (.int v')) h') (s0 : Int32) (h : HP) (H : f_X2_firstAct_18  s0 h = some (v', h')) : aw G 18 [none] [.int s0] h 0 0 := by
  unfold f_X2_firstAct_18 at H
  cases H
  exact aw_iret C (Nat.zero_le _) (Nat.zero_le _) dX2_firstAct_18
set_option maxRecDepth 100000 in
set_option maxHeartbeats 4000000 in
theorem c_X2_firstAct {l : Launch} (a0 : Option Nat) (h : HP) (v' : Int32) (h' : HP) (H : f_X2_firstAct a0 h = some (v', h')) : Ct l yX2_firstAct cX2_firstAct 1 (some .int) rm_X2_firstAct [va_rf a0] (some (.int v')) h h' := by
  refine Ct.of (plainFor_of_name (by decide)) (hz_s1c hz_s1n (hz_cr _)) (Nat.le_of_ble_eq_true rfl) (fun G hl hn C0 => ?_)
  have C : Cx G cX2_firstAct RX2 "firstAct" (some .int) rm_X2_firstAct (some (.int v')) h' := C0
  subst hl
  show aw G 0 [some (va_rf a0)] [] h 0 0
  unfold f_X2_firstAct at H
  refine aw_aload_n C dX2_firstAct_0 rfl ?_
  obtain ⟨r1, e2, H⟩ := hz_bd H
  refine aw_gR (k := 3) C cl_2 (by decide) wd_333 e2 dX2_firstAct_1 ?_
  obtain ⟨v3, e4, H⟩ := hz_bd H
  refine aw_alen C e4 dX2_firstAct_4 ?_
  refine aw_if_le (tgt := 17) C dX2_firstAct_5 (by decide) (fun c9 => ?_) (fun c9 => ?_)
  · replace H := hz_it c9 H
    refine aw_iconst C dX2_firstAct_17 (v := 0) (by decide) ?_
    exact aw_loc (hz_sub_n hz_sub_0) (k_X2_firstAct_18 hn C  _ _ H)
  · replace H := hz_if c9 H
    refine aw_aload_n C dX2_firstAct_8 rfl ?_
    obtain ⟨r5, e6, H⟩ := hz_bd H
    refine aw_gR (k := 3) C cl_2 (by decide) wd_333 e6 dX2_firstAct_9 ?_
    refine aw_iconst C dX2_firstAct_12 (v := 0) (by decide) ?_
    obtain ⟨v7, e8, H⟩ := hz_bd H
    refine aw_iald C e8 dX2_firstAct_13 ?_
    refine aw_goto (tgt := 18) C dX2_firstAct_14 (by decide) ?_
    exact aw_loc (hz_sub_n hz_sub_0) (k_X2_firstAct_18 hn C  _ _ H)
theorem hy_X2_tell : hz_Y yX2_tell cX2_tell 2 (some .int) 1 := ⟨wd_644, wd_67, by decide +kernel, by decide +kernel, by decide +kernel⟩
theorem hv_X2_tell : hz_YV yX2_tell := ⟨wd_642, wd_643⟩
def f_X2_tell (a0 : Option Nat) (a1 : Int32) (h : HP) : Option (Int32 × HP) :=
  if a1 = 0 then
    (hz_gI h a0 2 0).bind fun v1 =>
    some (v1, h)
  else
  if a1 = 1 then
    (hz_gI h a0 2 1).bind fun v3 =>
    some (v3, h)
  else
  if a1 = 2 then
    (hz_gI h a0 2 2).bind fun v5 =>
    some (v5, h)
  else
  if a1 = 3 then
    (hz_gR h a0 2 3).bind fun r7 =>
    (hz_aL h r7).bind fun v9 =>
    some (v9, h)
  else
    some ((-1 : Int32), h)
abbrev rm_X2_tell : Room := { frames := 0, cells := 0, slots := 0, locals := 0 }
set_option maxRecDepth 100000 in
set_option maxHeartbeats 4000000 in
theorem c_X2_tell {l : Launch} (a0 : Option Nat) (a1 : Int32) (h : HP) (v' : Int32) (h' : HP) (H : f_X2_tell a0 a1 h = some (v', h')) : Ct l yX2_tell cX2_tell 2 (some .int) rm_X2_tell [va_rf a0, .int a1] (some (.int v')) h h' := by
  refine Ct.of (plainFor_of_name (by decide)) (hz_s1c (hz_s1c hz_s1n rfl) (hz_cr _)) (Nat.le_of_ble_eq_true rfl) (fun G hl hn C0 => ?_)
  have C : Cx G cX2_tell RX2 "tell" (some .int) rm_X2_tell (some (.int v')) h' := C0
  subst hl
  show aw G 0 [some (va_rf a0), some (.int a1)] [] h 0 0
  unfold f_X2_tell at H
  refine aw_iload_n C dX2_tell_0 rfl ?_
  by_cases c11 : a1 = 0
  · replace H := hz_it c11 H
    refine aw_tabI (a := 0) (off := 31) (tgt := 32) C dX2_tell_1 (by rw [c11]; rfl) (by decide) (by decide) rfl (by decide) ?_
    refine aw_aload_n C dX2_tell_32 rfl ?_
    obtain ⟨v1, e2, H⟩ := hz_bd H
    refine aw_gI (k := 0) C cl_2 (by decide) wd_326 e2 dX2_tell_33 ?_
    cases H
    exact aw_iret C (Nat.zero_le _) (Nat.zero_le _) dX2_tell_36
  replace H := hz_if c11 H
  by_cases c12 : a1 = 1
  · replace H := hz_it c12 H
    refine aw_tabI (a := 1) (off := 36) (tgt := 37) C dX2_tell_1 (by rw [c12]; rfl) (by decide) (by decide) rfl (by decide) ?_
    refine aw_aload_n C dX2_tell_37 rfl ?_
    obtain ⟨v3, e4, H⟩ := hz_bd H
    refine aw_gI (k := 1) C cl_2 (by decide) wd_329 e4 dX2_tell_38 ?_
    cases H
    exact aw_iret C (Nat.zero_le _) (Nat.zero_le _) dX2_tell_41
  replace H := hz_if c12 H
  by_cases c13 : a1 = 2
  · replace H := hz_it c13 H
    refine aw_tabI (a := 2) (off := 41) (tgt := 42) C dX2_tell_1 (by rw [c13]; rfl) (by decide) (by decide) rfl (by decide) ?_
    refine aw_aload_n C dX2_tell_42 rfl ?_
    obtain ⟨v5, e6, H⟩ := hz_bd H
    refine aw_gI (k := 2) C cl_2 (by decide) wd_331 e6 dX2_tell_43 ?_
    cases H
    exact aw_iret C (Nat.zero_le _) (Nat.zero_le _) dX2_tell_46
  replace H := hz_if c13 H
  by_cases c14 : a1 = 3
  · replace H := hz_it c14 H
    refine aw_tabI (a := 3) (off := 46) (tgt := 47) C dX2_tell_1 (by rw [c14]; rfl) (by decide) (by decide) rfl (by decide) ?_
    refine aw_aload_n C dX2_tell_47 rfl ?_
    obtain ⟨r7, e8, H⟩ := hz_bd H
    refine aw_gR (k := 3) C cl_2 (by decide) wd_333 e8 dX2_tell_48 ?_
    obtain ⟨v9, e10, H⟩ := hz_bd H
    refine aw_alen C e10 dX2_tell_51 ?_
    cases H
    exact aw_iret C (Nat.zero_le _) (Nat.zero_le _) dX2_tell_52
  replace H := hz_if c14 H
  refine aw_tabO (tgt := 53) C dX2_tell_1 (by have z0 := lv_neT (a := 0) c11 rfl; have z1 := lv_neT (a := 1) c12 rfl; have z2 := lv_neT (a := 2) c13 rfl; have z3 := lv_neT (a := 3) c14 rfl; omega) (by decide) ?_
  refine aw_iconst C dX2_tell_53 (v := (-1)) (by decide) ?_
  cases H
  exact aw_iret C (Nat.zero_le _) (Nat.zero_le _) dX2_tell_54
theorem hy_X3_init : hz_Y yX3_init cX3_init 1 none 0 := ⟨wd_177, wd_64, by decide +kernel, by decide +kernel, by decide +kernel⟩
def f_X3_init (a0 : Option Nat) (h : HP) : Option HP :=
  if a0 = none then none else
  (hz_nA h 0 20 (20 : Int32)).bind fun h2 =>
  (hz_pF h2 a0 3 0 (va_rf (some (h.1 + 1)))).bind fun h4 =>
  some h4
abbrev rm_X3_init : Room := { frames := 1, cells := 1, slots := 20, locals := 40 }
set_option maxRecDepth 100000 in
set_option maxHeartbeats 4000000 in
theorem c_X3_init {l : Launch} (a0 : Option Nat) (h : HP) (h' : HP) (H : f_X3_init a0 h = some h') : Ct l yX3_init cX3_init 1 none rm_X3_init [va_rf a0] none h h' := by
  refine Ct.of (plainFor_of_name (by decide)) (hz_s1c hz_s1n (hz_cr _)) (Nat.le_of_ble_eq_true rfl) (fun G hl hn C0 => ?_)
  have C : Cx G cX3_init RX3 "<init>" none rm_X3_init none h' := C0
  subst hl
  show aw G 0 [some (va_rf a0)] [] h 0 0
  unfold f_X3_init at H
  obtain ⟨cs, hcs⟩ : ∃ k : Nat, k = 0 := ⟨0, rfl⟩
  obtain ⟨sl, hsl⟩ : ∃ k : Nat, k = 0 := ⟨0, rfl⟩
  suffices hh : aw G 0 [some (va_rf a0)] [] h cs sl by rw [hcs, hsl] at hh; exact hh
  refine aw_aload_n C dX3_init_0 rfl ?_
  obtain ⟨g1, H⟩ := hz_un H
  refine aw_objI C g1 wd_178 wd_78 wd_79 (Nat.le_of_ble_eq_true rfl) (by decide) dX3_init_1 ?_
  refine aw_aload_n C dX3_init_4 rfl ?_
  refine aw_bipush C dX3_init_5 (v := 20) (by decide) ?_
  obtain ⟨h2, e3, H⟩ := hz_bd H
  refine aw_newa (t := 0) (cap := 20) C (by decide) rfl wd_172 e3 (by decide) (by show cs + 1 ≤ 1; omega) (by show sl + 20 ≤ 20; omega) dX3_init_7 ?_
  obtain ⟨h4, e5, H⟩ := hz_bd H
  refine aw_pFF (k := 0) C cl_3 (by decide) rfl wd_179 (hz_fita _ _) e5 dX3_init_9 ?_
  cases H
  exact aw_vret C (by show cs + 1 ≤ 1; omega) (by show sl + 20 ≤ 20; omega) dX3_init_12
theorem hy_X3_add : hz_Y yX3_add cX3_add 1 none 0 := ⟨wd_407, wd_64, by decide +kernel, by decide +kernel, by decide +kernel⟩
theorem hv_X3_add : hz_YV yX3_add := ⟨wd_406, wd_10⟩
def f_X3_add_43 (h : HP) : Option HP :=
  some h
def f_X3_add (a0 : Option Nat) (h : HP) : Option HP :=
  (hz_gI h a0 3 1).bind fun v1 =>
  if v1 < (2 : Int32) then
    f_X3_add_43   h
  else
    (hz_gR h a0 3 0).bind fun r3 =>
    (hz_gI h a0 3 1).bind fun v5 =>
    (hz_aI h r3 0 (v5 - (2 : Int32))).bind fun v7 =>
    (hz_gR h a0 3 0).bind fun r9 =>
    (hz_gI h a0 3 1).bind fun v11 =>
    (hz_aI h r9 0 (v11 - (1 : Int32))).bind fun v13 =>
    (hz_aS h r3 0 (v5 - (2 : Int32)) (v7 + v13)).bind fun h15 =>
    (hz_gI h15 a0 3 1).bind fun v17 =>
    (hz_pF h15 a0 3 1 (.int (v17 - (1 : Int32)))).bind fun h19 =>
    f_X3_add_43   h19
abbrev rm_X3_add : Room := { frames := 0, cells := 0, slots := 0, locals := 0 }
set_option maxRecDepth 100000 in
set_option maxHeartbeats 4000000 in
theorem k_X3_add_43 {G : GX} {h' : HP} (hn : G.2.2.2.2.2.2.2.2.2.2.2.2 = 1) (C : Cx G cX3_add RX3 "add" none rm_X3_add none h') (h : HP) (H : f_X3_add_43   h = some h') : aw G 43 [none] [] h 0 0 := by
  unfold f_X3_add_43 at H
  cases H
  exact aw_vret C (Nat.zero_le _) (Nat.zero_le _) dX3_add_43
set_option maxRecDepth 100000 in
set_option maxHeartbeats 4000000 in
theorem c_X3_add {l : Launch} (a0 : Option Nat) (h : HP) (h' : HP) (H : f_X3_add a0 h = some h') : Ct l yX3_add cX3_add 1 none rm_X3_add [va_rf a0] none h h' := by
  refine Ct.of (plainFor_of_name (by decide)) (hz_s1c hz_s1n (hz_cr _)) (Nat.le_of_ble_eq_true rfl) (fun G hl hn C0 => ?_)
  have C : Cx G cX3_add RX3 "add" none rm_X3_add none h' := C0
  subst hl
  show aw G 0 [some (va_rf a0)] [] h 0 0
  unfold f_X3_add at H
  refine aw_aload_n C dX3_add_0 rfl ?_
  obtain ⟨v1, e2, H⟩ := hz_bd H
  refine aw_gI (k := 1) C cl_3 (by decide) wd_180 e2 dX3_add_1 ?_
  refine aw_iconst C dX3_add_4 (v := 2) (by decide) ?_
  refine aw_icmp_lt (tgt := 43) C dX3_add_5 (by decide) (fun c21 => ?_) (fun c21 => ?_)
  · replace H := hz_it c21 H
    exact aw_loc (hz_sub_n hz_sub_0) (k_X3_add_43 hn C  _ H)
  · replace H := hz_if c21 H
    refine aw_aload_n C dX3_add_8 rfl ?_
    obtain ⟨r3, e4, H⟩ := hz_bd H
    refine aw_gR (k := 0) C cl_3 (by decide) wd_179 e4 dX3_add_9 ?_
    refine aw_aload_n C dX3_add_12 rfl ?_
    obtain ⟨v5, e6, H⟩ := hz_bd H
    refine aw_gI (k := 1) C cl_3 (by decide) wd_180 e6 dX3_add_13 ?_
    refine aw_iconst C dX3_add_16 (v := 2) (by decide) ?_
    refine aw_isub C dX3_add_17 ?_
    refine aw_dup2 C dX3_add_18 ?_
    obtain ⟨v7, e8, H⟩ := hz_bd H
    refine aw_iald C e8 dX3_add_19 ?_
    refine aw_aload_n C dX3_add_20 rfl ?_
    obtain ⟨r9, e10, H⟩ := hz_bd H
    refine aw_gR (k := 0) C cl_3 (by decide) wd_179 e10 dX3_add_21 ?_
    refine aw_aload_n C dX3_add_24 rfl ?_
    obtain ⟨v11, e12, H⟩ := hz_bd H
    refine aw_gI (k := 1) C cl_3 (by decide) wd_180 e12 dX3_add_25 ?_
    refine aw_iconst C dX3_add_28 (v := 1) (by decide) ?_
    refine aw_isub C dX3_add_29 ?_
    obtain ⟨v13, e14, H⟩ := hz_bd H
    refine aw_iald C e14 dX3_add_30 ?_
    refine aw_iadd C dX3_add_31 ?_
    obtain ⟨h15, e16, H⟩ := hz_bd H
    refine aw_iast C e16 dX3_add_32 ?_
    refine aw_aload_n C dX3_add_33 rfl ?_
    refine aw_dup C dX3_add_34 ?_
    obtain ⟨v17, e18, H⟩ := hz_bd H
    refine aw_gI (k := 1) C cl_3 (by decide) wd_180 e18 dX3_add_35 ?_
    refine aw_iconst C dX3_add_38 (v := 1) (by decide) ?_
    refine aw_isub C dX3_add_39 ?_
    obtain ⟨h19, e20, H⟩ := hz_bd H
    refine aw_pF (k := 1) C cl_3 (by decide) rfl wd_180 (hz_fiti _) e20 dX3_add_40 ?_
    exact aw_loc (hz_sub_n hz_sub_0) (k_X3_add_43 hn C  _ H)
theorem hy_X3_multiply : hz_Y yX3_multiply cX3_multiply 1 none 0 := ⟨wd_411, wd_64, by decide +kernel, by decide +kernel, by decide +kernel⟩
theorem hv_X3_multiply : hz_YV yX3_multiply := ⟨wd_410, wd_11⟩
def f_X3_multiply_43 (h : HP) : Option HP :=
  some h
def f_X3_multiply (a0 : Option Nat) (h : HP) : Option HP :=
  (hz_gI h a0 3 1).bind fun v1 =>
  if v1 < (2 : Int32) then
    f_X3_multiply_43   h
  else
    (hz_gR h a0 3 0).bind fun r3 =>
    (hz_gI h a0 3 1).bind fun v5 =>
    (hz_aI h r3 0 (v5 - (2 : Int32))).bind fun v7 =>
    (hz_gR h a0 3 0).bind fun r9 =>
    (hz_gI h a0 3 1).bind fun v11 =>
    (hz_aI h r9 0 (v11 - (1 : Int32))).bind fun v13 =>
    (hz_aS h r3 0 (v5 - (2 : Int32)) (v7 * v13)).bind fun h15 =>
    (hz_gI h15 a0 3 1).bind fun v17 =>
    (hz_pF h15 a0 3 1 (.int (v17 - (1 : Int32)))).bind fun h19 =>
    f_X3_multiply_43   h19
abbrev rm_X3_multiply : Room := { frames := 0, cells := 0, slots := 0, locals := 0 }
set_option maxRecDepth 100000 in
set_option maxHeartbeats 4000000 in
theorem k_X3_multiply_43 {G : GX} {h' : HP} (hn : G.2.2.2.2.2.2.2.2.2.2.2.2 = 1) (C : Cx G cX3_multiply RX3 "multiply" none rm_X3_multiply none h') (h : HP) (H : f_X3_multiply_43   h = some h') : aw G 43 [none] [] h 0 0 := by
  unfold f_X3_multiply_43 at H
  cases H
  exact aw_vret C (Nat.zero_le _) (Nat.zero_le _) dX3_multiply_43
set_option maxRecDepth 100000 in
set_option maxHeartbeats 4000000 in
theorem c_X3_multiply {l : Launch} (a0 : Option Nat) (h : HP) (h' : HP) (H : f_X3_multiply a0 h = some h') : Ct l yX3_multiply cX3_multiply 1 none rm_X3_multiply [va_rf a0] none h h' := by
  refine Ct.of (plainFor_of_name (by decide)) (hz_s1c hz_s1n (hz_cr _)) (Nat.le_of_ble_eq_true rfl) (fun G hl hn C0 => ?_)
  have C : Cx G cX3_multiply RX3 "multiply" none rm_X3_multiply none h' := C0
  subst hl
  show aw G 0 [some (va_rf a0)] [] h 0 0
  unfold f_X3_multiply at H
  refine aw_aload_n C dX3_multiply_0 rfl ?_
  obtain ⟨v1, e2, H⟩ := hz_bd H
  refine aw_gI (k := 1) C cl_3 (by decide) wd_180 e2 dX3_multiply_1 ?_
  refine aw_iconst C dX3_multiply_4 (v := 2) (by decide) ?_
  refine aw_icmp_lt (tgt := 43) C dX3_multiply_5 (by decide) (fun c21 => ?_) (fun c21 => ?_)
  · replace H := hz_it c21 H
    exact aw_loc (hz_sub_n hz_sub_0) (k_X3_multiply_43 hn C  _ H)
  · replace H := hz_if c21 H
    refine aw_aload_n C dX3_multiply_8 rfl ?_
    obtain ⟨r3, e4, H⟩ := hz_bd H
    refine aw_gR (k := 0) C cl_3 (by decide) wd_179 e4 dX3_multiply_9 ?_
    refine aw_aload_n C dX3_multiply_12 rfl ?_
    obtain ⟨v5, e6, H⟩ := hz_bd H
    refine aw_gI (k := 1) C cl_3 (by decide) wd_180 e6 dX3_multiply_13 ?_
    refine aw_iconst C dX3_multiply_16 (v := 2) (by decide) ?_
    refine aw_isub C dX3_multiply_17 ?_
    refine aw_dup2 C dX3_multiply_18 ?_
    obtain ⟨v7, e8, H⟩ := hz_bd H
    refine aw_iald C e8 dX3_multiply_19 ?_
    refine aw_aload_n C dX3_multiply_20 rfl ?_
    obtain ⟨r9, e10, H⟩ := hz_bd H
    refine aw_gR (k := 0) C cl_3 (by decide) wd_179 e10 dX3_multiply_21 ?_
    refine aw_aload_n C dX3_multiply_24 rfl ?_
    obtain ⟨v11, e12, H⟩ := hz_bd H
    refine aw_gI (k := 1) C cl_3 (by decide) wd_180 e12 dX3_multiply_25 ?_
    refine aw_iconst C dX3_multiply_28 (v := 1) (by decide) ?_
    refine aw_isub C dX3_multiply_29 ?_
    obtain ⟨v13, e14, H⟩ := hz_bd H
    refine aw_iald C e14 dX3_multiply_30 ?_
    refine aw_imul C dX3_multiply_31 ?_
    obtain ⟨h15, e16, H⟩ := hz_bd H
    refine aw_iast C e16 dX3_multiply_32 ?_
    refine aw_aload_n C dX3_multiply_33 rfl ?_
    refine aw_dup C dX3_multiply_34 ?_
    obtain ⟨v17, e18, H⟩ := hz_bd H
    refine aw_gI (k := 1) C cl_3 (by decide) wd_180 e18 dX3_multiply_35 ?_
    refine aw_iconst C dX3_multiply_38 (v := 1) (by decide) ?_
    refine aw_isub C dX3_multiply_39 ?_
    obtain ⟨h19, e20, H⟩ := hz_bd H
    refine aw_pF (k := 1) C cl_3 (by decide) rfl wd_180 (hz_fiti _) e20 dX3_multiply_40 ?_
    exact aw_loc (hz_sub_n hz_sub_0) (k_X3_multiply_43 hn C  _ H)
theorem hy_X3_duplicate : hz_Y yX3_duplicate cX3_duplicate 1 none 0 := ⟨wd_415, wd_64, by decide +kernel, by decide +kernel, by decide +kernel⟩
theorem hv_X3_duplicate : hz_YV yX3_duplicate := ⟨wd_414, wd_12⟩
def f_X3_duplicate_47 (h : HP) : Option HP :=
  some h
def f_X3_duplicate (a0 : Option Nat) (h : HP) : Option HP :=
  (hz_gI h a0 3 1).bind fun v1 =>
  if v1 < (1 : Int32) then
    f_X3_duplicate_47   h
  else
    (hz_gI h a0 3 1).bind fun v3 =>
    if (20 : Int32) ≤ v3 then
      f_X3_duplicate_47   h
    else
      (hz_gR h a0 3 0).bind fun r5 =>
      (hz_gI h a0 3 1).bind fun v7 =>
      (hz_gR h a0 3 0).bind fun r9 =>
      (hz_gI h a0 3 1).bind fun v11 =>
      (hz_aI h r9 0 (v11 - (1 : Int32))).bind fun v13 =>
      (hz_aS h r5 0 v7 v13).bind fun h15 =>
      (hz_gI h15 a0 3 1).bind fun v17 =>
      (hz_pF h15 a0 3 1 (.int (v17 + (1 : Int32)))).bind fun h19 =>
      f_X3_duplicate_47   h19
abbrev rm_X3_duplicate : Room := { frames := 0, cells := 0, slots := 0, locals := 0 }
set_option maxRecDepth 100000 in
set_option maxHeartbeats 4000000 in
theorem k_X3_duplicate_47 {G : GX} {h' : HP} (hn : G.2.2.2.2.2.2.2.2.2.2.2.2 = 1) (C : Cx G cX3_duplicate RX3 "duplicate" none rm_X3_duplicate none h') (h : HP) (H : f_X3_duplicate_47   h = some h') : aw G 47 [none] [] h 0 0 := by
  unfold f_X3_duplicate_47 at H
  cases H
  exact aw_vret C (Nat.zero_le _) (Nat.zero_le _) dX3_duplicate_47
set_option maxRecDepth 100000 in
set_option maxHeartbeats 4000000 in
theorem c_X3_duplicate {l : Launch} (a0 : Option Nat) (h : HP) (h' : HP) (H : f_X3_duplicate a0 h = some h') : Ct l yX3_duplicate cX3_duplicate 1 none rm_X3_duplicate [va_rf a0] none h h' := by
  refine Ct.of (plainFor_of_name (by decide)) (hz_s1c hz_s1n (hz_cr _)) (Nat.le_of_ble_eq_true rfl) (fun G hl hn C0 => ?_)
  have C : Cx G cX3_duplicate RX3 "duplicate" none rm_X3_duplicate none h' := C0
  subst hl
  show aw G 0 [some (va_rf a0)] [] h 0 0
  unfold f_X3_duplicate at H
  refine aw_aload_n C dX3_duplicate_0 rfl ?_
  obtain ⟨v1, e2, H⟩ := hz_bd H
  refine aw_gI (k := 1) C cl_3 (by decide) wd_180 e2 dX3_duplicate_1 ?_
  refine aw_iconst C dX3_duplicate_4 (v := 1) (by decide) ?_
  refine aw_icmp_lt (tgt := 47) C dX3_duplicate_5 (by decide) (fun c21 => ?_) (fun c21 => ?_)
  · replace H := hz_it c21 H
    exact aw_loc (hz_sub_n hz_sub_0) (k_X3_duplicate_47 hn C  _ H)
  · replace H := hz_if c21 H
    refine aw_aload_n C dX3_duplicate_8 rfl ?_
    obtain ⟨v3, e4, H⟩ := hz_bd H
    refine aw_gI (k := 1) C cl_3 (by decide) wd_180 e4 dX3_duplicate_9 ?_
    refine aw_bipush C dX3_duplicate_12 (v := 20) (by decide) ?_
    refine aw_icmp_ge (tgt := 47) C dX3_duplicate_14 (by decide) (fun c22 => ?_) (fun c22 => ?_)
    · replace H := hz_it c22 H
      exact aw_loc (hz_sub_n hz_sub_0) (k_X3_duplicate_47 hn C  _ H)
    · replace H := hz_if c22 H
      refine aw_aload_n C dX3_duplicate_17 rfl ?_
      obtain ⟨r5, e6, H⟩ := hz_bd H
      refine aw_gR (k := 0) C cl_3 (by decide) wd_179 e6 dX3_duplicate_18 ?_
      refine aw_aload_n C dX3_duplicate_21 rfl ?_
      obtain ⟨v7, e8, H⟩ := hz_bd H
      refine aw_gI (k := 1) C cl_3 (by decide) wd_180 e8 dX3_duplicate_22 ?_
      refine aw_aload_n C dX3_duplicate_25 rfl ?_
      obtain ⟨r9, e10, H⟩ := hz_bd H
      refine aw_gR (k := 0) C cl_3 (by decide) wd_179 e10 dX3_duplicate_26 ?_
      refine aw_aload_n C dX3_duplicate_29 rfl ?_
      obtain ⟨v11, e12, H⟩ := hz_bd H
      refine aw_gI (k := 1) C cl_3 (by decide) wd_180 e12 dX3_duplicate_30 ?_
      refine aw_iconst C dX3_duplicate_33 (v := 1) (by decide) ?_
      refine aw_isub C dX3_duplicate_34 ?_
      obtain ⟨v13, e14, H⟩ := hz_bd H
      refine aw_iald C e14 dX3_duplicate_35 ?_
      obtain ⟨h15, e16, H⟩ := hz_bd H
      refine aw_iast C e16 dX3_duplicate_36 ?_
      refine aw_aload_n C dX3_duplicate_37 rfl ?_
      refine aw_dup C dX3_duplicate_38 ?_
      obtain ⟨v17, e18, H⟩ := hz_bd H
      refine aw_gI (k := 1) C cl_3 (by decide) wd_180 e18 dX3_duplicate_39 ?_
      refine aw_iconst C dX3_duplicate_42 (v := 1) (by decide) ?_
      refine aw_iadd C dX3_duplicate_43 ?_
      obtain ⟨h19, e20, H⟩ := hz_bd H
      refine aw_pF (k := 1) C cl_3 (by decide) rfl wd_180 (hz_fiti _) e20 dX3_duplicate_44 ?_
      exact aw_loc (hz_sub_n hz_sub_0) (k_X3_duplicate_47 hn C  _ H)
theorem hy_X3_drop : hz_Y yX3_drop cX3_drop 1 none 0 := ⟨wd_419, wd_64, by decide +kernel, by decide +kernel, by decide +kernel⟩
theorem hv_X3_drop : hz_YV yX3_drop := ⟨wd_418, wd_13⟩
def f_X3_drop_18 (h : HP) : Option HP :=
  some h
def f_X3_drop (a0 : Option Nat) (h : HP) : Option HP :=
  (hz_gI h a0 3 1).bind fun v1 =>
  if v1 < (1 : Int32) then
    f_X3_drop_18   h
  else
    (hz_gI h a0 3 1).bind fun v3 =>
    (hz_pF h a0 3 1 (.int (v3 - (1 : Int32)))).bind fun h5 =>
    f_X3_drop_18   h5
abbrev rm_X3_drop : Room := { frames := 0, cells := 0, slots := 0, locals := 0 }
set_option maxRecDepth 100000 in
set_option maxHeartbeats 4000000 in
theorem k_X3_drop_18 {G : GX} {h' : HP} (hn : G.2.2.2.2.2.2.2.2.2.2.2.2 = 1) (C : Cx G cX3_drop RX3 "drop" none rm_X3_drop none h') (h : HP) (H : f_X3_drop_18   h = some h') : aw G 18 [none] [] h 0 0 := by
  unfold f_X3_drop_18 at H
  cases H
  exact aw_vret C (Nat.zero_le _) (Nat.zero_le _) dX3_drop_18
set_option maxRecDepth 100000 in
set_option maxHeartbeats 4000000 in
theorem c_X3_drop {l : Launch} (a0 : Option Nat) (h : HP) (h' : HP) (H : f_X3_drop a0 h = some h') : Ct l yX3_drop cX3_drop 1 none rm_X3_drop [va_rf a0] none h h' := by
  refine Ct.of (plainFor_of_name (by decide)) (hz_s1c hz_s1n (hz_cr _)) (Nat.le_of_ble_eq_true rfl) (fun G hl hn C0 => ?_)
  have C : Cx G cX3_drop RX3 "drop" none rm_X3_drop none h' := C0
  subst hl
  show aw G 0 [some (va_rf a0)] [] h 0 0
  unfold f_X3_drop at H
  refine aw_aload_n C dX3_drop_0 rfl ?_
  obtain ⟨v1, e2, H⟩ := hz_bd H
  refine aw_gI (k := 1) C cl_3 (by decide) wd_180 e2 dX3_drop_1 ?_
  refine aw_iconst C dX3_drop_4 (v := 1) (by decide) ?_
  refine aw_icmp_lt (tgt := 18) C dX3_drop_5 (by decide) (fun c7 => ?_) (fun c7 => ?_)
  · replace H := hz_it c7 H
    exact aw_loc (hz_sub_n hz_sub_0) (k_X3_drop_18 hn C  _ H)
  · replace H := hz_if c7 H
    refine aw_aload_n C dX3_drop_8 rfl ?_
    refine aw_dup C dX3_drop_9 ?_
    obtain ⟨v3, e4, H⟩ := hz_bd H
    refine aw_gI (k := 1) C cl_3 (by decide) wd_180 e4 dX3_drop_10 ?_
    refine aw_iconst C dX3_drop_13 (v := 1) (by decide) ?_
    refine aw_isub C dX3_drop_14 ?_
    obtain ⟨h5, e6, H⟩ := hz_bd H
    refine aw_pF (k := 1) C cl_3 (by decide) rfl wd_180 (hz_fiti _) e6 dX3_drop_15 ?_
    exact aw_loc (hz_sub_n hz_sub_0) (k_X3_drop_18 hn C  _ H)
theorem hy_X3_swap : hz_Y yX3_swap cX3_swap 2 none 0 := ⟨wd_423, wd_64, by decide +kernel, by decide +kernel, by decide +kernel⟩
theorem hv_X3_swap : hz_YV yX3_swap := ⟨wd_422, wd_14⟩
def f_X3_swap_54 (h : HP) : Option HP :=
  some h
def f_X3_swap (a0 : Option Nat) (h : HP) : Option HP :=
  (hz_gI h a0 3 1).bind fun v1 =>
  if v1 < (2 : Int32) then
    f_X3_swap_54   h
  else
    (hz_gR h a0 3 0).bind fun r3 =>
    (hz_gI h a0 3 1).bind fun v5 =>
    (hz_aI h r3 0 (v5 - (1 : Int32))).bind fun v7 =>
    (hz_gR h a0 3 0).bind fun r9 =>
    (hz_gI h a0 3 1).bind fun v11 =>
    (hz_gR h a0 3 0).bind fun r13 =>
    (hz_gI h a0 3 1).bind fun v15 =>
    (hz_aI h r13 0 (v15 - (2 : Int32))).bind fun v17 =>
    (hz_aS h r9 0 (v11 - (1 : Int32)) v17).bind fun h19 =>
    (hz_gR h19 a0 3 0).bind fun r21 =>
    (hz_gI h19 a0 3 1).bind fun v23 =>
    (hz_aS h19 r21 0 (v23 - (2 : Int32)) v7).bind fun h25 =>
    f_X3_swap_54   h25
abbrev rm_X3_swap : Room := { frames := 0, cells := 0, slots := 0, locals := 0 }
set_option maxRecDepth 100000 in
set_option maxHeartbeats 4000000 in
theorem k_X3_swap_54 {G : GX} {h' : HP} (hn : G.2.2.2.2.2.2.2.2.2.2.2.2 = 2) (C : Cx G cX3_swap RX3 "swap" none rm_X3_swap none h') (h : HP) (H : f_X3_swap_54   h = some h') : aw G 54 [none, none] [] h 0 0 := by
  unfold f_X3_swap_54 at H
  cases H
  exact aw_vret C (Nat.zero_le _) (Nat.zero_le _) dX3_swap_54
set_option maxRecDepth 100000 in
set_option maxHeartbeats 4000000 in
theorem c_X3_swap {l : Launch} (a0 : Option Nat) (h : HP) (h' : HP) (H : f_X3_swap a0 h = some h') : Ct l yX3_swap cX3_swap 2 none rm_X3_swap [va_rf a0] none h h' := by
  refine Ct.of (plainFor_of_name (by decide)) (hz_s1c hz_s1n (hz_cr _)) (Nat.le_of_ble_eq_true rfl) (fun G hl hn C0 => ?_)
  have C : Cx G cX3_swap RX3 "swap" none rm_X3_swap none h' := C0
  subst hl
  show aw G 0 [some (va_rf a0), none] [] h 0 0
  unfold f_X3_swap at H
  refine aw_aload_n C dX3_swap_0 rfl ?_
  obtain ⟨v1, e2, H⟩ := hz_bd H
  refine aw_gI (k := 1) C cl_3 (by decide) wd_180 e2 dX3_swap_1 ?_
  refine aw_iconst C dX3_swap_4 (v := 2) (by decide) ?_
  refine aw_icmp_lt (tgt := 54) C dX3_swap_5 (by decide) (fun c27 => ?_) (fun c27 => ?_)
  · replace H := hz_it c27 H
    exact aw_loc (hz_sub_n (hz_sub_n hz_sub_0)) (k_X3_swap_54 hn C  _ H)
  · replace H := hz_if c27 H
    refine aw_aload_n C dX3_swap_8 rfl ?_
    obtain ⟨r3, e4, H⟩ := hz_bd H
    refine aw_gR (k := 0) C cl_3 (by decide) wd_179 e4 dX3_swap_9 ?_
    refine aw_aload_n C dX3_swap_12 rfl ?_
    obtain ⟨v5, e6, H⟩ := hz_bd H
    refine aw_gI (k := 1) C cl_3 (by decide) wd_180 e6 dX3_swap_13 ?_
    refine aw_iconst C dX3_swap_16 (v := 1) (by decide) ?_
    refine aw_isub C dX3_swap_17 ?_
    obtain ⟨v7, e8, H⟩ := hz_bd H
    refine aw_iald C e8 dX3_swap_18 ?_
    refine aw_istore_n C dX3_swap_19 (by rw [hn]; decide) rfl ?_
    refine aw_aload_n C dX3_swap_20 rfl ?_
    obtain ⟨r9, e10, H⟩ := hz_bd H
    refine aw_gR (k := 0) C cl_3 (by decide) wd_179 e10 dX3_swap_21 ?_
    refine aw_aload_n C dX3_swap_24 rfl ?_
    obtain ⟨v11, e12, H⟩ := hz_bd H
    refine aw_gI (k := 1) C cl_3 (by decide) wd_180 e12 dX3_swap_25 ?_
    refine aw_iconst C dX3_swap_28 (v := 1) (by decide) ?_
    refine aw_isub C dX3_swap_29 ?_
    refine aw_aload_n C dX3_swap_30 rfl ?_
    obtain ⟨r13, e14, H⟩ := hz_bd H
    refine aw_gR (k := 0) C cl_3 (by decide) wd_179 e14 dX3_swap_31 ?_
    refine aw_aload_n C dX3_swap_34 rfl ?_
    obtain ⟨v15, e16, H⟩ := hz_bd H
    refine aw_gI (k := 1) C cl_3 (by decide) wd_180 e16 dX3_swap_35 ?_
    refine aw_iconst C dX3_swap_38 (v := 2) (by decide) ?_
    refine aw_isub C dX3_swap_39 ?_
    obtain ⟨v17, e18, H⟩ := hz_bd H
    refine aw_iald C e18 dX3_swap_40 ?_
    obtain ⟨h19, e20, H⟩ := hz_bd H
    refine aw_iast C e20 dX3_swap_41 ?_
    refine aw_aload_n C dX3_swap_42 rfl ?_
    obtain ⟨r21, e22, H⟩ := hz_bd H
    refine aw_gR (k := 0) C cl_3 (by decide) wd_179 e22 dX3_swap_43 ?_
    refine aw_aload_n C dX3_swap_46 rfl ?_
    obtain ⟨v23, e24, H⟩ := hz_bd H
    refine aw_gI (k := 1) C cl_3 (by decide) wd_180 e24 dX3_swap_47 ?_
    refine aw_iconst C dX3_swap_50 (v := 2) (by decide) ?_
    refine aw_isub C dX3_swap_51 ?_
    refine aw_iload_n C dX3_swap_52 rfl ?_
    obtain ⟨h25, e26, H⟩ := hz_bd H
    refine aw_iast C e26 dX3_swap_53 ?_
    exact aw_loc (hz_sub_n (hz_sub_n hz_sub_0)) (k_X3_swap_54 hn C  _ H)
theorem hy_X3_push : hz_Y yX3_push cX3_push 2 none 1 := ⟨wd_427, wd_64, by decide +kernel, by decide +kernel, by decide +kernel⟩
theorem hv_X3_push : hz_YV yX3_push := ⟨wd_426, wd_15⟩
def f_X3_push_29 (h : HP) : Option HP :=
  some h
def f_X3_push (a0 : Option Nat) (a1 : Int32) (h : HP) : Option HP :=
  (hz_gI h a0 3 1).bind fun v1 =>
  if (20 : Int32) ≤ v1 then
    f_X3_push_29   h
  else
    (hz_gR h a0 3 0).bind fun r3 =>
    (hz_gI h a0 3 1).bind fun v5 =>
    (hz_aS h r3 0 v5 a1).bind fun h7 =>
    (hz_gI h7 a0 3 1).bind fun v9 =>
    (hz_pF h7 a0 3 1 (.int (v9 + (1 : Int32)))).bind fun h11 =>
    f_X3_push_29   h11
abbrev rm_X3_push : Room := { frames := 0, cells := 0, slots := 0, locals := 0 }
set_option maxRecDepth 100000 in
set_option maxHeartbeats 4000000 in
theorem k_X3_push_29 {G : GX} {h' : HP} (hn : G.2.2.2.2.2.2.2.2.2.2.2.2 = 2) (C : Cx G cX3_push RX3 "push" none rm_X3_push none h') (h : HP) (H : f_X3_push_29   h = some h') : aw G 29 [none, none] [] h 0 0 := by
  unfold f_X3_push_29 at H
  cases H
  exact aw_vret C (Nat.zero_le _) (Nat.zero_le _) dX3_push_29
set_option maxRecDepth 100000 in
set_option maxHeartbeats 4000000 in
theorem c_X3_push {l : Launch} (a0 : Option Nat) (a1 : Int32) (h : HP) (h' : HP) (H : f_X3_push a0 a1 h = some h') : Ct l yX3_push cX3_push 2 none rm_X3_push [va_rf a0, .int a1] none h h' := by
  refine Ct.of (plainFor_of_name (by decide)) (hz_s1c (hz_s1c hz_s1n rfl) (hz_cr _)) (Nat.le_of_ble_eq_true rfl) (fun G hl hn C0 => ?_)
  have C : Cx G cX3_push RX3 "push" none rm_X3_push none h' := C0
  subst hl
  show aw G 0 [some (va_rf a0), some (.int a1)] [] h 0 0
  unfold f_X3_push at H
  refine aw_aload_n C dX3_push_0 rfl ?_
  obtain ⟨v1, e2, H⟩ := hz_bd H
  refine aw_gI (k := 1) C cl_3 (by decide) wd_180 e2 dX3_push_1 ?_
  refine aw_bipush C dX3_push_4 (v := 20) (by decide) ?_
  refine aw_icmp_ge (tgt := 29) C dX3_push_6 (by decide) (fun c13 => ?_) (fun c13 => ?_)
  · replace H := hz_it c13 H
    exact aw_loc (hz_sub_n (hz_sub_n hz_sub_0)) (k_X3_push_29 hn C  _ H)
  · replace H := hz_if c13 H
    refine aw_aload_n C dX3_push_9 rfl ?_
    obtain ⟨r3, e4, H⟩ := hz_bd H
    refine aw_gR (k := 0) C cl_3 (by decide) wd_179 e4 dX3_push_10 ?_
    refine aw_aload_n C dX3_push_13 rfl ?_
    obtain ⟨v5, e6, H⟩ := hz_bd H
    refine aw_gI (k := 1) C cl_3 (by decide) wd_180 e6 dX3_push_14 ?_
    refine aw_iload_n C dX3_push_17 rfl ?_
    obtain ⟨h7, e8, H⟩ := hz_bd H
    refine aw_iast C e8 dX3_push_18 ?_
    refine aw_aload_n C dX3_push_19 rfl ?_
    refine aw_dup C dX3_push_20 ?_
    obtain ⟨v9, e10, H⟩ := hz_bd H
    refine aw_gI (k := 1) C cl_3 (by decide) wd_180 e10 dX3_push_21 ?_
    refine aw_iconst C dX3_push_24 (v := 1) (by decide) ?_
    refine aw_iadd C dX3_push_25 ?_
    obtain ⟨h11, e12, H⟩ := hz_bd H
    refine aw_pF (k := 1) C cl_3 (by decide) rfl wd_180 (hz_fiti _) e12 dX3_push_26 ?_
    exact aw_loc (hz_sub_n (hz_sub_n hz_sub_0)) (k_X3_push_29 hn C  _ H)
theorem hy_X3_carryOut : hz_Y yX3_carryOut cX3_carryOut 2 none 1 := ⟨wd_403, wd_64, by decide +kernel, by decide +kernel, by decide +kernel⟩
theorem hv_X3_carryOut : hz_YV yX3_carryOut := ⟨wd_401, wd_402⟩
def f_X3_carryOut_79 (h : HP) : Option HP :=
  some h
def f_X3_carryOut (a0 : Option Nat) (a1 : Int32) (h : HP) : Option HP :=
  if a1 = 1 then
    if hz_ob h a0 3 = true then
    (f_X3_add a0 h).bind fun p1 =>
    f_X3_carryOut_79   p1
    else none
  else
  if a1 = 2 then
    if hz_ob h a0 3 = true then
    (f_X3_multiply a0 h).bind fun p4 =>
    f_X3_carryOut_79   p4
    else none
  else
  if a1 = 3 then
    if hz_ob h a0 3 = true then
    (f_X3_duplicate a0 h).bind fun p7 =>
    f_X3_carryOut_79   p7
    else none
  else
  if a1 = 4 then
    if hz_ob h a0 3 = true then
    (f_X3_drop a0 h).bind fun p10 =>
    f_X3_carryOut_79   p10
    else none
  else
  if a1 = 5 then
    if hz_ob h a0 3 = true then
    (f_X3_swap a0 h).bind fun p13 =>
    f_X3_carryOut_79   p13
    else none
  else
    if hz_ob h a0 3 = true then
    (f_X3_push a0 (a1 / (8 : Int32)) h).bind fun p16 =>
    f_X3_carryOut_79   p16
    else none
abbrev rm_X3_carryOut : Room := { frames := 1, cells := 0, slots := 0, locals := 21 }
set_option maxRecDepth 100000 in
set_option maxHeartbeats 4000000 in
theorem k_X3_carryOut_79 {G : GX} {h' : HP} (hn : G.2.2.2.2.2.2.2.2.2.2.2.2 = 2) (C : Cx G cX3_carryOut RX3 "carryOut" none rm_X3_carryOut none h') (h : HP) (H : f_X3_carryOut_79   h = some h') : aw G 79 [none, none] [] h 0 0 := by
  unfold f_X3_carryOut_79 at H
  cases H
  exact aw_vret C (Nat.zero_le _) (Nat.zero_le _) dX3_carryOut_79
set_option maxRecDepth 100000 in
set_option maxHeartbeats 4000000 in
theorem c_X3_carryOut {l : Launch} (a0 : Option Nat) (a1 : Int32) (h : HP) (h' : HP) (H : f_X3_carryOut a0 a1 h = some h') : Ct l yX3_carryOut cX3_carryOut 2 none rm_X3_carryOut [va_rf a0, .int a1] none h h' := by
  refine Ct.of (plainFor_of_name (by decide)) (hz_s1c (hz_s1c hz_s1n rfl) (hz_cr _)) (Nat.le_of_ble_eq_true rfl) (fun G hl hn C0 => ?_)
  have C : Cx G cX3_carryOut RX3 "carryOut" none rm_X3_carryOut none h' := C0
  subst hl
  show aw G 0 [some (va_rf a0), some (.int a1)] [] h 0 0
  unfold f_X3_carryOut at H
  refine aw_iload_n C dX3_carryOut_0 rfl ?_
  by_cases c19 : a1 = 1
  · replace H := hz_it c19 H
    refine aw_tabI (a := 1) (off := 35) (tgt := 36) C dX3_carryOut_1 (by rw [c19]; rfl) (by decide) (by decide) rfl (by decide) ?_
    refine aw_aload_n C dX3_carryOut_36 rfl ?_
    obtain ⟨g3, H⟩ := hz_wn H
    obtain ⟨p1, e2, H⟩ := hz_bd H
    refine aw_V (As := []) (rest := []) C hy_X3_add hv_X3_add wd_404 cl_3.1 g3 (c_X3_add _ _ _  e2) hz_ron rfl rfl (Nat.le_of_ble_eq_true rfl) (by decide) (kc := 0) (ks := 0) rfl rfl (by decide) dX3_carryOut_37 ?_
    refine aw_goto (tgt := 79) C dX3_carryOut_40 (by decide) ?_
    exact aw_loc (hz_sub_n (hz_sub_n hz_sub_0)) (k_X3_carryOut_79 hn C  _ H)
  replace H := hz_if c19 H
  by_cases c20 : a1 = 2
  · replace H := hz_it c20 H
    refine aw_tabI (a := 2) (off := 42) (tgt := 43) C dX3_carryOut_1 (by rw [c20]; rfl) (by decide) (by decide) rfl (by decide) ?_
    refine aw_aload_n C dX3_carryOut_43 rfl ?_
    obtain ⟨g6, H⟩ := hz_wn H
    obtain ⟨p4, e5, H⟩ := hz_bd H
    refine aw_V (As := []) (rest := []) C hy_X3_multiply hv_X3_multiply wd_408 cl_3.1 g6 (c_X3_multiply _ _ _  e5) hz_ron rfl rfl (Nat.le_of_ble_eq_true rfl) (by decide) (kc := 0) (ks := 0) rfl rfl (by decide) dX3_carryOut_44 ?_
    refine aw_goto (tgt := 79) C dX3_carryOut_47 (by decide) ?_
    exact aw_loc (hz_sub_n (hz_sub_n hz_sub_0)) (k_X3_carryOut_79 hn C  _ H)
  replace H := hz_if c20 H
  by_cases c21 : a1 = 3
  · replace H := hz_it c21 H
    refine aw_tabI (a := 3) (off := 49) (tgt := 50) C dX3_carryOut_1 (by rw [c21]; rfl) (by decide) (by decide) rfl (by decide) ?_
    refine aw_aload_n C dX3_carryOut_50 rfl ?_
    obtain ⟨g9, H⟩ := hz_wn H
    obtain ⟨p7, e8, H⟩ := hz_bd H
    refine aw_V (As := []) (rest := []) C hy_X3_duplicate hv_X3_duplicate wd_412 cl_3.1 g9 (c_X3_duplicate _ _ _  e8) hz_ron rfl rfl (Nat.le_of_ble_eq_true rfl) (by decide) (kc := 0) (ks := 0) rfl rfl (by decide) dX3_carryOut_51 ?_
    refine aw_goto (tgt := 79) C dX3_carryOut_54 (by decide) ?_
    exact aw_loc (hz_sub_n (hz_sub_n hz_sub_0)) (k_X3_carryOut_79 hn C  _ H)
  replace H := hz_if c21 H
  by_cases c22 : a1 = 4
  · replace H := hz_it c22 H
    refine aw_tabI (a := 4) (off := 56) (tgt := 57) C dX3_carryOut_1 (by rw [c22]; rfl) (by decide) (by decide) rfl (by decide) ?_
    refine aw_aload_n C dX3_carryOut_57 rfl ?_
    obtain ⟨g12, H⟩ := hz_wn H
    obtain ⟨p10, e11, H⟩ := hz_bd H
    refine aw_V (As := []) (rest := []) C hy_X3_drop hv_X3_drop wd_416 cl_3.1 g12 (c_X3_drop _ _ _  e11) hz_ron rfl rfl (Nat.le_of_ble_eq_true rfl) (by decide) (kc := 0) (ks := 0) rfl rfl (by decide) dX3_carryOut_58 ?_
    refine aw_goto (tgt := 79) C dX3_carryOut_61 (by decide) ?_
    exact aw_loc (hz_sub_n (hz_sub_n hz_sub_0)) (k_X3_carryOut_79 hn C  _ H)
  replace H := hz_if c22 H
  by_cases c23 : a1 = 5
  · replace H := hz_it c23 H
    refine aw_tabI (a := 5) (off := 63) (tgt := 64) C dX3_carryOut_1 (by rw [c23]; rfl) (by decide) (by decide) rfl (by decide) ?_
    refine aw_aload_n C dX3_carryOut_64 rfl ?_
    obtain ⟨g15, H⟩ := hz_wn H
    obtain ⟨p13, e14, H⟩ := hz_bd H
    refine aw_V (As := []) (rest := []) C hy_X3_swap hv_X3_swap wd_420 cl_3.1 g15 (c_X3_swap _ _ _  e14) hz_ron rfl rfl (Nat.le_of_ble_eq_true rfl) (by decide) (kc := 0) (ks := 0) rfl rfl (by decide) dX3_carryOut_65 ?_
    refine aw_goto (tgt := 79) C dX3_carryOut_68 (by decide) ?_
    exact aw_loc (hz_sub_n (hz_sub_n hz_sub_0)) (k_X3_carryOut_79 hn C  _ H)
  replace H := hz_if c23 H
  refine aw_tabO (tgt := 71) C dX3_carryOut_1 (by have z0 := lv_neT (a := 1) c19 rfl; have z1 := lv_neT (a := 2) c20 rfl; have z2 := lv_neT (a := 3) c21 rfl; have z3 := lv_neT (a := 4) c22 rfl; have z4 := lv_neT (a := 5) c23 rfl; omega) (by decide) ?_
  refine aw_aload_n C dX3_carryOut_71 rfl ?_
  refine aw_iload_n C dX3_carryOut_72 rfl ?_
  refine aw_bipush C dX3_carryOut_73 (v := 8) (by decide) ?_
  refine aw_idiv C dX3_carryOut_75 (by decide) ?_
  obtain ⟨g18, H⟩ := hz_wn H
  obtain ⟨p16, e17, H⟩ := hz_bd H
  refine aw_V (As := [.int (a1 / (8 : Int32))]) (rest := []) C hy_X3_push hv_X3_push wd_424 cl_3.1 g18 (c_X3_push _ _ _ _  e17) hz_ron rfl rfl (Nat.le_of_ble_eq_true rfl) (by decide) (kc := 0) (ks := 0) rfl rfl (by decide) dX3_carryOut_76 ?_
  exact aw_loc (hz_sub_n (hz_sub_n hz_sub_0)) (k_X3_carryOut_79 hn C  _ H)
theorem hy_X3_fromTop : hz_Y yX3_fromTop cX3_fromTop 2 (some .int) 1 := ⟨wd_632, wd_64, by decide +kernel, by decide +kernel, by decide +kernel⟩
theorem hv_X3_fromTop : hz_YV yX3_fromTop := ⟨wd_630, wd_631⟩
def f_X3_fromTop_29 (s0 : Int32) (h : HP) : Option (Int32 × HP) :=
  some (s0, h)
def f_X3_fromTop_28 (h : HP) : Option (Int32 × HP) :=
  f_X3_fromTop_29  (0 : Int32) h
def f_X3_fromTop (a0 : Option Nat) (a1 : Int32) (h : HP) : Option (Int32 × HP) :=
  if a1 < 0 then
    f_X3_fromTop_28   h
  else
    (hz_gI h a0 3 1).bind fun v1 =>
    if v1 ≤ a1 then
      f_X3_fromTop_28   h
    else
      (hz_gR h a0 3 0).bind fun r3 =>
      (hz_gI h a0 3 1).bind fun v5 =>
      (hz_aI h r3 0 ((v5 - (1 : Int32)) - a1)).bind fun v7 =>
      f_X3_fromTop_29  v7 h
abbrev rm_X3_fromTop : Room := { frames := 0, cells := 0, slots := 0, locals := 0 }
set_option maxRecDepth 100000 in
set_option maxHeartbeats 4000000 in
theorem k_X3_fromTop_29 {G : GX} {v' : Int32} {h' : HP} (hn : G.2.2.2.2.2.2.2.2.2.2.2.2 = 2) (C : Cx G cX3_fromTop RX3 "fromTop" (some .int) rm_X3_fromTop (some (.int v')) h') (s0 : Int32) (h : HP) (H : f_X3_fromTop_29  s0 h = some (v', h')) : aw G 29 [none, none] [.int s0] h 0 0 := by
  unfold f_X3_fromTop_29 at H
  cases H
  exact aw_iret C (Nat.zero_le _) (Nat.zero_le _) dX3_fromTop_29
set_option maxRecDepth 100000 in
set_option maxHeartbeats 4000000 in
theorem k_X3_fromTop_28 {G : GX} {v' : Int32} {h' : HP} (hn : G.2.2.2.2.2.2.2.2.2.2.2.2 = 2) (C : Cx G cX3_fromTop RX3 "fromTop" (some .int) rm_X3_fromTop (some (.int v')) h') (h : HP) (H : f_X3_fromTop_28   h = some (v', h')) : aw G 28 [none, none] [] h 0 0 := by
  unfold f_X3_fromTop_28 at H
  refine aw_iconst C dX3_fromTop_28 (v := 0) (by decide) ?_
  exact k_X3_fromTop_29 hn C  _ _ H
set_option maxRecDepth 100000 in
set_option maxHeartbeats 4000000 in
theorem c_X3_fromTop {l : Launch} (a0 : Option Nat) (a1 : Int32) (h : HP) (v' : Int32) (h' : HP) (H : f_X3_fromTop a0 a1 h = some (v', h')) : Ct l yX3_fromTop cX3_fromTop 2 (some .int) rm_X3_fromTop [va_rf a0, .int a1] (some (.int v')) h h' := by
  refine Ct.of (plainFor_of_name (by decide)) (hz_s1c (hz_s1c hz_s1n rfl) (hz_cr _)) (Nat.le_of_ble_eq_true rfl) (fun G hl hn C0 => ?_)
  have C : Cx G cX3_fromTop RX3 "fromTop" (some .int) rm_X3_fromTop (some (.int v')) h' := C0
  subst hl
  show aw G 0 [some (va_rf a0), some (.int a1)] [] h 0 0
  unfold f_X3_fromTop at H
  refine aw_iload_n C dX3_fromTop_0 rfl ?_
  refine aw_if_lt (tgt := 28) C dX3_fromTop_1 (by decide) (fun c9 => ?_) (fun c9 => ?_)
  · replace H := hz_it c9 H
    exact aw_loc (hz_sub_n (hz_sub_n hz_sub_0)) (k_X3_fromTop_28 hn C  _ H)
  · replace H := hz_if c9 H
    refine aw_iload_n C dX3_fromTop_4 rfl ?_
    refine aw_aload_n C dX3_fromTop_5 rfl ?_
    obtain ⟨v1, e2, H⟩ := hz_bd H
    refine aw_gI (k := 1) C cl_3 (by decide) wd_180 e2 dX3_fromTop_6 ?_
    refine aw_icmp_ge (tgt := 28) C dX3_fromTop_9 (by decide) (fun c10 => ?_) (fun c10 => ?_)
    · replace H := hz_it c10 H
      exact aw_loc (hz_sub_n (hz_sub_n hz_sub_0)) (k_X3_fromTop_28 hn C  _ H)
    · replace H := hz_if c10 H
      refine aw_aload_n C dX3_fromTop_12 rfl ?_
      obtain ⟨r3, e4, H⟩ := hz_bd H
      refine aw_gR (k := 0) C cl_3 (by decide) wd_179 e4 dX3_fromTop_13 ?_
      refine aw_aload_n C dX3_fromTop_16 rfl ?_
      obtain ⟨v5, e6, H⟩ := hz_bd H
      refine aw_gI (k := 1) C cl_3 (by decide) wd_180 e6 dX3_fromTop_17 ?_
      refine aw_iconst C dX3_fromTop_20 (v := 1) (by decide) ?_
      refine aw_isub C dX3_fromTop_21 ?_
      refine aw_iload_n C dX3_fromTop_22 rfl ?_
      refine aw_isub C dX3_fromTop_23 ?_
      obtain ⟨v7, e8, H⟩ := hz_bd H
      refine aw_iald C e8 dX3_fromTop_24 ?_
      refine aw_goto (tgt := 29) C dX3_fromTop_25 (by decide) ?_
      exact aw_loc (hz_sub_n (hz_sub_n hz_sub_0)) (k_X3_fromTop_29 hn C  _ _ H)
theorem hy_X6_init : hz_Y yX6_init cX6_init 1 none 0 := ⟨wd_159, wd_63, by decide +kernel, by decide +kernel, by decide +kernel⟩
def f_X6_init (a0 : Option Nat) (h : HP) : Option HP :=
  if a0 = none then none else
  (hz_nA h 0 60 (60 : Int32)).bind fun h2 =>
  (hz_pF h2 a0 6 0 (va_rf (some (h.1 + 1)))).bind fun h4 =>
  some h4
abbrev rm_X6_init : Room := { frames := 1, cells := 1, slots := 60, locals := 40 }
set_option maxRecDepth 100000 in
set_option maxHeartbeats 4000000 in
theorem c_X6_init {l : Launch} (a0 : Option Nat) (h : HP) (h' : HP) (H : f_X6_init a0 h = some h') : Ct l yX6_init cX6_init 1 none rm_X6_init [va_rf a0] none h h' := by
  refine Ct.of (plainFor_of_name (by decide)) (hz_s1c hz_s1n (hz_cr _)) (Nat.le_of_ble_eq_true rfl) (fun G hl hn C0 => ?_)
  have C : Cx G cX6_init RX6 "<init>" none rm_X6_init none h' := C0
  subst hl
  show aw G 0 [some (va_rf a0)] [] h 0 0
  unfold f_X6_init at H
  obtain ⟨cs, hcs⟩ : ∃ k : Nat, k = 0 := ⟨0, rfl⟩
  obtain ⟨sl, hsl⟩ : ∃ k : Nat, k = 0 := ⟨0, rfl⟩
  suffices hh : aw G 0 [some (va_rf a0)] [] h cs sl by rw [hcs, hsl] at hh; exact hh
  refine aw_aload_n C dX6_init_0 rfl ?_
  obtain ⟨g1, H⟩ := hz_un H
  refine aw_objI C g1 wd_160 wd_78 wd_79 (Nat.le_of_ble_eq_true rfl) (by decide) dX6_init_1 ?_
  refine aw_aload_n C dX6_init_4 rfl ?_
  refine aw_bipush C dX6_init_5 (v := 60) (by decide) ?_
  obtain ⟨h2, e3, H⟩ := hz_bd H
  refine aw_newa (t := 0) (cap := 60) C (by decide) rfl wd_172 e3 (by decide) (by show cs + 1 ≤ 1; omega) (by show sl + 60 ≤ 60; omega) dX6_init_7 ?_
  obtain ⟨h4, e5, H⟩ := hz_bd H
  refine aw_pFF (k := 0) C cl_6 (by decide) rfl wd_161 (hz_fita _ _) e5 dX6_init_9 ?_
  cases H
  exact aw_vret C (by show cs + 1 ≤ 1; omega) (by show sl + 60 ≤ 60; omega) dX6_init_12
theorem hy_X8_has : hz_Y yX8_has cX8_has 2 (some .boolean) 2 := ⟨wd_310, wd_58, by decide +kernel, by decide +kernel, by decide +kernel⟩
def f_X8_has_13 (s0 : Int32) (h : HP) : Option (Int32 × HP) :=
  if s0 &&& 1 = s0 then some (s0, h) else none
def f_X8_has (a0 : Int32) (a1 : Int32) (h : HP) : Option (Int32 × HP) :=
  if (a0 &&& ((1 : Int32) <<< (a1 &&& 31))) = 0 then
    f_X8_has_13  (0 : Int32) h
  else
    f_X8_has_13  (1 : Int32) h
abbrev rm_X8_has : Room := { frames := 0, cells := 0, slots := 0, locals := 0 }
set_option maxRecDepth 100000 in
set_option maxHeartbeats 4000000 in
theorem k_X8_has_13 {G : GX} {v' : Int32} {h' : HP} (hn : G.2.2.2.2.2.2.2.2.2.2.2.2 = 2) (C : Cx G cX8_has RX8 "has" (some .boolean) rm_X8_has (some (.int v')) h') (s0 : Int32) (h : HP) (H : f_X8_has_13  s0 h = some (v', h')) : aw G 13 [none, none] [.int s0] h 0 0 := by
  unfold f_X8_has_13 at H
  obtain ⟨gz, H⟩ := hz_wn H
  cases H
  exact aw_zret C gz (Nat.zero_le _) (Nat.zero_le _) dX8_has_13
set_option maxRecDepth 100000 in
set_option maxHeartbeats 4000000 in
theorem c_X8_has {l : Launch} (a0 : Int32) (a1 : Int32) (h : HP) (v' : Int32) (h' : HP) (H : f_X8_has a0 a1 h = some (v', h')) : Ct l yX8_has cX8_has 2 (some .boolean) rm_X8_has [.int a0, .int a1] (some (.int v')) h h' := by
  refine Ct.of (plainFor_of_name (by decide)) (hz_s1c (hz_s1c hz_s1n rfl) rfl) (Nat.le_of_ble_eq_true rfl) (fun G hl hn C0 => ?_)
  have C : Cx G cX8_has RX8 "has" (some .boolean) rm_X8_has (some (.int v')) h' := C0
  subst hl
  show aw G 0 [some (.int a0), some (.int a1)] [] h 0 0
  unfold f_X8_has at H
  refine aw_iload_n C dX8_has_0 rfl ?_
  refine aw_iconst C dX8_has_1 (v := 1) (by decide) ?_
  refine aw_iload_n C dX8_has_2 rfl ?_
  refine aw_ishl C dX8_has_3 ?_
  refine aw_iand C dX8_has_4 ?_
  refine aw_if_eq (tgt := 12) C dX8_has_5 (by decide) (fun c1 => ?_) (fun c1 => ?_)
  · replace H := hz_it c1 H
    refine aw_iconst C dX8_has_12 (v := 0) (by decide) ?_
    exact aw_loc (hz_sub_n (hz_sub_n hz_sub_0)) (k_X8_has_13 hn C  _ _ H)
  · replace H := hz_if c1 H
    refine aw_iconst C dX8_has_8 (v := 1) (by decide) ?_
    refine aw_goto (tgt := 13) C dX8_has_9 (by decide) ?_
    exact aw_loc (hz_sub_n (hz_sub_n hz_sub_0)) (k_X8_has_13 hn C  _ _ H)
theorem hy_X6_isFull : hz_Y yX6_isFull cX6_isFull 1 (some .boolean) 0 := ⟨wd_354, wd_63, by decide +kernel, by decide +kernel, by decide +kernel⟩
theorem hv_X6_isFull : hz_YV yX6_isFull := ⟨wd_352, wd_353⟩
def f_X6_isFull_14 (s0 : Int32) (h : HP) : Option (Int32 × HP) :=
  if s0 &&& 1 = s0 then some (s0, h) else none
def f_X6_isFull (a0 : Option Nat) (h : HP) : Option (Int32 × HP) :=
  (hz_gI h a0 6 1).bind fun v1 =>
  if v1 < (60 : Int32) then
    f_X6_isFull_14  (0 : Int32) h
  else
    f_X6_isFull_14  (1 : Int32) h
abbrev rm_X6_isFull : Room := { frames := 0, cells := 0, slots := 0, locals := 0 }
set_option maxRecDepth 100000 in
set_option maxHeartbeats 4000000 in
theorem k_X6_isFull_14 {G : GX} {v' : Int32} {h' : HP} (hn : G.2.2.2.2.2.2.2.2.2.2.2.2 = 1) (C : Cx G cX6_isFull RX6 "isFull" (some .boolean) rm_X6_isFull (some (.int v')) h') (s0 : Int32) (h : HP) (H : f_X6_isFull_14  s0 h = some (v', h')) : aw G 14 [none] [.int s0] h 0 0 := by
  unfold f_X6_isFull_14 at H
  obtain ⟨gz, H⟩ := hz_wn H
  cases H
  exact aw_zret C gz (Nat.zero_le _) (Nat.zero_le _) dX6_isFull_14
set_option maxRecDepth 100000 in
set_option maxHeartbeats 4000000 in
theorem c_X6_isFull {l : Launch} (a0 : Option Nat) (h : HP) (v' : Int32) (h' : HP) (H : f_X6_isFull a0 h = some (v', h')) : Ct l yX6_isFull cX6_isFull 1 (some .boolean) rm_X6_isFull [va_rf a0] (some (.int v')) h h' := by
  refine Ct.of (plainFor_of_name (by decide)) (hz_s1c hz_s1n (hz_cr _)) (Nat.le_of_ble_eq_true rfl) (fun G hl hn C0 => ?_)
  have C : Cx G cX6_isFull RX6 "isFull" (some .boolean) rm_X6_isFull (some (.int v')) h' := C0
  subst hl
  show aw G 0 [some (va_rf a0)] [] h 0 0
  unfold f_X6_isFull at H
  refine aw_aload_n C dX6_isFull_0 rfl ?_
  obtain ⟨v1, e2, H⟩ := hz_bd H
  refine aw_gI (k := 1) C cl_6 (by decide) wd_164 e2 dX6_isFull_1 ?_
  refine aw_bipush C dX6_isFull_4 (v := 60) (by decide) ?_
  refine aw_icmp_lt (tgt := 13) C dX6_isFull_6 (by decide) (fun c3 => ?_) (fun c3 => ?_)
  · replace H := hz_it c3 H
    refine aw_iconst C dX6_isFull_13 (v := 0) (by decide) ?_
    exact aw_loc (hz_sub_n hz_sub_0) (k_X6_isFull_14 hn C  _ _ H)
  · replace H := hz_if c3 H
    refine aw_iconst C dX6_isFull_9 (v := 1) (by decide) ?_
    refine aw_goto (tgt := 14) C dX6_isFull_10 (by decide) ?_
    exact aw_loc (hz_sub_n hz_sub_0) (k_X6_isFull_14 hn C  _ _ H)
theorem hy_X6_add : hz_Y yX6_add cX6_add 2 none 1 := ⟨wd_362, wd_63, by decide +kernel, by decide +kernel, by decide +kernel⟩
theorem hv_X6_add : hz_YV yX6_add := ⟨wd_360, wd_361⟩
def f_X6_add_27 (h : HP) : Option HP :=
  some h
def f_X6_add (a0 : Option Nat) (a1 : Int32) (h : HP) : Option HP :=
  if hz_ob h a0 6 = true then
  (f_X6_isFull a0 h).bind fun p1 =>
  if p1.1 = 0 then
    (hz_gR p1.2 a0 6 0).bind fun r4 =>
    (hz_gI p1.2 a0 6 1).bind fun v6 =>
    (hz_aS p1.2 r4 0 v6 a1).bind fun h8 =>
    (hz_gI h8 a0 6 1).bind fun v10 =>
    (hz_pF h8 a0 6 1 (.int (v10 + (1 : Int32)))).bind fun h12 =>
    f_X6_add_27   h12
  else
    f_X6_add_27   p1.2
  else none
abbrev rm_X6_add : Room := { frames := 1, cells := 0, slots := 0, locals := 20 }
set_option maxRecDepth 100000 in
set_option maxHeartbeats 4000000 in
theorem k_X6_add_27 {G : GX} {h' : HP} (hn : G.2.2.2.2.2.2.2.2.2.2.2.2 = 2) (C : Cx G cX6_add RX6 "add" none rm_X6_add none h') (h : HP) (H : f_X6_add_27   h = some h') : aw G 27 [none, none] [] h 0 0 := by
  unfold f_X6_add_27 at H
  cases H
  exact aw_vret C (Nat.zero_le _) (Nat.zero_le _) dX6_add_27
set_option maxRecDepth 100000 in
set_option maxHeartbeats 4000000 in
theorem c_X6_add {l : Launch} (a0 : Option Nat) (a1 : Int32) (h : HP) (h' : HP) (H : f_X6_add a0 a1 h = some h') : Ct l yX6_add cX6_add 2 none rm_X6_add [va_rf a0, .int a1] none h h' := by
  refine Ct.of (plainFor_of_name (by decide)) (hz_s1c (hz_s1c hz_s1n rfl) (hz_cr _)) (Nat.le_of_ble_eq_true rfl) (fun G hl hn C0 => ?_)
  have C : Cx G cX6_add RX6 "add" none rm_X6_add none h' := C0
  subst hl
  show aw G 0 [some (va_rf a0), some (.int a1)] [] h 0 0
  unfold f_X6_add at H
  refine aw_aload_n C dX6_add_0 rfl ?_
  obtain ⟨g3, H⟩ := hz_wn H
  obtain ⟨p1, e2, H⟩ := hz_bd H
  refine aw_V (As := []) (rest := []) C hy_X6_isFull hv_X6_isFull wd_363 cl_6.1 g3 (c_X6_isFull _ _ _ _  e2) (hz_roi _) rfl rfl (Nat.le_of_ble_eq_true rfl) (by decide) (kc := 0) (ks := 0) rfl rfl (by decide) dX6_add_1 ?_
  refine aw_if_ne (tgt := 27) C dX6_add_4 (by decide) (fun c14 => ?_) (fun c14 => ?_)
  · replace H := hz_if c14 H
    exact aw_loc (hz_sub_n (hz_sub_n hz_sub_0)) (k_X6_add_27 hn C  _ H)
  · replace H := hz_it c14 H
    refine aw_aload_n C dX6_add_7 rfl ?_
    obtain ⟨r4, e5, H⟩ := hz_bd H
    refine aw_gR (k := 0) C cl_6 (by decide) wd_161 e5 dX6_add_8 ?_
    refine aw_aload_n C dX6_add_11 rfl ?_
    obtain ⟨v6, e7, H⟩ := hz_bd H
    refine aw_gI (k := 1) C cl_6 (by decide) wd_164 e7 dX6_add_12 ?_
    refine aw_iload_n C dX6_add_15 rfl ?_
    obtain ⟨h8, e9, H⟩ := hz_bd H
    refine aw_iast C e9 dX6_add_16 ?_
    refine aw_aload_n C dX6_add_17 rfl ?_
    refine aw_dup C dX6_add_18 ?_
    obtain ⟨v10, e11, H⟩ := hz_bd H
    refine aw_gI (k := 1) C cl_6 (by decide) wd_164 e11 dX6_add_19 ?_
    refine aw_iconst C dX6_add_22 (v := 1) (by decide) ?_
    refine aw_iadd C dX6_add_23 ?_
    obtain ⟨h12, e13, H⟩ := hz_bd H
    refine aw_pF (k := 1) C cl_6 (by decide) rfl wd_164 (hz_fiti _) e13 dX6_add_24 ?_
    exact aw_loc (hz_sub_n (hz_sub_n hz_sub_0)) (k_X6_add_27 hn C  _ H)
theorem hy_X8_allAbove : hz_Y yX8_allAbove cX8_allAbove 2 (some .int) 2 := ⟨wd_487, wd_58, by decide +kernel, by decide +kernel, by decide +kernel⟩
def f_X8_allAbove (a0 : Int32) (a1 : Int32) (h : HP) : Option (Int32 × HP) :=
  some ((a0 &&& ((((2 : Int32) <<< (a1 &&& 31)) - (1 : Int32)) ^^^ (-1 : Int32))), h)
abbrev rm_X8_allAbove : Room := { frames := 0, cells := 0, slots := 0, locals := 0 }
set_option maxRecDepth 100000 in
set_option maxHeartbeats 4000000 in
theorem c_X8_allAbove {l : Launch} (a0 : Int32) (a1 : Int32) (h : HP) (v' : Int32) (h' : HP) (H : f_X8_allAbove a0 a1 h = some (v', h')) : Ct l yX8_allAbove cX8_allAbove 2 (some .int) rm_X8_allAbove [.int a0, .int a1] (some (.int v')) h h' := by
  refine Ct.of (plainFor_of_name (by decide)) (hz_s1c (hz_s1c hz_s1n rfl) rfl) (Nat.le_of_ble_eq_true rfl) (fun G hl hn C0 => ?_)
  have C : Cx G cX8_allAbove RX8 "allAbove" (some .int) rm_X8_allAbove (some (.int v')) h' := C0
  subst hl
  show aw G 0 [some (.int a0), some (.int a1)] [] h 0 0
  unfold f_X8_allAbove at H
  refine aw_iload_n C dX8_allAbove_0 rfl ?_
  refine aw_iconst C dX8_allAbove_1 (v := 2) (by decide) ?_
  refine aw_iload_n C dX8_allAbove_2 rfl ?_
  refine aw_ishl C dX8_allAbove_3 ?_
  refine aw_iconst C dX8_allAbove_4 (v := 1) (by decide) ?_
  refine aw_isub C dX8_allAbove_5 ?_
  refine aw_iconst C dX8_allAbove_6 (v := (-1)) (by decide) ?_
  refine aw_ixor C dX8_allAbove_7 ?_
  refine aw_iand C dX8_allAbove_8 ?_
  cases H
  exact aw_iret C (Nat.zero_le _) (Nat.zero_le _) dX8_allAbove_9
theorem hy_X6_copy : hz_Y yX6_copy cX6_copy 1 (some (.array .int)) 0 := ⟨wd_502, wd_63, by decide +kernel, by decide +kernel, by decide +kernel⟩
theorem hv_X6_copy : hz_YV yX6_copy := ⟨wd_500, wd_501⟩
def f_X6_copy (a0 : Option Nat) (h : HP) : Option (Option Nat × HP) :=
  (hz_gR h a0 6 0).bind fun r1 =>
  (hz_gI h a0 6 1).bind fun v3 =>
  (f_J7_copyOf_59c91 r1 v3 h).bind fun p5 =>
  some (p5.1, p5.2)
abbrev rm_X6_copy : Room := { frames := 2, cells := 1, slots := 64, locals := 62 }
set_option maxRecDepth 100000 in
set_option maxHeartbeats 4000000 in
theorem c_X6_copy {l : Launch} (a0 : Option Nat) (h : HP) (v' : Option Nat) (h' : HP) (H : f_X6_copy a0 h = some (v', h')) : Ct l yX6_copy cX6_copy 1 (some (.array .int)) rm_X6_copy [va_rf a0] (some (va_rf v')) h h' := by
  refine Ct.of (plainFor_of_name (by decide)) (hz_s1c hz_s1n (hz_cr _)) (Nat.le_of_ble_eq_true rfl) (fun G hl hn C0 => ?_)
  have C : Cx G cX6_copy RX6 "copy" (some (.array .int)) rm_X6_copy (some (va_rf v')) h' := C0
  subst hl
  show aw G 0 [some (va_rf a0)] [] h 0 0
  unfold f_X6_copy at H
  obtain ⟨cs, hcs⟩ : ∃ k : Nat, k = 0 := ⟨0, rfl⟩
  obtain ⟨sl, hsl⟩ : ∃ k : Nat, k = 0 := ⟨0, rfl⟩
  suffices hh : aw G 0 [some (va_rf a0)] [] h cs sl by rw [hcs, hsl] at hh; exact hh
  refine aw_aload_n C dX6_copy_0 rfl ?_
  obtain ⟨r1, e2, H⟩ := hz_bd H
  refine aw_gR (k := 0) C cl_6 (by decide) wd_161 e2 dX6_copy_1 ?_
  refine aw_aload_n C dX6_copy_4 rfl ?_
  obtain ⟨v3, e4, H⟩ := hz_bd H
  refine aw_gI (k := 1) C cl_6 (by decide) wd_164 e4 dX6_copy_5 ?_
  obtain ⟨p5, e6, H⟩ := hz_bd H
  refine aw_S (As := [va_rf r1, .int v3]) (rest := []) C hy_J7_copyOf_59c91 wd_504 wd_503 (c_J7_copyOf_59c91 _ _ _ _ _  e6) (hz_ror _) rfl rfl (Nat.le_of_ble_eq_true rfl) (by decide) (kc := 1) (ks := 64) rfl rfl ⟨(by show cs + 1 ≤ 1; omega), (by show sl + 64 ≤ 64; omega)⟩ dX6_copy_8 ?_
  cases H
  exact aw_aret C (Or.inr ⟨_, rfl⟩) (by show cs + 1 ≤ 1; omega) (by show sl + 64 ≤ 64; omega) dX6_copy_11
theorem hy_X6_become : hz_Y yX6_become cX6_become 2 none 1 := ⟨wd_553, wd_63, by decide +kernel, by decide +kernel, by decide +kernel⟩
theorem hv_X6_become : hz_YV yX6_become := ⟨wd_551, wd_552⟩
def f_X6_become (a0 : Option Nat) (a1 : Option Nat) (h : HP) : Option HP :=
  (hz_aL h a1).bind fun v1 =>
  (f_J9_min_7cf53 v1 (60 : Int32) h).bind fun p3 =>
  (hz_pF p3.2 a0 6 1 (.int p3.1)).bind fun h5 =>
  (hz_gR h5 a0 6 0).bind fun r7 =>
  (hz_gI h5 a0 6 1).bind fun v9 =>
  (hz_cp h5 a1 (0 : Int32) r7 (0 : Int32) v9).bind fun h11 =>
  some h11
abbrev rm_X6_become : Room := { frames := 1, cells := 0, slots := 0, locals := 40 }
set_option maxRecDepth 100000 in
set_option maxHeartbeats 4000000 in
theorem c_X6_become {l : Launch} (a0 : Option Nat) (a1 : Option Nat) (h : HP) (h' : HP) (H : f_X6_become a0 a1 h = some h') : Ct l yX6_become cX6_become 2 none rm_X6_become [va_rf a0, va_rf a1] none h h' := by
  refine Ct.of (plainFor_of_name (by decide)) (hz_s1c (hz_s1c hz_s1n (hz_cr _)) (hz_cr _)) (Nat.le_of_ble_eq_true rfl) (fun G hl hn C0 => ?_)
  have C : Cx G cX6_become RX6 "become" none rm_X6_become none h' := C0
  subst hl
  show aw G 0 [some (va_rf a0), some (va_rf a1)] [] h 0 0
  unfold f_X6_become at H
  refine aw_aload_n C dX6_become_0 rfl ?_
  refine aw_aload_n C dX6_become_1 rfl ?_
  obtain ⟨v1, e2, H⟩ := hz_bd H
  refine aw_alen C e2 dX6_become_2 ?_
  refine aw_bipush C dX6_become_3 (v := 60) (by decide) ?_
  obtain ⟨p3, e4, H⟩ := hz_bd H
  refine aw_S (As := [.int v1, .int (60 : Int32)]) (rest := [va_rf a0]) C hy_J9_min_7cf53 wd_398 wd_554 (c_J9_min_7cf53 _ _ _ _ _  e4) (hz_roi _) rfl rfl (Nat.le_of_ble_eq_true rfl) (by decide) (kc := 0) (ks := 0) rfl rfl (by decide) dX6_become_5 ?_
  obtain ⟨h5, e6, H⟩ := hz_bd H
  refine aw_pF (k := 1) C cl_6 (by decide) rfl wd_164 (hz_fiti _) e6 dX6_become_8 ?_
  refine aw_aload_n C dX6_become_11 rfl ?_
  refine aw_iconst C dX6_become_12 (v := 0) (by decide) ?_
  refine aw_aload_n C dX6_become_13 rfl ?_
  obtain ⟨r7, e8, H⟩ := hz_bd H
  refine aw_gR (k := 0) C cl_6 (by decide) wd_161 e8 dX6_become_14 ?_
  refine aw_iconst C dX6_become_17 (v := 0) (by decide) ?_
  refine aw_aload_n C dX6_become_18 rfl ?_
  obtain ⟨v9, e10, H⟩ := hz_bd H
  refine aw_gI (k := 1) C cl_6 (by decide) wd_164 e10 dX6_become_19 ?_
  obtain ⟨h11, e12, H⟩ := hz_bd H
  refine aw_cp C wd_555 wd_516 wd_515 wd_71 e12 ⟨Nat.le_of_ble_eq_true rfl, Nat.le_of_ble_eq_true rfl⟩ dX6_become_22 ?_
  cases H
  exact aw_vret C (Nat.zero_le _) (Nat.zero_le _) dX6_become_25
theorem hy_X7_init : hz_Y yX7_init cX7_init 1 none 0 := ⟨wd_84, wd_59, by decide +kernel, by decide +kernel, by decide +kernel⟩
def f_X7_init (a0 : Option Nat) (h : HP) : Option HP :=
  if a0 = none then none else
  some h
abbrev rm_X7_init : Room := { frames := 1, cells := 0, slots := 0, locals := 40 }
set_option maxRecDepth 100000 in
set_option maxHeartbeats 4000000 in
theorem c_X7_init {l : Launch} (a0 : Option Nat) (h : HP) (h' : HP) (H : f_X7_init a0 h = some h') : Ct l yX7_init cX7_init 1 none rm_X7_init [va_rf a0] none h h' := by
  refine Ct.of (plainFor_of_name (by decide)) (hz_s1c hz_s1n (hz_cr _)) (Nat.le_of_ble_eq_true rfl) (fun G hl hn C0 => ?_)
  have C : Cx G cX7_init RX7 "<init>" none rm_X7_init none h' := C0
  subst hl
  show aw G 0 [some (va_rf a0)] [] h 0 0
  unfold f_X7_init at H
  refine aw_aload_n C dX7_init_0 rfl ?_
  obtain ⟨g1, H⟩ := hz_un H
  refine aw_objI C g1 wd_85 wd_78 wd_79 (Nat.le_of_ble_eq_true rfl) (by decide) dX7_init_1 ?_
  cases H
  exact aw_vret C (Nat.zero_le _) (Nat.zero_le _) dX7_init_4
theorem hy_X7_tell : hz_Y yX7_tell cX7_tell 2 (some .int) 1 := ⟨wd_652, wd_59, by decide +kernel, by decide +kernel, by decide +kernel⟩
theorem hv_X7_tell : hz_YV yX7_tell := ⟨wd_650, wd_651⟩
def f_X7_tell (a0 : Option Nat) (a1 : Int32) (h : HP) : Option (Int32 × HP) :=
  if a1 = 0 then
    (hz_gI h a0 7 0).bind fun v1 =>
    some (v1, h)
  else
  if a1 = 1 then
    (hz_gI h a0 7 1).bind fun v3 =>
    some (v3, h)
  else
  if a1 = 2 then
    (hz_gI h a0 7 2).bind fun v5 =>
    some (v5, h)
  else
  if a1 = 3 then
    (hz_gI h a0 7 3).bind fun v7 =>
    some (v7, h)
  else
  if a1 = 4 then
    (hz_gI h a0 7 4).bind fun v9 =>
    some (v9, h)
  else
    some ((-1 : Int32), h)
abbrev rm_X7_tell : Room := { frames := 0, cells := 0, slots := 0, locals := 0 }
set_option maxRecDepth 100000 in
set_option maxHeartbeats 4000000 in
theorem c_X7_tell {l : Launch} (a0 : Option Nat) (a1 : Int32) (h : HP) (v' : Int32) (h' : HP) (H : f_X7_tell a0 a1 h = some (v', h')) : Ct l yX7_tell cX7_tell 2 (some .int) rm_X7_tell [va_rf a0, .int a1] (some (.int v')) h h' := by
  refine Ct.of (plainFor_of_name (by decide)) (hz_s1c (hz_s1c hz_s1n rfl) (hz_cr _)) (Nat.le_of_ble_eq_true rfl) (fun G hl hn C0 => ?_)
  have C : Cx G cX7_tell RX7 "tell" (some .int) rm_X7_tell (some (.int v')) h' := C0
  subst hl
  show aw G 0 [some (va_rf a0), some (.int a1)] [] h 0 0
  unfold f_X7_tell at H
  refine aw_iload_n C dX7_tell_0 rfl ?_
  by_cases c11 : a1 = 0
  · replace H := hz_it c11 H
    refine aw_tabI (a := 0) (off := 35) (tgt := 36) C dX7_tell_1 (by rw [c11]; rfl) (by decide) (by decide) rfl (by decide) ?_
    refine aw_aload_n C dX7_tell_36 rfl ?_
    obtain ⟨v1, e2, H⟩ := hz_bd H
    refine aw_gI (k := 0) C cl_7 (by decide) wd_86 e2 dX7_tell_37 ?_
    cases H
    exact aw_iret C (Nat.zero_le _) (Nat.zero_le _) dX7_tell_40
  replace H := hz_if c11 H
  by_cases c12 : a1 = 1
  · replace H := hz_it c12 H
    refine aw_tabI (a := 1) (off := 40) (tgt := 41) C dX7_tell_1 (by rw [c12]; rfl) (by decide) (by decide) rfl (by decide) ?_
    refine aw_aload_n C dX7_tell_41 rfl ?_
    obtain ⟨v3, e4, H⟩ := hz_bd H
    refine aw_gI (k := 1) C cl_7 (by decide) wd_88 e4 dX7_tell_42 ?_
    cases H
    exact aw_iret C (Nat.zero_le _) (Nat.zero_le _) dX7_tell_45
  replace H := hz_if c12 H
  by_cases c13 : a1 = 2
  · replace H := hz_it c13 H
    refine aw_tabI (a := 2) (off := 45) (tgt := 46) C dX7_tell_1 (by rw [c13]; rfl) (by decide) (by decide) rfl (by decide) ?_
    refine aw_aload_n C dX7_tell_46 rfl ?_
    obtain ⟨v5, e6, H⟩ := hz_bd H
    refine aw_gI (k := 2) C cl_7 (by decide) wd_92 e6 dX7_tell_47 ?_
    cases H
    exact aw_iret C (Nat.zero_le _) (Nat.zero_le _) dX7_tell_50
  replace H := hz_if c13 H
  by_cases c14 : a1 = 3
  · replace H := hz_it c14 H
    refine aw_tabI (a := 3) (off := 50) (tgt := 51) C dX7_tell_1 (by rw [c14]; rfl) (by decide) (by decide) rfl (by decide) ?_
    refine aw_aload_n C dX7_tell_51 rfl ?_
    obtain ⟨v7, e8, H⟩ := hz_bd H
    refine aw_gI (k := 3) C cl_7 (by decide) wd_94 e8 dX7_tell_52 ?_
    cases H
    exact aw_iret C (Nat.zero_le _) (Nat.zero_le _) dX7_tell_55
  replace H := hz_if c14 H
  by_cases c15 : a1 = 4
  · replace H := hz_it c15 H
    refine aw_tabI (a := 4) (off := 55) (tgt := 56) C dX7_tell_1 (by rw [c15]; rfl) (by decide) (by decide) rfl (by decide) ?_
    refine aw_aload_n C dX7_tell_56 rfl ?_
    obtain ⟨v9, e10, H⟩ := hz_bd H
    refine aw_gI (k := 4) C cl_7 (by decide) wd_96 e10 dX7_tell_57 ?_
    cases H
    exact aw_iret C (Nat.zero_le _) (Nat.zero_le _) dX7_tell_60
  replace H := hz_if c15 H
  refine aw_tabO (tgt := 61) C dX7_tell_1 (by have z0 := lv_neT (a := 0) c11 rfl; have z1 := lv_neT (a := 1) c12 rfl; have z2 := lv_neT (a := 2) c13 rfl; have z3 := lv_neT (a := 3) c14 rfl; have z4 := lv_neT (a := 4) c15 rfl; omega) (by decide) ?_
  refine aw_iconst C dX7_tell_61 (v := (-1)) (by decide) ?_
  cases H
  exact aw_iret C (Nat.zero_le _) (Nat.zero_le _) dX7_tell_62
theorem hy_X8_isAct : hz_Y yX8_isAct cX8_isAct 2 (some .boolean) 1 := ⟨wd_291, wd_58, by decide +kernel, by decide +kernel, by decide +kernel⟩
def f_X8_isAct_48 (s0 : Int32) (h : HP) : Option (Int32 × HP) :=
  if s0 &&& 1 = s0 then some (s0, h) else none
def f_X8_isAct_47 (h : HP) : Option (Int32 × HP) :=
  f_X8_isAct_48  (0 : Int32) h
def f_X8_isAct_31 (l0 : Int32) (s0 : Int32) (h : HP) : Option (Int32 × HP) :=
  if s0 = 0 then
    f_X8_isAct_47   h
  else
    if (l0 - l0 / (8 : Int32) * (8 : Int32)) = 0 then
      f_X8_isAct_48  (1 : Int32) h
    else
      f_X8_isAct_47   h
def f_X8_isAct_30 (l0 : Int32) (h : HP) : Option (Int32 × HP) :=
  f_X8_isAct_31  l0 (0 : Int32) h
def f_X8_isAct_12 (l0 : Int32) (h : HP) : Option (Int32 × HP) :=
  if l0 < (-8000 : Int32) then
    f_X8_isAct_30  l0 h
  else
    if (8000 : Int32) < l0 then
      f_X8_isAct_30  l0 h
    else
      f_X8_isAct_31  l0 (1 : Int32) h
def f_X8_isAct (a0 : Int32) (h : HP) : Option (Int32 × HP) :=
  if a0 < (1 : Int32) then
    f_X8_isAct_12  a0 h
  else
    if (5 : Int32) < a0 then
      f_X8_isAct_12  a0 h
    else
      some ((1 : Int32), h)
abbrev rm_X8_isAct : Room := { frames := 0, cells := 0, slots := 0, locals := 0 }
set_option maxRecDepth 100000 in
set_option maxHeartbeats 4000000 in
theorem k_X8_isAct_48 {G : GX} {v' : Int32} {h' : HP} (hn : G.2.2.2.2.2.2.2.2.2.2.2.2 = 2) (C : Cx G cX8_isAct RX8 "isAct" (some .boolean) rm_X8_isAct (some (.int v')) h') (s0 : Int32) (h : HP) (H : f_X8_isAct_48  s0 h = some (v', h')) : aw G 48 [none, none] [.int s0] h 0 0 := by
  unfold f_X8_isAct_48 at H
  obtain ⟨gz, H⟩ := hz_wn H
  cases H
  exact aw_zret C gz (Nat.zero_le _) (Nat.zero_le _) dX8_isAct_48
set_option maxRecDepth 100000 in
set_option maxHeartbeats 4000000 in
theorem k_X8_isAct_47 {G : GX} {v' : Int32} {h' : HP} (hn : G.2.2.2.2.2.2.2.2.2.2.2.2 = 2) (C : Cx G cX8_isAct RX8 "isAct" (some .boolean) rm_X8_isAct (some (.int v')) h') (h : HP) (H : f_X8_isAct_47   h = some (v', h')) : aw G 47 [none, none] [] h 0 0 := by
  unfold f_X8_isAct_47 at H
  refine aw_iconst C dX8_isAct_47 (v := 0) (by decide) ?_
  exact k_X8_isAct_48 hn C  _ _ H
set_option maxRecDepth 100000 in
set_option maxHeartbeats 4000000 in
theorem k_X8_isAct_31 {G : GX} {v' : Int32} {h' : HP} (hn : G.2.2.2.2.2.2.2.2.2.2.2.2 = 2) (C : Cx G cX8_isAct RX8 "isAct" (some .boolean) rm_X8_isAct (some (.int v')) h') (l0 : Int32) (s0 : Int32) (h : HP) (H : f_X8_isAct_31  l0 s0 h = some (v', h')) : aw G 31 [some (.int l0), none] [.int s0] h 0 0 := by
  unfold f_X8_isAct_31 at H
  refine aw_istore_n C dX8_isAct_31 (by rw [hn]; decide) rfl ?_
  refine aw_iload_n C dX8_isAct_32 rfl ?_
  refine aw_if_eq (tgt := 47) C dX8_isAct_33 (by decide) (fun c1 => ?_) (fun c1 => ?_)
  · replace H := hz_it c1 H
    exact aw_loc (hz_sub_n (hz_sub_n hz_sub_0)) (k_X8_isAct_47 hn C  _ H)
  · replace H := hz_if c1 H
    refine aw_iload_n C dX8_isAct_36 rfl ?_
    refine aw_bipush C dX8_isAct_37 (v := 8) (by decide) ?_
    refine aw_irem C dX8_isAct_39 (by decide) ?_
    refine aw_if_ne (tgt := 47) C dX8_isAct_40 (by decide) (fun c2 => ?_) (fun c2 => ?_)
    · replace H := hz_if c2 H
      exact aw_loc (hz_sub_n (hz_sub_n hz_sub_0)) (k_X8_isAct_47 hn C  _ H)
    · replace H := hz_it c2 H
      refine aw_iconst C dX8_isAct_43 (v := 1) (by decide) ?_
      refine aw_goto (tgt := 48) C dX8_isAct_44 (by decide) ?_
      exact aw_loc (hz_sub_n (hz_sub_n hz_sub_0)) (k_X8_isAct_48 hn C  _ _ H)
set_option maxRecDepth 100000 in
set_option maxHeartbeats 4000000 in
theorem k_X8_isAct_30 {G : GX} {v' : Int32} {h' : HP} (hn : G.2.2.2.2.2.2.2.2.2.2.2.2 = 2) (C : Cx G cX8_isAct RX8 "isAct" (some .boolean) rm_X8_isAct (some (.int v')) h') (l0 : Int32) (h : HP) (H : f_X8_isAct_30  l0 h = some (v', h')) : aw G 30 [some (.int l0), none] [] h 0 0 := by
  unfold f_X8_isAct_30 at H
  refine aw_iconst C dX8_isAct_30 (v := 0) (by decide) ?_
  exact k_X8_isAct_31 hn C  _ _ _ H
set_option maxRecDepth 100000 in
set_option maxHeartbeats 4000000 in
theorem k_X8_isAct_12 {G : GX} {v' : Int32} {h' : HP} (hn : G.2.2.2.2.2.2.2.2.2.2.2.2 = 2) (C : Cx G cX8_isAct RX8 "isAct" (some .boolean) rm_X8_isAct (some (.int v')) h') (l0 : Int32) (h : HP) (H : f_X8_isAct_12  l0 h = some (v', h')) : aw G 12 [some (.int l0), none] [] h 0 0 := by
  unfold f_X8_isAct_12 at H
  refine aw_iload_n C dX8_isAct_12 rfl ?_
  refine aw_sipush C dX8_isAct_13 (v := (-8000)) (by decide) ?_
  refine aw_icmp_lt (tgt := 30) C dX8_isAct_16 (by decide) (fun c3 => ?_) (fun c3 => ?_)
  · replace H := hz_it c3 H
    exact k_X8_isAct_30 hn C  _ _ H
  · replace H := hz_if c3 H
    refine aw_iload_n C dX8_isAct_19 rfl ?_
    refine aw_sipush C dX8_isAct_20 (v := 8000) (by decide) ?_
    refine aw_icmp_gt (tgt := 30) C dX8_isAct_23 (by decide) (fun c4 => ?_) (fun c4 => ?_)
    · replace H := hz_it c4 H
      exact k_X8_isAct_30 hn C  _ _ H
    · replace H := hz_if c4 H
      refine aw_iconst C dX8_isAct_26 (v := 1) (by decide) ?_
      refine aw_goto (tgt := 31) C dX8_isAct_27 (by decide) ?_
      exact k_X8_isAct_31 hn C  _ _ _ H
set_option maxRecDepth 100000 in
set_option maxHeartbeats 4000000 in
theorem c_X8_isAct {l : Launch} (a0 : Int32) (h : HP) (v' : Int32) (h' : HP) (H : f_X8_isAct a0 h = some (v', h')) : Ct l yX8_isAct cX8_isAct 2 (some .boolean) rm_X8_isAct [.int a0] (some (.int v')) h h' := by
  refine Ct.of (plainFor_of_name (by decide)) (hz_s1c hz_s1n rfl) (Nat.le_of_ble_eq_true rfl) (fun G hl hn C0 => ?_)
  have C : Cx G cX8_isAct RX8 "isAct" (some .boolean) rm_X8_isAct (some (.int v')) h' := C0
  subst hl
  show aw G 0 [some (.int a0), none] [] h 0 0
  unfold f_X8_isAct at H
  refine aw_iload_n C dX8_isAct_0 rfl ?_
  refine aw_iconst C dX8_isAct_1 (v := 1) (by decide) ?_
  refine aw_icmp_lt (tgt := 12) C dX8_isAct_2 (by decide) (fun c5 => ?_) (fun c5 => ?_)
  · replace H := hz_it c5 H
    exact k_X8_isAct_12 hn C  _ _ H
  · replace H := hz_if c5 H
    refine aw_iload_n C dX8_isAct_5 rfl ?_
    refine aw_iconst C dX8_isAct_6 (v := 5) (by decide) ?_
    refine aw_icmp_gt (tgt := 12) C dX8_isAct_7 (by decide) (fun c6 => ?_) (fun c6 => ?_)
    · replace H := hz_it c6 H
      exact k_X8_isAct_12 hn C  _ _ H
    · replace H := hz_if c6 H
      refine aw_iconst C dX8_isAct_10 (v := 1) (by decide) ?_
      cases H
      exact aw_zret C (by decide) (Nat.zero_le _) (Nat.zero_le _) dX8_isAct_11
end
section
theorem hy_X5_between : hz_Y yX5_between cX5_between 4 (some (.object "GroupCast$Channel")) 2 := ⟨wd_319, wd_60, by decide +kernel, by decide +kernel, by decide +kernel⟩
theorem hv_X5_between : hz_YV yX5_between := ⟨wd_317, wd_318⟩
def f_X5_between_51 (s0 : Option Nat) (h : HP) : Option (Option Nat × HP) :=
  some (s0, h)
def f_X5_between_29 (l0 : Option Nat) (l1 : Int32) (l2 : Int32) (s0 : Int32) (h : HP) : Option (Option Nat × HP) :=
  if s0 = 0 then
    f_X5_between_51  none h
  else
    (hz_gR h l0 5 2).bind fun r5 =>
    (hz_gI h l0 5 0).bind fun v7 =>
    (hz_aR h r5 2 ((l1 * v7) + l2)).bind fun r9 =>
    f_X5_between_51  r9 h
def f_X5_between_28 (l0 : Option Nat) (l1 : Int32) (l2 : Int32) (h : HP) : Option (Option Nat × HP) :=
  f_X5_between_29  l0 l1 l2 (0 : Int32) h
def f_X5_between (a0 : Option Nat) (a1 : Int32) (a2 : Int32) (h : HP) : Option (Option Nat × HP) :=
  if a1 < 0 then
    f_X5_between_28  a0 a1 a2 h
  else
    (hz_gI h a0 5 0).bind fun v1 =>
    if v1 ≤ a1 then
      f_X5_between_28  a0 a1 a2 h
    else
      if a2 < 0 then
        f_X5_between_28  a0 a1 a2 h
      else
        (hz_gI h a0 5 0).bind fun v3 =>
        if v3 ≤ a2 then
          f_X5_between_28  a0 a1 a2 h
        else
          f_X5_between_29  a0 a1 a2 (1 : Int32) h
abbrev rm_X5_between : Room := { frames := 0, cells := 0, slots := 0, locals := 0 }
set_option maxRecDepth 100000 in
set_option maxHeartbeats 4000000 in
theorem k_X5_between_51 {G : GX} {v' : Option Nat} {h' : HP} (hn : G.2.2.2.2.2.2.2.2.2.2.2.2 = 4) (C : Cx G cX5_between RX5 "between" (some (.object "GroupCast$Channel")) rm_X5_between (some (va_rf v')) h') (s0 : Option Nat) (h : HP) (H : f_X5_between_51  s0 h = some (v', h')) : aw G 51 [none, none, none, none] [va_rf s0] h 0 0 := by
  unfold f_X5_between_51 at H
  cases H
  exact aw_aret C (Or.inl ⟨_, rfl⟩) (Nat.zero_le _) (Nat.zero_le _) dX5_between_51
set_option maxRecDepth 100000 in
set_option maxHeartbeats 4000000 in
theorem k_X5_between_29 {G : GX} {v' : Option Nat} {h' : HP} (hn : G.2.2.2.2.2.2.2.2.2.2.2.2 = 4) (C : Cx G cX5_between RX5 "between" (some (.object "GroupCast$Channel")) rm_X5_between (some (va_rf v')) h') (l0 : Option Nat) (l1 : Int32) (l2 : Int32) (s0 : Int32) (h : HP) (H : f_X5_between_29  l0 l1 l2 s0 h = some (v', h')) : aw G 29 [some (va_rf l0), some (.int l1), some (.int l2), none] [.int s0] h 0 0 := by
  unfold f_X5_between_29 at H
  refine aw_istore_n C dX5_between_29 (by rw [hn]; decide) rfl ?_
  refine aw_iload_n C dX5_between_30 rfl ?_
  refine aw_if_eq (tgt := 50) C dX5_between_31 (by decide) (fun c11 => ?_) (fun c11 => ?_)
  · replace H := hz_it c11 H
    refine aw_null C dX5_between_50 ?_
    exact aw_loc (hz_sub_n (hz_sub_n (hz_sub_n (hz_sub_n hz_sub_0)))) (k_X5_between_51 hn C  _ _ H)
  · replace H := hz_if c11 H
    refine aw_aload_n C dX5_between_34 rfl ?_
    obtain ⟨r5, e6, H⟩ := hz_bd H
    refine aw_gR (k := 2) C cl_5 (by decide) wd_136 e6 dX5_between_35 ?_
    refine aw_iload_n C dX5_between_38 rfl ?_
    refine aw_aload_n C dX5_between_39 rfl ?_
    obtain ⟨v7, e8, H⟩ := hz_bd H
    refine aw_gI (k := 0) C cl_5 (by decide) wd_134 e8 dX5_between_40 ?_
    refine aw_imul C dX5_between_43 ?_
    refine aw_iload_n C dX5_between_44 rfl ?_
    refine aw_iadd C dX5_between_45 ?_
    obtain ⟨r9, e10, H⟩ := hz_bd H
    refine aw_aald (t := 2) C (by decide) rfl e10 dX5_between_46 ?_
    refine aw_goto (tgt := 51) C dX5_between_47 (by decide) ?_
    exact aw_loc (hz_sub_n (hz_sub_n (hz_sub_n (hz_sub_n hz_sub_0)))) (k_X5_between_51 hn C  _ _ H)
set_option maxRecDepth 100000 in
set_option maxHeartbeats 4000000 in
theorem k_X5_between_28 {G : GX} {v' : Option Nat} {h' : HP} (hn : G.2.2.2.2.2.2.2.2.2.2.2.2 = 4) (C : Cx G cX5_between RX5 "between" (some (.object "GroupCast$Channel")) rm_X5_between (some (va_rf v')) h') (l0 : Option Nat) (l1 : Int32) (l2 : Int32) (h : HP) (H : f_X5_between_28  l0 l1 l2 h = some (v', h')) : aw G 28 [some (va_rf l0), some (.int l1), some (.int l2), none] [] h 0 0 := by
  unfold f_X5_between_28 at H
  refine aw_iconst C dX5_between_28 (v := 0) (by decide) ?_
  exact k_X5_between_29 hn C  _ _ _ _ _ H
set_option maxRecDepth 100000 in
set_option maxHeartbeats 4000000 in
theorem c_X5_between {l : Launch} (a0 : Option Nat) (a1 : Int32) (a2 : Int32) (h : HP) (v' : Option Nat) (h' : HP) (H : f_X5_between a0 a1 a2 h = some (v', h')) : Ct l yX5_between cX5_between 4 (some (.object "GroupCast$Channel")) rm_X5_between [va_rf a0, .int a1, .int a2] (some (va_rf v')) h h' := by
  refine Ct.of (plainFor_of_name (by decide)) (hz_s1c (hz_s1c (hz_s1c hz_s1n rfl) rfl) (hz_cr _)) (Nat.le_of_ble_eq_true rfl) (fun G hl hn C0 => ?_)
  have C : Cx G cX5_between RX5 "between" (some (.object "GroupCast$Channel")) rm_X5_between (some (va_rf v')) h' := C0
  subst hl
  show aw G 0 [some (va_rf a0), some (.int a1), some (.int a2), none] [] h 0 0
  unfold f_X5_between at H
  refine aw_iload_n C dX5_between_0 rfl ?_
  refine aw_if_lt (tgt := 28) C dX5_between_1 (by decide) (fun c12 => ?_) (fun c12 => ?_)
  · replace H := hz_it c12 H
    exact k_X5_between_28 hn C  _ _ _ _ H
  · replace H := hz_if c12 H
    refine aw_iload_n C dX5_between_4 rfl ?_
    refine aw_aload_n C dX5_between_5 rfl ?_
    obtain ⟨v1, e2, H⟩ := hz_bd H
    refine aw_gI (k := 0) C cl_5 (by decide) wd_134 e2 dX5_between_6 ?_
    refine aw_icmp_ge (tgt := 28) C dX5_between_9 (by decide) (fun c13 => ?_) (fun c13 => ?_)
    · replace H := hz_it c13 H
      exact k_X5_between_28 hn C  _ _ _ _ H
    · replace H := hz_if c13 H
      refine aw_iload_n C dX5_between_12 rfl ?_
      refine aw_if_lt (tgt := 28) C dX5_between_13 (by decide) (fun c14 => ?_) (fun c14 => ?_)
      · replace H := hz_it c14 H
        exact k_X5_between_28 hn C  _ _ _ _ H
      · replace H := hz_if c14 H
        refine aw_iload_n C dX5_between_16 rfl ?_
        refine aw_aload_n C dX5_between_17 rfl ?_
        obtain ⟨v3, e4, H⟩ := hz_bd H
        refine aw_gI (k := 0) C cl_5 (by decide) wd_134 e4 dX5_between_18 ?_
        refine aw_icmp_ge (tgt := 28) C dX5_between_21 (by decide) (fun c15 => ?_) (fun c15 => ?_)
        · replace H := hz_it c15 H
          exact k_X5_between_28 hn C  _ _ _ _ H
        · replace H := hz_if c15 H
          refine aw_iconst C dX5_between_24 (v := 1) (by decide) ?_
          refine aw_goto (tgt := 29) C dX5_between_25 (by decide) ?_
          exact k_X5_between_29 hn C  _ _ _ _ _ H
theorem hy_X5_send : hz_Y yX5_send cX5_send 9 none 6 := ⟨wd_314, wd_60, by decide +kernel, by decide +kernel, by decide +kernel⟩
theorem hv_X5_send : hz_YV yX5_send := ⟨wd_312, wd_313⟩
def f_X5_send_106 (K3 : Option Nat → Int32 → Int32 → Int32 → Int32 → Int32 → Option Nat → Int32 → HP → Option HP) (l0 : Option Nat) (l1 : Int32) (l2 : Int32) (l3 : Int32) (l4 : Int32) (l5 : Int32) (l6 : Option Nat) (l7 : Int32) (h : HP) : Option HP :=
  K3 l0 l1 l2 l3 l4 l5 l6 (l7 + (1 : Int32)) h
def f_X5_send_61 (K3 : Option Nat → Int32 → Int32 → Int32 → Int32 → Int32 → Option Nat → Int32 → HP → Option HP) (l0 : Option Nat) (l1 : Int32) (l2 : Int32) (l3 : Int32) (l4 : Int32) (l5 : Int32) (l6 : Option Nat) (l7 : Int32) (h : HP) : Option HP :=
  (hz_gR h l0 5 1).bind fun r26 =>
  (hz_gI h r26 7 1).bind fun v28 =>
  (hz_pF h r26 7 1 (.int (v28 + (1 : Int32)))).bind fun h30 =>
  f_X5_send_106 K3 l0 l1 l2 l3 l4 l5 l6 l7 h30
def f_X5_send_3 : Nat → Option Nat → Int32 → Int32 → Int32 → Int32 → Int32 → Option Nat → Int32 → HP → Option HP
  | 0, _, _, _, _, _, _, _, _, _ => none
  | n + 1, l0, l1, l2, l3, l4, l5, l6, l7, h =>
    (hz_gI h l0 5 0).bind fun v1 =>
    if v1 ≤ l7 then
      some h
    else
      (f_X8_has l2 l7 h).bind fun p3 =>
      if p3.1 = 0 then
        f_X5_send_106 (f_X5_send_3  n) l0 l1 l2 l3 l4 l5 l6 l7 p3.2
      else
        (hz_gR p3.2 l0 5 1).bind fun r5 =>
        (hz_gI p3.2 r5 7 0).bind fun v7 =>
        (hz_pF p3.2 r5 7 0 (.int (v7 + (1 : Int32)))).bind fun h9 =>
        if hz_ob h9 l0 5 = true then
        (f_X5_between l0 l1 l7 h9).bind fun p11 =>
        if p11.1 = none then
          f_X5_send_61 (f_X5_send_3  n) l0 l1 l2 l3 l4 l5 l6 l7 p11.2
        else
          (hz_gI p11.2 l0 5 3).bind fun v14 =>
          if v14 < (500 : Int32) then
            (some (hz_nO p11.2 2 [.int 0, .int 0, .int 0, .null, .null])).bind fun h16 =>
            (f_X2_init (some (p11.2.1 + 1)) l3 l4 l5 l6 h16).bind fun p17 =>
            if hz_ob p17 p11.1 1 = true then
            (f_X1_put p11.1 (some (p11.2.1 + 1)) p17).bind fun p19 =>
            (hz_gI p19 l0 5 3).bind fun v22 =>
            (hz_pF p19 l0 5 3 (.int (v22 + (1 : Int32)))).bind fun h24 =>
            f_X5_send_106 (f_X5_send_3  n) l0 l1 l2 l3 l4 l5 l6 l7 h24
            else none
          else
            f_X5_send_61 (f_X5_send_3  n) l0 l1 l2 l3 l4 l5 l6 l7 p11.2
        else none
def f_X5_send (a0 : Option Nat) (a1 : Int32) (a2 : Int32) (a3 : Int32) (a4 : Int32) (a5 : Int32) (a6 : Option Nat) (h : HP) : Option HP :=
  f_X5_send_3  8 a0 a1 a2 a3 a4 a5 a6 (0 : Int32) h
abbrev rm_X5_send : Room := { frames := 2, cells := 8, slots := 40, locals := 64 }
set_option maxRecDepth 100000 in
set_option maxHeartbeats 4000000 in
theorem k_X5_send_106 {bc bs : Nat} {G : GX} {h' : HP} (hn : G.2.2.2.2.2.2.2.2.2.2.2.2 = 9) (C : Cx G cX5_send RX5 "send" none rm_X5_send none h') {K3 : Option Nat → Int32 → Int32 → Int32 → Int32 → Int32 → Option Nat → Int32 → HP → Option HP} (hK3 : ∀ (cs sl : Nat) (l0 : Option Nat) (l1 : Int32) (l2 : Int32) (l3 : Int32) (l4 : Int32) (l5 : Int32) (l6 : Option Nat) (l7 : Int32) (h : HP), K3 l0 l1 l2 l3 l4 l5 l6 l7 h = some h' → cs + bc ≤ 8 → sl + bs ≤ 40 → aw G 3 [some (va_rf l0), some (.int l1), some (.int l2), some (.int l3), some (.int l4), some (.int l5), some (va_rf l6), some (.int l7), none] [] h cs sl) {cs sl : Nat} (l0 : Option Nat) (l1 : Int32) (l2 : Int32) (l3 : Int32) (l4 : Int32) (l5 : Int32) (l6 : Option Nat) (l7 : Int32) (h : HP) (H : f_X5_send_106 K3 l0 l1 l2 l3 l4 l5 l6 l7 h = some h') (hcs : cs + (0 + bc) ≤ 8) (hsl : sl + (0 + bs) ≤ 40) (hec : 0 ≤ bc) (hes : 0 ≤ bs) : aw G 106 [some (va_rf l0), some (.int l1), some (.int l2), some (.int l3), some (.int l4), some (.int l5), some (va_rf l6), some (.int l7), none] [] h cs sl := by
  unfold f_X5_send_106 at H
  refine aw_iinc (d := 1) C dX5_send_106 (by rw [hn]; decide) rfl (by decide) rfl ?_
  refine aw_goto (tgt := 3) C dX5_send_109 (by decide) ?_
  exact hK3 (cs) (sl) _ _ _ _ _ _ _ _ _ H (by omega) (by omega)
set_option maxRecDepth 100000 in
set_option maxHeartbeats 4000000 in
theorem k_X5_send_61 {bc bs : Nat} {G : GX} {h' : HP} (hn : G.2.2.2.2.2.2.2.2.2.2.2.2 = 9) (C : Cx G cX5_send RX5 "send" none rm_X5_send none h') {K3 : Option Nat → Int32 → Int32 → Int32 → Int32 → Int32 → Option Nat → Int32 → HP → Option HP} (hK3 : ∀ (cs sl : Nat) (l0 : Option Nat) (l1 : Int32) (l2 : Int32) (l3 : Int32) (l4 : Int32) (l5 : Int32) (l6 : Option Nat) (l7 : Int32) (h : HP), K3 l0 l1 l2 l3 l4 l5 l6 l7 h = some h' → cs + bc ≤ 8 → sl + bs ≤ 40 → aw G 3 [some (va_rf l0), some (.int l1), some (.int l2), some (.int l3), some (.int l4), some (.int l5), some (va_rf l6), some (.int l7), none] [] h cs sl) {cs sl : Nat} (l0 : Option Nat) (l1 : Int32) (l2 : Int32) (l3 : Int32) (l4 : Int32) (l5 : Int32) (l6 : Option Nat) (l7 : Int32) (h : HP) (H : f_X5_send_61 K3 l0 l1 l2 l3 l4 l5 l6 l7 h = some h') (hcs : cs + (0 + bc) ≤ 8) (hsl : sl + (0 + bs) ≤ 40) (hec : 0 ≤ bc) (hes : 0 ≤ bs) : aw G 61 [some (va_rf l0), some (.int l1), some (.int l2), some (.int l3), some (.int l4), some (.int l5), some (va_rf l6), some (.int l7), none] [] h cs sl := by
  unfold f_X5_send_61 at H
  refine aw_aload_n C dX5_send_61 rfl ?_
  obtain ⟨r26, e27, H⟩ := hz_bd H
  refine aw_gR (k := 1) C cl_5 (by decide) wd_135 e27 dX5_send_62 ?_
  refine aw_dup C dX5_send_65 ?_
  obtain ⟨v28, e29, H⟩ := hz_bd H
  refine aw_gI (k := 1) C cl_7 (by decide) wd_90 e29 dX5_send_66 ?_
  refine aw_iconst C dX5_send_69 (v := 1) (by decide) ?_
  refine aw_iadd C dX5_send_70 ?_
  obtain ⟨h30, e31, H⟩ := hz_bd H
  refine aw_pF (k := 1) C cl_7 (by decide) rfl wd_90 (hz_fiti _) e31 dX5_send_71 ?_
  refine aw_goto (tgt := 106) C dX5_send_74 (by decide) ?_
  exact k_X5_send_106 (cs := cs) (sl := sl) hn C hK3 _ _ _ _ _ _ _ _ _ H (by omega) (by omega) (by omega) (by omega)
set_option maxRecDepth 100000 in
set_option maxHeartbeats 4000000 in
theorem k_X5_send_3 {G : GX} {h' : HP} (hn : G.2.2.2.2.2.2.2.2.2.2.2.2 = 9) (C : Cx G cX5_send RX5 "send" none rm_X5_send none h') : ∀ (n : Nat) {cs sl : Nat} (l0 : Option Nat) (l1 : Int32) (l2 : Int32) (l3 : Int32) (l4 : Int32) (l5 : Int32) (l6 : Option Nat) (l7 : Int32) (h : HP), f_X5_send_3  n l0 l1 l2 l3 l4 l5 l6 l7 h = some h' → cs + (n * 1 + 0) ≤ 8 → sl + (n * 5 + 0) ≤ 40 → aw G 3 [some (va_rf l0), some (.int l1), some (.int l2), some (.int l3), some (.int l4), some (.int l5), some (va_rf l6), some (.int l7), none] [] h cs sl := by
  intro n
  induction n with
  | zero => intro cs sl l0 l1 l2 l3 l4 l5 l6 l7 h H hcs hsl; cases H
  | succ n ih =>
    intro cs sl l0 l1 l2 l3 l4 l5 l6 l7 h H hcs hsl
    rw [f_X5_send_3] at H
    refine aw_iload C dX5_send_3 rfl ?_
    refine aw_aload_n C dX5_send_5 rfl ?_
    obtain ⟨v1, e2, H⟩ := hz_bd H
    refine aw_gI (k := 0) C cl_5 (by decide) wd_134 e2 dX5_send_6 ?_
    refine aw_icmp_ge (tgt := 112) C dX5_send_9 (by decide) (fun c32 => ?_) (fun c32 => ?_)
    · replace H := hz_it c32 H
      cases H
      exact aw_vret C (by show cs ≤ 8; omega) (by show sl ≤ 40; omega) dX5_send_112
    · replace H := hz_if c32 H
      refine aw_iload_n C dX5_send_12 rfl ?_
      refine aw_iload C dX5_send_13 rfl ?_
      obtain ⟨p3, e4, H⟩ := hz_bd H
      refine aw_SN (As := [.int l2, .int l7]) (rest := []) C hy_X8_has wd_309 wn_315 (c_X8_has _ _ _ _ _  e4) (hz_roi _) rfl rfl (Nat.le_of_ble_eq_true rfl) (by decide) (kc := 0) (ks := 0) rfl rfl ⟨(by show cs + 0 ≤ 8; omega), (by show sl + 0 ≤ 40; omega)⟩ dX5_send_15 ?_
      refine aw_if_ne (tgt := 24) C dX5_send_18 (by decide) (fun c33 => ?_) (fun c33 => ?_)
      · replace H := hz_if c33 H
        refine aw_aload_n C dX5_send_24 rfl ?_
        obtain ⟨r5, e6, H⟩ := hz_bd H
        refine aw_gR (k := 1) C cl_5 (by decide) wd_135 e6 dX5_send_25 ?_
        refine aw_dup C dX5_send_28 ?_
        obtain ⟨v7, e8, H⟩ := hz_bd H
        refine aw_gI (k := 0) C cl_7 (by decide) wd_87 e8 dX5_send_29 ?_
        refine aw_iconst C dX5_send_32 (v := 1) (by decide) ?_
        refine aw_iadd C dX5_send_33 ?_
        obtain ⟨h9, e10, H⟩ := hz_bd H
        refine aw_pF (k := 0) C cl_7 (by decide) rfl wd_87 (hz_fiti _) e10 dX5_send_34 ?_
        refine aw_aload_n C dX5_send_37 rfl ?_
        refine aw_iload_n C dX5_send_38 rfl ?_
        refine aw_iload C dX5_send_39 rfl ?_
        obtain ⟨g13, H⟩ := hz_wn H
        obtain ⟨p11, e12, H⟩ := hz_bd H
        refine aw_V (As := [.int l1, .int l7]) (rest := []) C hy_X5_between hv_X5_between wd_316 cl_5.1 g13 (c_X5_between _ _ _ _ _ _  e12) (hz_ror _) rfl rfl (Nat.le_of_ble_eq_true rfl) (by decide) (kc := 0) (ks := 0) rfl rfl ⟨(by show cs + 0 + 0 ≤ 8; omega), (by show sl + 0 + 0 ≤ 40; omega)⟩ dX5_send_41 ?_
        refine aw_astore C dX5_send_44 (by rw [hn]; decide) rfl ?_
        refine aw_aload C dX5_send_46 rfl ?_
        refine aw_ifnull (tgt := 61) C dX5_send_48 (by decide) (fun c34 => ?_) (fun c34 => ?_)
        · replace H := hz_it c34 H
          exact aw_loc (hz_sub_s (hz_sub_s (hz_sub_s (hz_sub_s (hz_sub_s (hz_sub_s (hz_sub_s (hz_sub_s (hz_sub_n hz_sub_0))))))))) (k_X5_send_61 (cs := cs + 0 + 0) (sl := sl + 0 + 0) hn C (fun _ _ _ _ _ _ _ _ _ _ _ H => ih _ _ _ _ _ _ _ _ _ H) _ _ _ _ _ _ _ _ _ H (by omega) (by omega) (by omega) (by omega))
        · replace H := hz_if c34 H
          refine aw_aload_n C dX5_send_51 rfl ?_
          obtain ⟨v14, e15, H⟩ := hz_bd H
          refine aw_gI (k := 3) C cl_5 (by decide) wd_137 e15 dX5_send_52 ?_
          refine aw_sipush C dX5_send_55 (v := 500) (by decide) ?_
          refine aw_icmp_lt (tgt := 77) C dX5_send_58 (by decide) (fun c35 => ?_) (fun c35 => ?_)
          · replace H := hz_it c35 H
            refine aw_aload C dX5_send_77 rfl ?_
            replace H := hz_lt H
            refine aw_new C cl_2 wd_320 wd_321 wd_67 df_2 (by show cs + 0 + 0 + 1 ≤ 8; omega) (by show sl + 0 + 0 + 5 ≤ 40; omega) dX5_send_79 ?_
            refine aw_dup C dX5_send_82 ?_
            refine aw_iload_n C dX5_send_83 rfl ?_
            refine aw_iload C dX5_send_84 rfl ?_
            refine aw_iload C dX5_send_86 rfl ?_
            refine aw_aload C dX5_send_88 rfl ?_
            obtain ⟨p17, e18, H⟩ := hz_bd H
            refine aw_I (As := [.int l3, .int l4, .int l5, va_rf l6]) (rest := [va_rf (some (p11.2.1 + 1)), va_rf p11.1]) C hy_X2_init rfl wd_323 wd_322 (c_X2_init _ _ _ _ _ _ _  e18) rfl rfl (Nat.le_of_ble_eq_true rfl) (by decide) (kc := 0) (ks := 0) rfl rfl ⟨(by show cs + 0 + 0 + 1 + 0 ≤ 8; omega), (by show sl + 0 + 0 + 5 + 0 ≤ 40; omega)⟩ dX5_send_90 ?_
            obtain ⟨g21, H⟩ := hz_wn H
            obtain ⟨p19, e20, H⟩ := hz_bd H
            refine aw_V (As := [va_rf (some (p11.2.1 + 1))]) (rest := []) C hy_X1_put hv_X1_put wd_347 cl_1.1 g21 (c_X1_put _ _ _ _  e20) hz_ron rfl rfl (Nat.le_of_ble_eq_true rfl) (by decide) (kc := 0) (ks := 0) rfl rfl ⟨(by show cs + 0 + 0 + 1 + 0 + 0 ≤ 8; omega), (by show sl + 0 + 0 + 5 + 0 + 0 ≤ 40; omega)⟩ dX5_send_93 ?_
            refine aw_aload_n C dX5_send_96 rfl ?_
            refine aw_dup C dX5_send_97 ?_
            obtain ⟨v22, e23, H⟩ := hz_bd H
            refine aw_gI (k := 3) C cl_5 (by decide) wd_137 e23 dX5_send_98 ?_
            refine aw_iconst C dX5_send_101 (v := 1) (by decide) ?_
            refine aw_iadd C dX5_send_102 ?_
            obtain ⟨h24, e25, H⟩ := hz_bd H
            refine aw_pF (k := 3) C cl_5 (by decide) rfl wd_137 (hz_fiti _) e25 dX5_send_103 ?_
            exact aw_loc (hz_sub_s (hz_sub_s (hz_sub_s (hz_sub_s (hz_sub_s (hz_sub_s (hz_sub_s (hz_sub_s (hz_sub_n hz_sub_0))))))))) (k_X5_send_106 (cs := cs + 0 + 0 + 1 + 0 + 0) (sl := sl + 0 + 0 + 5 + 0 + 0) hn C (fun _ _ _ _ _ _ _ _ _ _ _ H => ih _ _ _ _ _ _ _ _ _ H) _ _ _ _ _ _ _ _ _ H (by omega) (by omega) (by omega) (by omega))
          · replace H := hz_if c35 H
            exact aw_loc (hz_sub_s (hz_sub_s (hz_sub_s (hz_sub_s (hz_sub_s (hz_sub_s (hz_sub_s (hz_sub_s (hz_sub_n hz_sub_0))))))))) (k_X5_send_61 (cs := cs + 0 + 0) (sl := sl + 0 + 0) hn C (fun _ _ _ _ _ _ _ _ _ _ _ H => ih _ _ _ _ _ _ _ _ _ H) _ _ _ _ _ _ _ _ _ H (by omega) (by omega) (by omega) (by omega))
      · replace H := hz_it c33 H
        refine aw_goto (tgt := 106) C dX5_send_21 (by decide) ?_
        exact k_X5_send_106 (cs := cs + 0) (sl := sl + 0) hn C (fun _ _ _ _ _ _ _ _ _ _ _ H => ih _ _ _ _ _ _ _ _ _ H) _ _ _ _ _ _ _ _ _ H (by omega) (by omega) (by omega) (by omega)
set_option maxRecDepth 100000 in
set_option maxHeartbeats 4000000 in
theorem c_X5_send {l : Launch} (a0 : Option Nat) (a1 : Int32) (a2 : Int32) (a3 : Int32) (a4 : Int32) (a5 : Int32) (a6 : Option Nat) (h : HP) (h' : HP) (H : f_X5_send a0 a1 a2 a3 a4 a5 a6 h = some h') : Ct l yX5_send cX5_send 9 none rm_X5_send [va_rf a0, .int a1, .int a2, .int a3, .int a4, .int a5, va_rf a6] none h h' := by
  refine Ct.of (plainFor_of_name (by decide)) (hz_s1c (hz_s1c (hz_s1c (hz_s1c (hz_s1c (hz_s1c (hz_s1c hz_s1n (hz_cr _)) rfl) rfl) rfl) rfl) rfl) (hz_cr _)) (Nat.le_of_ble_eq_true rfl) (fun G hl hn C0 => ?_)
  have C : Cx G cX5_send RX5 "send" none rm_X5_send none h' := C0
  subst hl
  show aw G 0 [some (va_rf a0), some (.int a1), some (.int a2), some (.int a3), some (.int a4), some (.int a5), some (va_rf a6), none, none] [] h 0 0
  unfold f_X5_send at H
  obtain ⟨cs, hcs⟩ : ∃ k : Nat, k = 0 := ⟨0, rfl⟩
  obtain ⟨sl, hsl⟩ : ∃ k : Nat, k = 0 := ⟨0, rfl⟩
  suffices hh : aw G 0 [some (va_rf a0), some (.int a1), some (.int a2), some (.int a3), some (.int a4), some (.int a5), some (va_rf a6), none, none] [] h cs sl by rw [hcs, hsl] at hh; exact hh
  refine aw_iconst C dX5_send_0 (v := 0) (by decide) ?_
  refine aw_istore C dX5_send_1 (by rw [hn]; decide) rfl ?_
  exact k_X5_send_3 hn C  8 (cs := cs) (sl := sl) _ _ _ _ _ _ _ _ _ H (by omega) (by omega)
theorem hy_X5_init : hz_Y yX5_init cX5_init 4 none 2 := ⟨wd_113, wd_60, by decide +kernel, by decide +kernel, by decide +kernel⟩
def f_X5_init_26 : Nat → Option Nat → Int32 → HP → Option HP
  | 0, _, _, _ => none
  | n + 1, l0, l3, h =>
    (hz_gR h l0 5 2).bind fun r10 =>
    (hz_aL h r10).bind fun v12 =>
    if v12 ≤ l3 then
      some h
    else
      (hz_gR h l0 5 2).bind fun r14 =>
      (some (hz_nO h 1 [.null, .null, .int 0])).bind fun h16 =>
      (f_X1_init (some (h.1 + 1)) h16).bind fun p17 =>
      (hz_aT p17 r14 2 1 l3 (some (h.1 + 1))).bind fun h19 =>
      f_X5_init_26  n l0 (l3 + (1 : Int32)) h19
def f_X5_init (a0 : Option Nat) (a1 : Int32) (a2 : Option Nat) (h : HP) : Option HP :=
  if a0 = none then none else
  (hz_pF h a0 5 0 (.int a1)).bind fun h2 =>
  (hz_pF h2 a0 5 1 (va_rf a2)).bind fun h4 =>
  (hz_nQ h4 2 64 (a1 * a1)).bind fun h6 =>
  (hz_pF h6 a0 5 2 (va_rf (some (h4.1 + 1)))).bind fun h8 =>
  f_X5_init_26  64 a0 (0 : Int32) h8
abbrev rm_X5_init : Room := { frames := 2, cells := 65, slots := 256, locals := 60 }
set_option maxRecDepth 100000 in
set_option maxHeartbeats 4000000 in
theorem k_X5_init_26 {G : GX} {h' : HP} (hn : G.2.2.2.2.2.2.2.2.2.2.2.2 = 4) (C : Cx G cX5_init RX5 "<init>" none rm_X5_init none h') : ∀ (n : Nat) {cs sl : Nat} (l0 : Option Nat) (l3 : Int32) (h : HP), f_X5_init_26  n l0 l3 h = some h' → cs + (n * 1 + 0) ≤ 65 → sl + (n * 3 + 0) ≤ 256 → aw G 26 [some (va_rf l0), none, none, some (.int l3)] [] h cs sl := by
  intro n
  induction n with
  | zero => intro cs sl l0 l3 h H hcs hsl; cases H
  | succ n ih =>
    intro cs sl l0 l3 h H hcs hsl
    rw [f_X5_init_26] at H
    refine aw_iload_n C dX5_init_26 rfl ?_
    refine aw_aload_n C dX5_init_27 rfl ?_
    obtain ⟨r10, e11, H⟩ := hz_bd H
    refine aw_gR (k := 2) C cl_5 (by decide) wd_136 e11 dX5_init_28 ?_
    obtain ⟨v12, e13, H⟩ := hz_bd H
    refine aw_alen C e13 dX5_init_31 ?_
    refine aw_icmp_ge (tgt := 54) C dX5_init_32 (by decide) (fun c21 => ?_) (fun c21 => ?_)
    · replace H := hz_it c21 H
      cases H
      exact aw_vret C (by show cs ≤ 65; omega) (by show sl ≤ 256; omega) dX5_init_54
    · replace H := hz_if c21 H
      refine aw_aload_n C dX5_init_35 rfl ?_
      obtain ⟨r14, e15, H⟩ := hz_bd H
      refine aw_gR (k := 2) C cl_5 (by decide) wd_136 e15 dX5_init_36 ?_
      refine aw_iload_n C dX5_init_39 rfl ?_
      replace H := hz_lt H
      refine aw_new C cl_1 wd_115 wd_117 wd_61 df_1 (by show cs + 1 ≤ 65; omega) (by show sl + 3 ≤ 256; omega) dX5_init_40 ?_
      refine aw_dup C dX5_init_43 ?_
      obtain ⟨p17, e18, H⟩ := hz_bd H
      refine aw_IN (As := []) (rest := [va_rf (some (h.1 + 1)), .int l3, va_rf r14]) C hy_X1_init rfl wd_119 wn_118 (c_X1_init _ _ _  e18) rfl rfl (Nat.le_of_ble_eq_true rfl) (by decide) (kc := 0) (ks := 0) rfl rfl ⟨(by show cs + 1 + 0 ≤ 65; omega), (by show sl + 3 + 0 ≤ 256; omega)⟩ dX5_init_44 ?_
      obtain ⟨h19, e20, H⟩ := hz_bd H
      refine aw_aast (t := 2) C (by decide) rfl cl_1.1 e20 dX5_init_47 ?_
      refine aw_iinc (d := 1) C dX5_init_48 (by rw [hn]; decide) rfl (by decide) rfl ?_
      refine aw_goto (tgt := 26) C dX5_init_51 (by decide) ?_
      exact ih (cs := cs + 1 + 0) (sl := sl + 3 + 0) _ _ _ H (by omega) (by omega)
set_option maxRecDepth 100000 in
set_option maxHeartbeats 4000000 in
theorem c_X5_init {l : Launch} (a0 : Option Nat) (a1 : Int32) (a2 : Option Nat) (h : HP) (h' : HP) (H : f_X5_init a0 a1 a2 h = some h') : Ct l yX5_init cX5_init 4 none rm_X5_init [va_rf a0, .int a1, va_rf a2] none h h' := by
  refine Ct.of (plainFor_of_name (by decide)) (hz_s1c (hz_s1c (hz_s1c hz_s1n (hz_cr _)) rfl) (hz_cr _)) (Nat.le_of_ble_eq_true rfl) (fun G hl hn C0 => ?_)
  have C : Cx G cX5_init RX5 "<init>" none rm_X5_init none h' := C0
  subst hl
  show aw G 0 [some (va_rf a0), some (.int a1), some (va_rf a2), none] [] h 0 0
  unfold f_X5_init at H
  obtain ⟨cs, hcs⟩ : ∃ k : Nat, k = 0 := ⟨0, rfl⟩
  obtain ⟨sl, hsl⟩ : ∃ k : Nat, k = 0 := ⟨0, rfl⟩
  suffices hh : aw G 0 [some (va_rf a0), some (.int a1), some (va_rf a2), none] [] h cs sl by rw [hcs, hsl] at hh; exact hh
  refine aw_aload_n C dX5_init_0 rfl ?_
  obtain ⟨g1, H⟩ := hz_un H
  refine aw_objI C g1 wd_114 wd_78 wd_79 (Nat.le_of_ble_eq_true rfl) (by decide) dX5_init_1 ?_
  refine aw_aload_n C dX5_init_4 rfl ?_
  refine aw_iload_n C dX5_init_5 rfl ?_
  obtain ⟨h2, e3, H⟩ := hz_bd H
  refine aw_pFF (k := 0) C cl_5 (by decide) rfl wd_134 (hz_fiti _) e3 dX5_init_6 ?_
  refine aw_aload_n C dX5_init_9 rfl ?_
  refine aw_aload_n C dX5_init_10 rfl ?_
  obtain ⟨h4, e5, H⟩ := hz_bd H
  refine aw_pFF (k := 1) C cl_5 (by decide) rfl wd_135 (hz_fito _ _) e5 dX5_init_11 ?_
  refine aw_aload_n C dX5_init_14 rfl ?_
  refine aw_iload_n C dX5_init_15 rfl ?_
  refine aw_iload_n C dX5_init_16 rfl ?_
  refine aw_imul C dX5_init_17 ?_
  obtain ⟨h6, e7, H⟩ := hz_bd H
  refine aw_newq (t := 2) (cap := 64) C (by decide) rfl hz_ao2 wd_115 e7 (by decide) (by show cs + 1 ≤ 65; omega) (by show sl + 64 ≤ 256; omega) dX5_init_18 ?_
  obtain ⟨h8, e9, H⟩ := hz_bd H
  refine aw_pFF (k := 2) C cl_5 (by decide) rfl wd_136 (hz_fita _ _) e9 dX5_init_21 ?_
  refine aw_iconst C dX5_init_24 (v := 0) (by decide) ?_
  refine aw_istore_n C dX5_init_25 (by rw [hn]; decide) rfl ?_
  exact aw_loc (hz_sub_s (hz_sub_n (hz_sub_n (hz_sub_s hz_sub_0)))) (k_X5_init_26 hn C  64 (cs := cs + 1) (sl := sl + 64) _ _ _ H (by omega) (by omega))
theorem hy_X5_takeOldest : hz_Y yX5_takeOldest cX5_takeOldest 3 (some (.object "GroupCast$Letter")) 1 := ⟨wd_440, wd_60, by decide +kernel, by decide +kernel, by decide +kernel⟩
theorem hv_X5_takeOldest : hz_YV yX5_takeOldest := ⟨wd_438, wd_439⟩
def f_X5_takeOldest_19 (l2 : Option Nat) (h : HP) : Option (Option Nat × HP) :=
  some (l2, h)
def f_X5_takeOldest (a0 : Option Nat) (a1 : Option Nat) (h : HP) : Option (Option Nat × HP) :=
  if hz_ob h a1 1 = true then
  (f_X1_take a1 h).bind fun p1 =>
  if p1.1 = none then
    f_X5_takeOldest_19  p1.1 p1.2
  else
    (hz_gI p1.2 a0 5 3).bind fun v4 =>
    (hz_pF p1.2 a0 5 3 (.int (v4 - (1 : Int32)))).bind fun h6 =>
    f_X5_takeOldest_19  p1.1 h6
  else none
abbrev rm_X5_takeOldest : Room := { frames := 1, cells := 0, slots := 0, locals := 21 }
set_option maxRecDepth 100000 in
set_option maxHeartbeats 4000000 in
theorem k_X5_takeOldest_19 {G : GX} {v' : Option Nat} {h' : HP} (hn : G.2.2.2.2.2.2.2.2.2.2.2.2 = 3) (C : Cx G cX5_takeOldest RX5 "takeOldest" (some (.object "GroupCast$Letter")) rm_X5_takeOldest (some (va_rf v')) h') (l2 : Option Nat) (h : HP) (H : f_X5_takeOldest_19  l2 h = some (v', h')) : aw G 19 [none, none, some (va_rf l2)] [] h 0 0 := by
  unfold f_X5_takeOldest_19 at H
  refine aw_aload_n C dX5_takeOldest_19 rfl ?_
  cases H
  exact aw_aret C (Or.inl ⟨_, rfl⟩) (Nat.zero_le _) (Nat.zero_le _) dX5_takeOldest_20
set_option maxRecDepth 100000 in
set_option maxHeartbeats 4000000 in
theorem c_X5_takeOldest {l : Launch} (a0 : Option Nat) (a1 : Option Nat) (h : HP) (v' : Option Nat) (h' : HP) (H : f_X5_takeOldest a0 a1 h = some (v', h')) : Ct l yX5_takeOldest cX5_takeOldest 3 (some (.object "GroupCast$Letter")) rm_X5_takeOldest [va_rf a0, va_rf a1] (some (va_rf v')) h h' := by
  refine Ct.of (plainFor_of_name (by decide)) (hz_s1c (hz_s1c hz_s1n (hz_cr _)) (hz_cr _)) (Nat.le_of_ble_eq_true rfl) (fun G hl hn C0 => ?_)
  have C : Cx G cX5_takeOldest RX5 "takeOldest" (some (.object "GroupCast$Letter")) rm_X5_takeOldest (some (va_rf v')) h' := C0
  subst hl
  show aw G 0 [some (va_rf a0), some (va_rf a1), none] [] h 0 0
  unfold f_X5_takeOldest at H
  refine aw_aload_n C dX5_takeOldest_0 rfl ?_
  obtain ⟨g3, H⟩ := hz_wn H
  obtain ⟨p1, e2, H⟩ := hz_bd H
  refine aw_V (As := []) (rest := []) C hy_X1_take hv_X1_take wd_441 cl_1.1 g3 (c_X1_take _ _ _ _  e2) (hz_ror _) rfl rfl (Nat.le_of_ble_eq_true rfl) (by decide) (kc := 0) (ks := 0) rfl rfl (by decide) dX5_takeOldest_1 ?_
  refine aw_astore_n C dX5_takeOldest_4 (by rw [hn]; decide) rfl ?_
  refine aw_aload_n C dX5_takeOldest_5 rfl ?_
  refine aw_ifnull (tgt := 19) C dX5_takeOldest_6 (by decide) (fun c8 => ?_) (fun c8 => ?_)
  · replace H := hz_it c8 H
    exact aw_loc (hz_sub_n (hz_sub_n (hz_sub_s hz_sub_0))) (k_X5_takeOldest_19 hn C  _ _ H)
  · replace H := hz_if c8 H
    refine aw_aload_n C dX5_takeOldest_9 rfl ?_
    refine aw_dup C dX5_takeOldest_10 ?_
    obtain ⟨v4, e5, H⟩ := hz_bd H
    refine aw_gI (k := 3) C cl_5 (by decide) wd_137 e5 dX5_takeOldest_11 ?_
    refine aw_iconst C dX5_takeOldest_14 (v := 1) (by decide) ?_
    refine aw_isub C dX5_takeOldest_15 ?_
    obtain ⟨h6, e7, H⟩ := hz_bd H
    refine aw_pF (k := 3) C cl_5 (by decide) rfl wd_137 (hz_fiti _) e7 dX5_takeOldest_16 ?_
    exact aw_loc (hz_sub_n (hz_sub_n (hz_sub_s hz_sub_0))) (k_X5_takeOldest_19 hn C  _ _ H)
end
