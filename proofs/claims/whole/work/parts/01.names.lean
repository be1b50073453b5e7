-- ===== PART A: goes FIRST, ahead of the names: the tables' words, and 'selects' of the private methods out of them =====
/-- a private method of a class that the tables say can be made, by its rows of tables_1 -/
def lw_okq (q : MethodName × Nat) : Prop := (q.1.cls ≠ "java/lang/invoke/MethodHandle" ∧ q.1.cls ≠ "java/lang/invoke/VarHandle") ∧ Cond.instantiable q.1.cls q.2 ∈ tables_1 ∧ Cond.privateMethod q.1 ∈ tables_1 ∧ Cond.instanceMethod q.1 ∈ tables_1
theorem lw_p0 : lw_okq (⟨"GroupCast", "find", "(I)LGroupCast$Node;"⟩, 3) := ⟨⟨by decide +kernel, by decide +kernel⟩, List.mem_of_getElem? (i := 16) (by decide +kernel), List.mem_of_getElem? (i := 229) (by decide +kernel), List.mem_of_getElem? (i := 230) (by decide +kernel)⟩
theorem lw_p1 : lw_okq (⟨"GroupCast$Node", "isBlocked", "()Z"⟩, 17) := ⟨⟨by decide +kernel, by decide +kernel⟩, List.mem_of_getElem? (i := 93) (by decide +kernel), List.mem_of_getElem? (i := 244) (by decide +kernel), List.mem_of_getElem? (i := 245) (by decide +kernel)⟩
theorem lw_p2 : lw_okq (⟨"GroupCast$Node", "leader", "()I"⟩, 17) := ⟨⟨by decide +kernel, by decide +kernel⟩, List.mem_of_getElem? (i := 93) (by decide +kernel), List.mem_of_getElem? (i := 248) (by decide +kernel), List.mem_of_getElem? (i := 249) (by decide +kernel)⟩
theorem lw_p3 : lw_okq (⟨"GroupCast$Node", "putInOrder", "(I)V"⟩, 17) := ⟨⟨by decide +kernel, by decide +kernel⟩, List.mem_of_getElem? (i := 93) (by decide +kernel), List.mem_of_getElem? (i := 299) (by decide +kernel), List.mem_of_getElem? (i := 300) (by decide +kernel)⟩
theorem lw_p4 : lw_okq (⟨"GroupCast$Node", "others", "()I"⟩, 17) := ⟨⟨by decide +kernel, by decide +kernel⟩, List.mem_of_getElem? (i := 93) (by decide +kernel), List.mem_of_getElem? (i := 308) (by decide +kernel), List.mem_of_getElem? (i := 309) (by decide +kernel)⟩
theorem lw_p5 : lw_okq (⟨"GroupCast$Node", "carryOutWhatMostHold", "()V"⟩, 17) := ⟨⟨by decide +kernel, by decide +kernel⟩, List.mem_of_getElem? (i := 93) (by decide +kernel), List.mem_of_getElem? (i := 315) (by decide +kernel), List.mem_of_getElem? (i := 316) (by decide +kernel)⟩
theorem lw_p6 : lw_okq (⟨"GroupCast$Node", "heldByMost", "()I"⟩, 17) := ⟨⟨by decide +kernel, by decide +kernel⟩, List.mem_of_getElem? (i := 93) (by decide +kernel), List.mem_of_getElem? (i := 319) (by decide +kernel), List.mem_of_getElem? (i := 320) (by decide +kernel)⟩
theorem lw_p7 : lw_okq (⟨"GroupCast$Node", "holdersOf", "(I)I"⟩, 17) := ⟨⟨by decide +kernel, by decide +kernel⟩, List.mem_of_getElem? (i := 93) (by decide +kernel), List.mem_of_getElem? (i := 323) (by decide +kernel), List.mem_of_getElem? (i := 324) (by decide +kernel)⟩
theorem lw_p8 : lw_okq (⟨"GroupCast$Node", "areMost", "(I)Z"⟩, 17) := ⟨⟨by decide +kernel, by decide +kernel⟩, List.mem_of_getElem? (i := 93) (by decide +kernel), List.mem_of_getElem? (i := 327) (by decide +kernel), List.mem_of_getElem? (i := 328) (by decide +kernel)⟩
theorem lw_p9 : lw_okq (⟨"GroupCast$Node", "carryOutUpTo", "(I)V"⟩, 17) := ⟨⟨by decide +kernel, by decide +kernel⟩, List.mem_of_getElem? (i := 93) (by decide +kernel), List.mem_of_getElem? (i := 337) (by decide +kernel), List.mem_of_getElem? (i := 338) (by decide +kernel)⟩
theorem lw_p10 : lw_okq (⟨"GroupCast$Machine", "add", "()V"⟩, 2) := ⟨⟨by decide +kernel, by decide +kernel⟩, List.mem_of_getElem? (i := 117) (by decide +kernel), List.mem_of_getElem? (i := 348) (by decide +kernel), List.mem_of_getElem? (i := 349) (by decide +kernel)⟩
theorem lw_p11 : lw_okq (⟨"GroupCast$Machine", "multiply", "()V"⟩, 2) := ⟨⟨by decide +kernel, by decide +kernel⟩, List.mem_of_getElem? (i := 117) (by decide +kernel), List.mem_of_getElem? (i := 352) (by decide +kernel), List.mem_of_getElem? (i := 353) (by decide +kernel)⟩
theorem lw_p12 : lw_okq (⟨"GroupCast$Machine", "duplicate", "()V"⟩, 2) := ⟨⟨by decide +kernel, by decide +kernel⟩, List.mem_of_getElem? (i := 117) (by decide +kernel), List.mem_of_getElem? (i := 356) (by decide +kernel), List.mem_of_getElem? (i := 357) (by decide +kernel)⟩
theorem lw_p13 : lw_okq (⟨"GroupCast$Machine", "drop", "()V"⟩, 2) := ⟨⟨by decide +kernel, by decide +kernel⟩, List.mem_of_getElem? (i := 117) (by decide +kernel), List.mem_of_getElem? (i := 360) (by decide +kernel), List.mem_of_getElem? (i := 361) (by decide +kernel)⟩
theorem lw_p14 : lw_okq (⟨"GroupCast$Machine", "swap", "()V"⟩, 2) := ⟨⟨by decide +kernel, by decide +kernel⟩, List.mem_of_getElem? (i := 117) (by decide +kernel), List.mem_of_getElem? (i := 364) (by decide +kernel), List.mem_of_getElem? (i := 365) (by decide +kernel)⟩
theorem lw_p15 : lw_okq (⟨"GroupCast$Machine", "push", "(I)V"⟩, 2) := ⟨⟨by decide +kernel, by decide +kernel⟩, List.mem_of_getElem? (i := 117) (by decide +kernel), List.mem_of_getElem? (i := 368) (by decide +kernel), List.mem_of_getElem? (i := 369) (by decide +kernel)⟩
def lw_privs_1 : List (MethodName × Nat) := [(⟨"GroupCast", "find", "(I)LGroupCast$Node;"⟩, 3), (⟨"GroupCast$Node", "isBlocked", "()Z"⟩, 17), (⟨"GroupCast$Node", "leader", "()I"⟩, 17), (⟨"GroupCast$Node", "putInOrder", "(I)V"⟩, 17), (⟨"GroupCast$Node", "others", "()I"⟩, 17), (⟨"GroupCast$Node", "carryOutWhatMostHold", "()V"⟩, 17), (⟨"GroupCast$Node", "heldByMost", "()I"⟩, 17), (⟨"GroupCast$Node", "holdersOf", "(I)I"⟩, 17), (⟨"GroupCast$Node", "areMost", "(I)Z"⟩, 17), (⟨"GroupCast$Node", "carryOutUpTo", "(I)V"⟩, 17), (⟨"GroupCast$Machine", "add", "()V"⟩, 2), (⟨"GroupCast$Machine", "multiply", "()V"⟩, 2), (⟨"GroupCast$Machine", "duplicate", "()V"⟩, 2), (⟨"GroupCast$Machine", "drop", "()V"⟩, 2), (⟨"GroupCast$Machine", "swap", "()V"⟩, 2), (⟨"GroupCast$Machine", "push", "(I)V"⟩, 2)]
theorem lw_r1 : ∀ q ∈ lw_privs_1, lw_okq q := List.forall_mem_cons.mpr ⟨lw_p0, List.forall_mem_cons.mpr ⟨lw_p1, List.forall_mem_cons.mpr ⟨lw_p2, List.forall_mem_cons.mpr ⟨lw_p3, List.forall_mem_cons.mpr ⟨lw_p4, List.forall_mem_cons.mpr ⟨lw_p5, List.forall_mem_cons.mpr ⟨lw_p6, List.forall_mem_cons.mpr ⟨lw_p7, List.forall_mem_cons.mpr ⟨lw_p8, List.forall_mem_cons.mpr ⟨lw_p9, List.forall_mem_cons.mpr ⟨lw_p10, List.forall_mem_cons.mpr ⟨lw_p11, List.forall_mem_cons.mpr ⟨lw_p12, List.forall_mem_cons.mpr ⟨lw_p13, List.forall_mem_cons.mpr ⟨lw_p14, List.forall_mem_cons.mpr ⟨lw_p15, fun _ h => absurd h List.not_mem_nil⟩⟩⟩⟩⟩⟩⟩⟩⟩⟩⟩⟩⟩⟩⟩⟩
theorem lw_p16 : lw_okq (⟨"GroupCast$Node", "onPass", "(LGroupCast$Letter;)V"⟩, 17) := ⟨⟨by decide +kernel, by decide +kernel⟩, List.mem_of_getElem? (i := 93) (by decide +kernel), List.mem_of_getElem? (i := 393) (by decide +kernel), List.mem_of_getElem? (i := 394) (by decide +kernel)⟩
theorem lw_p17 : lw_okq (⟨"GroupCast$Node", "leadsUnblocked", "()Z"⟩, 17) := ⟨⟨by decide +kernel, by decide +kernel⟩, List.mem_of_getElem? (i := 93) (by decide +kernel), List.mem_of_getElem? (i := 397) (by decide +kernel), List.mem_of_getElem? (i := 398) (by decide +kernel)⟩
theorem lw_p18 : lw_okq (⟨"GroupCast$Node", "onOrder", "(ILGroupCast$Letter;)V"⟩, 17) := ⟨⟨by decide +kernel, by decide +kernel⟩, List.mem_of_getElem? (i := 93) (by decide +kernel), List.mem_of_getElem? (i := 405) (by decide +kernel), List.mem_of_getElem? (i := 406) (by decide +kernel)⟩
theorem lw_p19 : lw_okq (⟨"GroupCast$Node", "reply", "(IIII)V"⟩, 17) := ⟨⟨by decide +kernel, by decide +kernel⟩, List.mem_of_getElem? (i := 93) (by decide +kernel), List.mem_of_getElem? (i := 409) (by decide +kernel), List.mem_of_getElem? (i := 410) (by decide +kernel)⟩
theorem lw_p20 : lw_okq (⟨"GroupCast$Node", "onHeld", "(ILGroupCast$Letter;)V"⟩, 17) := ⟨⟨by decide +kernel, by decide +kernel⟩, List.mem_of_getElem? (i := 93) (by decide +kernel), List.mem_of_getElem? (i := 413) (by decide +kernel), List.mem_of_getElem? (i := 414) (by decide +kernel)⟩
theorem lw_p21 : lw_okq (⟨"GroupCast$Node", "onDo", "(LGroupCast$Letter;)V"⟩, 17) := ⟨⟨by decide +kernel, by decide +kernel⟩, List.mem_of_getElem? (i := 93) (by decide +kernel), List.mem_of_getElem? (i := 417) (by decide +kernel), List.mem_of_getElem? (i := 418) (by decide +kernel)⟩
theorem lw_p22 : lw_okq (⟨"GroupCast$Node", "onElect", "(I)V"⟩, 17) := ⟨⟨by decide +kernel, by decide +kernel⟩, List.mem_of_getElem? (i := 93) (by decide +kernel), List.mem_of_getElem? (i := 421) (by decide +kernel), List.mem_of_getElem? (i := 422) (by decide +kernel)⟩
theorem lw_p23 : lw_okq (⟨"GroupCast$Node", "ask", "()V"⟩, 17) := ⟨⟨by decide +kernel, by decide +kernel⟩, List.mem_of_getElem? (i := 93) (by decide +kernel), List.mem_of_getElem? (i := 425) (by decide +kernel), List.mem_of_getElem? (i := 426) (by decide +kernel)⟩
theorem lw_p24 : lw_okq (⟨"GroupCast$Node", "flush", "()V"⟩, 17) := ⟨⟨by decide +kernel, by decide +kernel⟩, List.mem_of_getElem? (i := 93) (by decide +kernel), List.mem_of_getElem? (i := 432) (by decide +kernel), List.mem_of_getElem? (i := 433) (by decide +kernel)⟩
theorem lw_p25 : lw_okq (⟨"GroupCast$Node", "nextOwnNumber", "()I"⟩, 17) := ⟨⟨by decide +kernel, by decide +kernel⟩, List.mem_of_getElem? (i := 93) (by decide +kernel), List.mem_of_getElem? (i := 436) (by decide +kernel), List.mem_of_getElem? (i := 437) (by decide +kernel)⟩
theorem lw_p26 : lw_okq (⟨"GroupCast$Node", "onWait", "()V"⟩, 17) := ⟨⟨by decide +kernel, by decide +kernel⟩, List.mem_of_getElem? (i := 93) (by decide +kernel), List.mem_of_getElem? (i := 466) (by decide +kernel), List.mem_of_getElem? (i := 467) (by decide +kernel)⟩
theorem lw_p27 : lw_okq (⟨"GroupCast$Node", "onFlush", "(ILGroupCast$Letter;)V"⟩, 17) := ⟨⟨by decide +kernel, by decide +kernel⟩, List.mem_of_getElem? (i := 93) (by decide +kernel), List.mem_of_getElem? (i := 470) (by decide +kernel), List.mem_of_getElem? (i := 471) (by decide +kernel)⟩
theorem lw_p28 : lw_okq (⟨"GroupCast$Node", "onFlushed", "(ILGroupCast$Letter;)V"⟩, 17) := ⟨⟨by decide +kernel, by decide +kernel⟩, List.mem_of_getElem? (i := 93) (by decide +kernel), List.mem_of_getElem? (i := 474) (by decide +kernel), List.mem_of_getElem? (i := 475) (by decide +kernel)⟩
theorem lw_p29 : lw_okq (⟨"GroupCast$Change", "isBetter", "(III)Z"⟩, 5) := ⟨⟨by decide +kernel, by decide +kernel⟩, List.mem_of_getElem? (i := 131) (by decide +kernel), List.mem_of_getElem? (i := 482) (by decide +kernel), List.mem_of_getElem? (i := 483) (by decide +kernel)⟩
theorem lw_p30 : lw_okq (⟨"GroupCast$Node", "onSync", "(ILGroupCast$Letter;)V"⟩, 17) := ⟨⟨by decide +kernel, by decide +kernel⟩, List.mem_of_getElem? (i := 93) (by decide +kernel), List.mem_of_getElem? (i := 490) (by decide +kernel), List.mem_of_getElem? (i := 491) (by decide +kernel)⟩
theorem lw_p31 : lw_okq (⟨"GroupCast$Node", "onSynced", "(ILGroupCast$Letter;)V"⟩, 17) := ⟨⟨by decide +kernel, by decide +kernel⟩, List.mem_of_getElem? (i := 93) (by decide +kernel), List.mem_of_getElem? (i := 500) (by decide +kernel), List.mem_of_getElem? (i := 501) (by decide +kernel)⟩
def lw_privs_2 : List (MethodName × Nat) := [(⟨"GroupCast$Node", "onPass", "(LGroupCast$Letter;)V"⟩, 17), (⟨"GroupCast$Node", "leadsUnblocked", "()Z"⟩, 17), (⟨"GroupCast$Node", "onOrder", "(ILGroupCast$Letter;)V"⟩, 17), (⟨"GroupCast$Node", "reply", "(IIII)V"⟩, 17), (⟨"GroupCast$Node", "onHeld", "(ILGroupCast$Letter;)V"⟩, 17), (⟨"GroupCast$Node", "onDo", "(LGroupCast$Letter;)V"⟩, 17), (⟨"GroupCast$Node", "onElect", "(I)V"⟩, 17), (⟨"GroupCast$Node", "ask", "()V"⟩, 17), (⟨"GroupCast$Node", "flush", "()V"⟩, 17), (⟨"GroupCast$Node", "nextOwnNumber", "()I"⟩, 17), (⟨"GroupCast$Node", "onWait", "()V"⟩, 17), (⟨"GroupCast$Node", "onFlush", "(ILGroupCast$Letter;)V"⟩, 17), (⟨"GroupCast$Node", "onFlushed", "(ILGroupCast$Letter;)V"⟩, 17), (⟨"GroupCast$Change", "isBetter", "(III)Z"⟩, 5), (⟨"GroupCast$Node", "onSync", "(ILGroupCast$Letter;)V"⟩, 17), (⟨"GroupCast$Node", "onSynced", "(ILGroupCast$Letter;)V"⟩, 17)]
theorem lw_r2 : ∀ q ∈ lw_privs_2, lw_okq q := List.forall_mem_cons.mpr ⟨lw_p16, List.forall_mem_cons.mpr ⟨lw_p17, List.forall_mem_cons.mpr ⟨lw_p18, List.forall_mem_cons.mpr ⟨lw_p19, List.forall_mem_cons.mpr ⟨lw_p20, List.forall_mem_cons.mpr ⟨lw_p21, List.forall_mem_cons.mpr ⟨lw_p22, List.forall_mem_cons.mpr ⟨lw_p23, List.forall_mem_cons.mpr ⟨lw_p24, List.forall_mem_cons.mpr ⟨lw_p25, List.forall_mem_cons.mpr ⟨lw_p26, List.forall_mem_cons.mpr ⟨lw_p27, List.forall_mem_cons.mpr ⟨lw_p28, List.forall_mem_cons.mpr ⟨lw_p29, List.forall_mem_cons.mpr ⟨lw_p30, List.forall_mem_cons.mpr ⟨lw_p31, fun _ h => absurd h List.not_mem_nil⟩⟩⟩⟩⟩⟩⟩⟩⟩⟩⟩⟩⟩⟩⟩⟩
theorem lw_p32 : lw_okq (⟨"GroupCast$Node", "onBegin", "(LGroupCast$Letter;)V"⟩, 17) := ⟨⟨by decide +kernel, by decide +kernel⟩, List.mem_of_getElem? (i := 93) (by decide +kernel), List.mem_of_getElem? (i := 504) (by decide +kernel), List.mem_of_getElem? (i := 505) (by decide +kernel)⟩
theorem lw_p33 : lw_okq (⟨"GroupCast$Node", "begin", "(I)V"⟩, 17) := ⟨⟨by decide +kernel, by decide +kernel⟩, List.mem_of_getElem? (i := 93) (by decide +kernel), List.mem_of_getElem? (i := 508) (by decide +kernel), List.mem_of_getElem? (i := 509) (by decide +kernel)⟩
theorem lw_p34 : lw_okq (⟨"GroupCast$Node", "giveBest", "()V"⟩, 17) := ⟨⟨by decide +kernel, by decide +kernel⟩, List.mem_of_getElem? (i := 93) (by decide +kernel), List.mem_of_getElem? (i := 519) (by decide +kernel), List.mem_of_getElem? (i := 520) (by decide +kernel)⟩
theorem lw_p35 : lw_okq (⟨"GroupCast$Node", "beginAnew", "()V"⟩, 17) := ⟨⟨by decide +kernel, by decide +kernel⟩, List.mem_of_getElem? (i := 93) (by decide +kernel), List.mem_of_getElem? (i := 523) (by decide +kernel), List.mem_of_getElem? (i := 524) (by decide +kernel)⟩
theorem lw_p36 : lw_okq (⟨"GroupCast$Node", "isChanging", "()Z"⟩, 17) := ⟨⟨by decide +kernel, by decide +kernel⟩, List.mem_of_getElem? (i := 93) (by decide +kernel), List.mem_of_getElem? (i := 536) (by decide +kernel), List.mem_of_getElem? (i := 537) (by decide +kernel)⟩
theorem lw_p37 : lw_okq (⟨"GroupCastModel", "isNode", "(I)Z"⟩, 35) := ⟨⟨by decide +kernel, by decide +kernel⟩, List.mem_of_getElem? (i := 600) (by decide +kernel), List.mem_of_getElem? (i := 717) (by decide +kernel), List.mem_of_getElem? (i := 718) (by decide +kernel)⟩
theorem lw_p38 : lw_okq (⟨"GroupCastModel", "isBlocked", "(I)Z"⟩, 35) := ⟨⟨by decide +kernel, by decide +kernel⟩, List.mem_of_getElem? (i := 600) (by decide +kernel), List.mem_of_getElem? (i := 724) (by decide +kernel), List.mem_of_getElem? (i := 725) (by decide +kernel)⟩
theorem lw_p39 : lw_okq (⟨"GroupCastModel", "leader", "(I)I"⟩, 35) := ⟨⟨by decide +kernel, by decide +kernel⟩, List.mem_of_getElem? (i := 600) (by decide +kernel), List.mem_of_getElem? (i := 728) (by decide +kernel), List.mem_of_getElem? (i := 729) (by decide +kernel)⟩
theorem lw_p40 : lw_okq (⟨"GroupCastModel", "send", "(IIIIIII)V"⟩, 35) := ⟨⟨by decide +kernel, by decide +kernel⟩, List.mem_of_getElem? (i := 600) (by decide +kernel), List.mem_of_getElem? (i := 735) (by decide +kernel), List.mem_of_getElem? (i := 736) (by decide +kernel)⟩
theorem lw_p41 : lw_okq (⟨"GroupCastModel", "add", "(II)V"⟩, 35) := ⟨⟨by decide +kernel, by decide +kernel⟩, List.mem_of_getElem? (i := 600) (by decide +kernel), List.mem_of_getElem? (i := 739) (by decide +kernel), List.mem_of_getElem? (i := 740) (by decide +kernel)⟩
theorem lw_p42 : lw_okq (⟨"GroupCastModel", "sendAll", "(IIIIIII)V"⟩, 35) := ⟨⟨by decide +kernel, by decide +kernel⟩, List.mem_of_getElem? (i := 600) (by decide +kernel), List.mem_of_getElem? (i := 743) (by decide +kernel), List.mem_of_getElem? (i := 744) (by decide +kernel)⟩
theorem lw_p43 : lw_okq (⟨"GroupCastModel", "look", "(I)V"⟩, 35) := ⟨⟨by decide +kernel, by decide +kernel⟩, List.mem_of_getElem? (i := 600) (by decide +kernel), List.mem_of_getElem? (i := 747) (by decide +kernel), List.mem_of_getElem? (i := 748) (by decide +kernel)⟩
theorem lw_p44 : lw_okq (⟨"GroupCastModel", "carryTo", "(II)V"⟩, 35) := ⟨⟨by decide +kernel, by decide +kernel⟩, List.mem_of_getElem? (i := 600) (by decide +kernel), List.mem_of_getElem? (i := 751) (by decide +kernel), List.mem_of_getElem? (i := 752) (by decide +kernel)⟩
theorem lw_p45 : lw_okq (⟨"GroupCastModel", "carry", "(I)V"⟩, 35) := ⟨⟨by decide +kernel, by decide +kernel⟩, List.mem_of_getElem? (i := 600) (by decide +kernel), List.mem_of_getElem? (i := 755) (by decide +kernel), List.mem_of_getElem? (i := 756) (by decide +kernel)⟩
theorem lw_p46 : lw_okq (⟨"GroupCastModel", "push", "(II)V"⟩, 35) := ⟨⟨by decide +kernel, by decide +kernel⟩, List.mem_of_getElem? (i := 600) (by decide +kernel), List.mem_of_getElem? (i := 759) (by decide +kernel), List.mem_of_getElem? (i := 760) (by decide +kernel)⟩
theorem lw_p47 : lw_okq (⟨"GroupCastModel", "oldest", "(II)I"⟩, 35) := ⟨⟨by decide +kernel, by decide +kernel⟩, List.mem_of_getElem? (i := 600) (by decide +kernel), List.mem_of_getElem? (i := 767) (by decide +kernel), List.mem_of_getElem? (i := 768) (by decide +kernel)⟩
def lw_privs_3 : List (MethodName × Nat) := [(⟨"GroupCast$Node", "onBegin", "(LGroupCast$Letter;)V"⟩, 17), (⟨"GroupCast$Node", "begin", "(I)V"⟩, 17), (⟨"GroupCast$Node", "giveBest", "()V"⟩, 17), (⟨"GroupCast$Node", "beginAnew", "()V"⟩, 17), (⟨"GroupCast$Node", "isChanging", "()Z"⟩, 17), (⟨"GroupCastModel", "isNode", "(I)Z"⟩, 35), (⟨"GroupCastModel", "isBlocked", "(I)Z"⟩, 35), (⟨"GroupCastModel", "leader", "(I)I"⟩, 35), (⟨"GroupCastModel", "send", "(IIIIIII)V"⟩, 35), (⟨"GroupCastModel", "add", "(II)V"⟩, 35), (⟨"GroupCastModel", "sendAll", "(IIIIIII)V"⟩, 35), (⟨"GroupCastModel", "look", "(I)V"⟩, 35), (⟨"GroupCastModel", "carryTo", "(II)V"⟩, 35), (⟨"GroupCastModel", "carry", "(I)V"⟩, 35), (⟨"GroupCastModel", "push", "(II)V"⟩, 35), (⟨"GroupCastModel", "oldest", "(II)I"⟩, 35)]
theorem lw_r3 : ∀ q ∈ lw_privs_3, lw_okq q := List.forall_mem_cons.mpr ⟨lw_p32, List.forall_mem_cons.mpr ⟨lw_p33, List.forall_mem_cons.mpr ⟨lw_p34, List.forall_mem_cons.mpr ⟨lw_p35, List.forall_mem_cons.mpr ⟨lw_p36, List.forall_mem_cons.mpr ⟨lw_p37, List.forall_mem_cons.mpr ⟨lw_p38, List.forall_mem_cons.mpr ⟨lw_p39, List.forall_mem_cons.mpr ⟨lw_p40, List.forall_mem_cons.mpr ⟨lw_p41, List.forall_mem_cons.mpr ⟨lw_p42, List.forall_mem_cons.mpr ⟨lw_p43, List.forall_mem_cons.mpr ⟨lw_p44, List.forall_mem_cons.mpr ⟨lw_p45, List.forall_mem_cons.mpr ⟨lw_p46, List.forall_mem_cons.mpr ⟨lw_p47, fun _ h => absurd h List.not_mem_nil⟩⟩⟩⟩⟩⟩⟩⟩⟩⟩⟩⟩⟩⟩⟩⟩
theorem lw_p48 : lw_okq (⟨"GroupCastModel", "keepLetter", "(I)V"⟩, 35) := ⟨⟨by decide +kernel, by decide +kernel⟩, List.mem_of_getElem? (i := 600) (by decide +kernel), List.mem_of_getElem? (i := 771) (by decide +kernel), List.mem_of_getElem? (i := 772) (by decide +kernel)⟩
theorem lw_p49 : lw_okq (⟨"GroupCastModel", "come", "(I)V"⟩, 35) := ⟨⟨by decide +kernel, by decide +kernel⟩, List.mem_of_getElem? (i := 600) (by decide +kernel), List.mem_of_getElem? (i := 775) (by decide +kernel), List.mem_of_getElem? (i := 776) (by decide +kernel)⟩
theorem lw_p50 : lw_okq (⟨"GroupCastModel", "ask", "(I)V"⟩, 35) := ⟨⟨by decide +kernel, by decide +kernel⟩, List.mem_of_getElem? (i := 600) (by decide +kernel), List.mem_of_getElem? (i := 779) (by decide +kernel), List.mem_of_getElem? (i := 780) (by decide +kernel)⟩
theorem lw_p51 : lw_okq (⟨"GroupCastModel", "flush", "(I)V"⟩, 35) := ⟨⟨by decide +kernel, by decide +kernel⟩, List.mem_of_getElem? (i := 600) (by decide +kernel), List.mem_of_getElem? (i := 783) (by decide +kernel), List.mem_of_getElem? (i := 784) (by decide +kernel)⟩
theorem lw_p52 : lw_okq (⟨"GroupCastModel", "many", "(I)I"⟩, 35) := ⟨⟨by decide +kernel, by decide +kernel⟩, List.mem_of_getElem? (i := 600) (by decide +kernel), List.mem_of_getElem? (i := 787) (by decide +kernel), List.mem_of_getElem? (i := 788) (by decide +kernel)⟩
theorem lw_p53 : lw_okq (⟨"GroupCastModel", "choose", "(I)V"⟩, 35) := ⟨⟨by decide +kernel, by decide +kernel⟩, List.mem_of_getElem? (i := 600) (by decide +kernel), List.mem_of_getElem? (i := 791) (by decide +kernel), List.mem_of_getElem? (i := 792) (by decide +kernel)⟩
theorem lw_p54 : lw_okq (⟨"GroupCastModel", "found", "(I)V"⟩, 35) := ⟨⟨by decide +kernel, by decide +kernel⟩, List.mem_of_getElem? (i := 600) (by decide +kernel), List.mem_of_getElem? (i := 795) (by decide +kernel), List.mem_of_getElem? (i := 796) (by decide +kernel)⟩
theorem lw_p55 : lw_okq (⟨"GroupCastModel", "begin", "(III)V"⟩, 35) := ⟨⟨by decide +kernel, by decide +kernel⟩, List.mem_of_getElem? (i := 600) (by decide +kernel), List.mem_of_getElem? (i := 799) (by decide +kernel), List.mem_of_getElem? (i := 800) (by decide +kernel)⟩
theorem lw_p56 : lw_okq (⟨"GroupCastModel", "comeOfView", "(III)V"⟩, 35) := ⟨⟨by decide +kernel, by decide +kernel⟩, List.mem_of_getElem? (i := 600) (by decide +kernel), List.mem_of_getElem? (i := 803) (by decide +kernel), List.mem_of_getElem? (i := 804) (by decide +kernel)⟩
def lw_privs_4 : List (MethodName × Nat) := [(⟨"GroupCastModel", "keepLetter", "(I)V"⟩, 35), (⟨"GroupCastModel", "come", "(I)V"⟩, 35), (⟨"GroupCastModel", "ask", "(I)V"⟩, 35), (⟨"GroupCastModel", "flush", "(I)V"⟩, 35), (⟨"GroupCastModel", "many", "(I)I"⟩, 35), (⟨"GroupCastModel", "choose", "(I)V"⟩, 35), (⟨"GroupCastModel", "found", "(I)V"⟩, 35), (⟨"GroupCastModel", "begin", "(III)V"⟩, 35), (⟨"GroupCastModel", "comeOfView", "(III)V"⟩, 35)]
theorem lw_r4 : ∀ q ∈ lw_privs_4, lw_okq q := List.forall_mem_cons.mpr ⟨lw_p48, List.forall_mem_cons.mpr ⟨lw_p49, List.forall_mem_cons.mpr ⟨lw_p50, List.forall_mem_cons.mpr ⟨lw_p51, List.forall_mem_cons.mpr ⟨lw_p52, List.forall_mem_cons.mpr ⟨lw_p53, List.forall_mem_cons.mpr ⟨lw_p54, List.forall_mem_cons.mpr ⟨lw_p55, List.forall_mem_cons.mpr ⟨lw_p56, fun _ h => absurd h List.not_mem_nil⟩⟩⟩⟩⟩⟩⟩⟩⟩
def lw_privs : List (MethodName × Nat) := lw_privs_1 ++ (lw_privs_2 ++ (lw_privs_3 ++ (lw_privs_4)))
def lw_tbl : List Cond := k2_sels lw_privs ++ tables_1
theorem lw_privs_ok : ∀ q ∈ lw_privs, lw_okq q := by
  show ∀ q ∈ lw_privs_1 ++ (lw_privs_2 ++ (lw_privs_3 ++ (lw_privs_4))), lw_okq q
  exact List.forall_mem_append.mpr ⟨lw_r1, List.forall_mem_append.mpr ⟨lw_r2, List.forall_mem_append.mpr ⟨lw_r3, lw_r4⟩⟩⟩
def RX0 : String := "GroupCast$Change"
def TX0 : u_T := fun k => match k with
  | 0 => ("GroupCast$Change", "members", "I", false)
  | 1 => ("GroupCast$Change", "awaited", "I", false)
  | 2 => ("GroupCast$Change", "best", "[I", false)
  | 3 => ("GroupCast$Change", "bestStamp", "I", false)
  | _ => ("GroupCast$Change", "bestNode", "I", false)
def tyX0 : Nat → FieldType := fun k => match k with
  | 0 => .int
  | 1 => .int
  | 2 => .array .int
  | 3 => .int
  | _ => .int
theorem nmX0 : ∀ a, a < 5 → ∀ b, b < 5 → a ≠ b → (TX0 a).2.1 ≠ (TX0 b).2.1 := by decide +kernel
theorem tyX0_ok : ∀ k, k < 5 → parseFieldDescriptor (TX0 k).2.2.1 = some (tyX0 k) := by decide +kernel
abbrev cX0_init : ByteArray := prog_2_method_1_code
def yX0_init : MethodName := ⟨RX0, "<init>", "()V"⟩
abbrev cX0_start : ByteArray := prog_2_method_2_code
def yX0_start : MethodName := ⟨RX0, "start", "(III[I)V"⟩
abbrev cX0_answered : ByteArray := prog_2_method_3_code
def yX0_answered : MethodName := ⟨RX0, "answered", "(I)V"⟩
abbrev cX0_weigh : ByteArray := prog_2_method_4_code
def yX0_weigh : MethodName := ⟨RX0, "weigh", "(II[I)V"⟩
abbrev cX0_isBetter : ByteArray := prog_2_method_5_code
def yX0_isBetter : MethodName := ⟨RX0, "isBetter", "(III)Z"⟩
def RX1 : String := "GroupCast$Channel"
def TX1 : u_T := fun k => match k with
  | 0 => ("GroupCast$Channel", "first", "LGroupCast$Letter;", false)
  | 1 => ("GroupCast$Channel", "last", "LGroupCast$Letter;", false)
  | _ => ("GroupCast$Channel", "size", "I", false)
def tyX1 : Nat → FieldType := fun k => match k with
  | 0 => .object "GroupCast$Letter"
  | 1 => .object "GroupCast$Letter"
  | _ => .int
theorem nmX1 : ∀ a, a < 3 → ∀ b, b < 3 → a ≠ b → (TX1 a).2.1 ≠ (TX1 b).2.1 := by decide +kernel
theorem tyX1_ok : ∀ k, k < 3 → parseFieldDescriptor (TX1 k).2.2.1 = some (tyX1 k) := by decide +kernel
abbrev cX1_init : ByteArray := prog_3_method_1_code
def yX1_init : MethodName := ⟨RX1, "<init>", "()V"⟩
abbrev cX1_put : ByteArray := prog_3_method_2_code
def yX1_put : MethodName := ⟨RX1, "put", "(LGroupCast$Letter;)V"⟩
abbrev cX1_take : ByteArray := prog_3_method_3_code
def yX1_take : MethodName := ⟨RX1, "take", "()LGroupCast$Letter;"⟩
def RX2 : String := "GroupCast$Letter"
def TX2 : u_T := fun k => match k with
  | 0 => ("GroupCast$Letter", "kind", "I", true)
  | 1 => ("GroupCast$Letter", "number", "I", true)
  | 2 => ("GroupCast$Letter", "detail", "I", true)
  | 3 => ("GroupCast$Letter", "acts", "[I", true)
  | _ => ("GroupCast$Letter", "next", "LGroupCast$Letter;", false)
def tyX2 : Nat → FieldType := fun k => match k with
  | 0 => .int
  | 1 => .int
  | 2 => .int
  | 3 => .array .int
  | _ => .object "GroupCast$Letter"
theorem nmX2 : ∀ a, a < 5 → ∀ b, b < 5 → a ≠ b → (TX2 a).2.1 ≠ (TX2 b).2.1 := by decide +kernel
theorem tyX2_ok : ∀ k, k < 5 → parseFieldDescriptor (TX2 k).2.2.1 = some (tyX2 k) := by decide +kernel
abbrev cX2_init : ByteArray := prog_4_method_1_code
def yX2_init : MethodName := ⟨RX2, "<init>", "(III[I)V"⟩
abbrev cX2_firstAct : ByteArray := prog_4_method_2_code
def yX2_firstAct : MethodName := ⟨RX2, "firstAct", "()I"⟩
abbrev cX2_tell : ByteArray := prog_4_method_3_code
def yX2_tell : MethodName := ⟨RX2, "tell", "(I)I"⟩
def RX3 : String := "GroupCast$Machine"
def TX3 : u_T := fun k => match k with
  | 0 => ("GroupCast$Machine", "ints", "[I", true)
  | _ => ("GroupCast$Machine", "size", "I", false)
def tyX3 : Nat → FieldType := fun k => match k with
  | 0 => .array .int
  | _ => .int
theorem nmX3 : ∀ a, a < 2 → ∀ b, b < 2 → a ≠ b → (TX3 a).2.1 ≠ (TX3 b).2.1 := by decide +kernel
theorem tyX3_ok : ∀ k, k < 2 → parseFieldDescriptor (TX3 k).2.2.1 = some (tyX3 k) := by decide +kernel
abbrev cX3_init : ByteArray := prog_5_method_1_code
def yX3_init : MethodName := ⟨RX3, "<init>", "()V"⟩
abbrev cX3_carryOut : ByteArray := prog_5_method_2_code
def yX3_carryOut : MethodName := ⟨RX3, "carryOut", "(I)V"⟩
abbrev cX3_fromTop : ByteArray := prog_5_method_3_code
def yX3_fromTop : MethodName := ⟨RX3, "fromTop", "(I)I"⟩
abbrev cX3_push : ByteArray := prog_5_method_4_code
def yX3_push : MethodName := ⟨RX3, "push", "(I)V"⟩
abbrev cX3_add : ByteArray := prog_5_method_5_code
def yX3_add : MethodName := ⟨RX3, "add", "()V"⟩
abbrev cX3_multiply : ByteArray := prog_5_method_6_code
def yX3_multiply : MethodName := ⟨RX3, "multiply", "()V"⟩
abbrev cX3_duplicate : ByteArray := prog_5_method_7_code
def yX3_duplicate : MethodName := ⟨RX3, "duplicate", "()V"⟩
abbrev cX3_drop : ByteArray := prog_5_method_8_code
def yX3_drop : MethodName := ⟨RX3, "drop", "()V"⟩
abbrev cX3_swap : ByteArray := prog_5_method_9_code
def yX3_swap : MethodName := ⟨RX3, "swap", "()V"⟩
def RX4 : String := "GroupCast$Node"
def TX4 : u_T := fun k => match k with
  | 0 => ("GroupCast$Node", "id", "I", true)
  | 1 => ("GroupCast$Node", "groupSize", "I", true)
  | 2 => ("GroupCast$Node", "post", "LGroupCast$Post;", true)
  | 3 => ("GroupCast$Node", "tally", "LGroupCast$Tally;", true)
  | 4 => ("GroupCast$Node", "row", "LGroupCast$Row;", true)
  | 5 => ("GroupCast$Node", "machine", "LGroupCast$Machine;", true)
  | 6 => ("GroupCast$Node", "change", "LGroupCast$Change;", true)
  | 7 => ("GroupCast$Node", "toldHeld", "[I", true)
  | 8 => ("GroupCast$Node", "life", "I", false)
  | 9 => ("GroupCast$Node", "task", "I", false)
  | 10 => ("GroupCast$Node", "view", "I", false)
  | 11 => ("GroupCast$Node", "members", "I", false)
  | 12 => ("GroupCast$Node", "promise", "I", false)
  | 13 => ("GroupCast$Node", "stamp", "I", false)
  | 14 => ("GroupCast$Node", "carriedOut", "I", false)
  | 15 => ("GroupCast$Node", "suspects", "I", false)
  | _ => ("GroupCast$Node", "lastFlusher", "I", false)
def tyX4 : Nat → FieldType := fun k => match k with
  | 0 => .int
  | 1 => .int
  | 2 => .object "GroupCast$Post"
  | 3 => .object "GroupCast$Tally"
  | 4 => .object "GroupCast$Row"
  | 5 => .object "GroupCast$Machine"
  | 6 => .object "GroupCast$Change"
  | 7 => .array .int
  | 8 => .int
  | 9 => .int
  | 10 => .int
  | 11 => .int
  | 12 => .int
  | 13 => .int
  | 14 => .int
  | 15 => .int
  | _ => .int
theorem nmX4 : ∀ a, a < 17 → ∀ b, b < 17 → a ≠ b → (TX4 a).2.1 ≠ (TX4 b).2.1 := by decide +kernel
theorem tyX4_ok : ∀ k, k < 17 → parseFieldDescriptor (TX4 k).2.2.1 = some (tyX4 k) := by decide +kernel
abbrev cX4_init : ByteArray := prog_6_method_1_code
def yX4_init : MethodName := ⟨RX4, "<init>", "(IILGroupCast$Post;LGroupCast$Tally;)V"⟩
abbrev cX4_tell : ByteArray := prog_6_method_2_code
def yX4_tell : MethodName := ⟨RX4, "tell", "(I)I"⟩
abbrev cX4_isLive : ByteArray := prog_6_method_3_code
def yX4_isLive : MethodName := ⟨RX4, "isLive", "()Z"⟩
abbrev cX4_isBlocked : ByteArray := prog_6_method_4_code
def yX4_isBlocked : MethodName := ⟨RX4, "isBlocked", "()Z"⟩
abbrev cX4_isChanging : ByteArray := prog_6_method_5_code
def yX4_isChanging : MethodName := ⟨RX4, "isChanging", "()Z"⟩
abbrev cX4_leader : ByteArray := prog_6_method_6_code
def yX4_leader : MethodName := ⟨RX4, "leader", "()I"⟩
abbrev cX4_leadsUnblocked : ByteArray := prog_6_method_7_code
def yX4_leadsUnblocked : MethodName := ⟨RX4, "leadsUnblocked", "()Z"⟩
abbrev cX4_areMost : ByteArray := prog_6_method_8_code
def yX4_areMost : MethodName := ⟨RX4, "areMost", "(I)Z"⟩
abbrev cX4_others : ByteArray := prog_6_method_9_code
def yX4_others : MethodName := ⟨RX4, "others", "()I"⟩
abbrev cX4_reply : ByteArray := prog_6_method_10_code
def yX4_reply : MethodName := ⟨RX4, "reply", "(IIII)V"⟩
abbrev cX4_accept : ByteArray := prog_6_method_11_code
def yX4_accept : MethodName := ⟨RX4, "accept", "(I)I"⟩
abbrev cX4_putInOrder : ByteArray := prog_6_method_12_code
def yX4_putInOrder : MethodName := ⟨RX4, "putInOrder", "(I)V"⟩
abbrev cX4_carryOutWhatMostHold : ByteArray := prog_6_method_13_code
def yX4_carryOutWhatMostHold : MethodName := ⟨RX4, "carryOutWhatMostHold", "()V"⟩
abbrev cX4_heldByMost : ByteArray := prog_6_method_14_code
def yX4_heldByMost : MethodName := ⟨RX4, "heldByMost", "()I"⟩
abbrev cX4_holdersOf : ByteArray := prog_6_method_15_code
def yX4_holdersOf : MethodName := ⟨RX4, "holdersOf", "(I)I"⟩
abbrev cX4_carryOutUpTo : ByteArray := prog_6_method_16_code
def yX4_carryOutUpTo : MethodName := ⟨RX4, "carryOutUpTo", "(I)V"⟩
abbrev cX4_receive : ByteArray := prog_6_method_17_code
def yX4_receive : MethodName := ⟨RX4, "receive", "(ILGroupCast$Letter;)V"⟩
abbrev cX4_onPass : ByteArray := prog_6_method_18_code
def yX4_onPass : MethodName := ⟨RX4, "onPass", "(LGroupCast$Letter;)V"⟩
abbrev cX4_onOrder : ByteArray := prog_6_method_19_code
def yX4_onOrder : MethodName := ⟨RX4, "onOrder", "(ILGroupCast$Letter;)V"⟩
abbrev cX4_onHeld : ByteArray := prog_6_method_20_code
def yX4_onHeld : MethodName := ⟨RX4, "onHeld", "(ILGroupCast$Letter;)V"⟩
abbrev cX4_onDo : ByteArray := prog_6_method_21_code
def yX4_onDo : MethodName := ⟨RX4, "onDo", "(LGroupCast$Letter;)V"⟩
abbrev cX4_onElect : ByteArray := prog_6_method_22_code
def yX4_onElect : MethodName := ⟨RX4, "onElect", "(I)V"⟩
abbrev cX4_onWait : ByteArray := prog_6_method_23_code
def yX4_onWait : MethodName := ⟨RX4, "onWait", "()V"⟩
abbrev cX4_onFlush : ByteArray := prog_6_method_24_code
def yX4_onFlush : MethodName := ⟨RX4, "onFlush", "(ILGroupCast$Letter;)V"⟩
abbrev cX4_onFlushed : ByteArray := prog_6_method_25_code
def yX4_onFlushed : MethodName := ⟨RX4, "onFlushed", "(ILGroupCast$Letter;)V"⟩
abbrev cX4_onSync : ByteArray := prog_6_method_26_code
def yX4_onSync : MethodName := ⟨RX4, "onSync", "(ILGroupCast$Letter;)V"⟩
abbrev cX4_onSynced : ByteArray := prog_6_method_27_code
def yX4_onSynced : MethodName := ⟨RX4, "onSynced", "(ILGroupCast$Letter;)V"⟩
abbrev cX4_onBegin : ByteArray := prog_6_method_28_code
def yX4_onBegin : MethodName := ⟨RX4, "onBegin", "(LGroupCast$Letter;)V"⟩
abbrev cX4_goOn : ByteArray := prog_6_method_29_code
def yX4_goOn : MethodName := ⟨RX4, "goOn", "()V"⟩
abbrev cX4_giveBest : ByteArray := prog_6_method_30_code
def yX4_giveBest : MethodName := ⟨RX4, "giveBest", "()V"⟩
abbrev cX4_beginAnew : ByteArray := prog_6_method_31_code
def yX4_beginAnew : MethodName := ⟨RX4, "beginAnew", "()V"⟩
abbrev cX4_begin : ByteArray := prog_6_method_32_code
def yX4_begin : MethodName := ⟨RX4, "begin", "(I)V"⟩
abbrev cX4_ask : ByteArray := prog_6_method_33_code
def yX4_ask : MethodName := ⟨RX4, "ask", "()V"⟩
abbrev cX4_flush : ByteArray := prog_6_method_34_code
def yX4_flush : MethodName := ⟨RX4, "flush", "()V"⟩
abbrev cX4_nextOwnNumber : ByteArray := prog_6_method_35_code
def yX4_nextOwnNumber : MethodName := ⟨RX4, "nextOwnNumber", "()I"⟩
abbrev cX4_turnAgainst : ByteArray := prog_6_method_36_code
def yX4_turnAgainst : MethodName := ⟨RX4, "turnAgainst", "(I)V"⟩
abbrev cX4_losePatience : ByteArray := prog_6_method_37_code
def yX4_losePatience : MethodName := ⟨RX4, "losePatience", "()V"⟩
def RX5 : String := "GroupCast$Post"
def TX5 : u_T := fun k => match k with
  | 0 => ("GroupCast$Post", "size", "I", true)
  | 1 => ("GroupCast$Post", "tally", "LGroupCast$Tally;", true)
  | 2 => ("GroupCast$Post", "channels", "[LGroupCast$Channel;", true)
  | _ => ("GroupCast$Post", "inFlight", "I", false)
def tyX5 : Nat → FieldType := fun k => match k with
  | 0 => .int
  | 1 => .object "GroupCast$Tally"
  | 2 => .array (.object "GroupCast$Channel")
  | _ => .int
theorem nmX5 : ∀ a, a < 4 → ∀ b, b < 4 → a ≠ b → (TX5 a).2.1 ≠ (TX5 b).2.1 := by decide +kernel
theorem tyX5_ok : ∀ k, k < 4 → parseFieldDescriptor (TX5 k).2.2.1 = some (tyX5 k) := by decide +kernel
abbrev cX5_init : ByteArray := prog_7_method_1_code
def yX5_init : MethodName := ⟨RX5, "<init>", "(ILGroupCast$Tally;)V"⟩
abbrev cX5_between : ByteArray := prog_7_method_2_code
def yX5_between : MethodName := ⟨RX5, "between", "(II)LGroupCast$Channel;"⟩
abbrev cX5_takeOldest : ByteArray := prog_7_method_3_code
def yX5_takeOldest : MethodName := ⟨RX5, "takeOldest", "(LGroupCast$Channel;)LGroupCast$Letter;"⟩
abbrev cX5_send : ByteArray := prog_7_method_4_code
def yX5_send : MethodName := ⟨RX5, "send", "(IIIII[I)V"⟩
def RX6 : String := "GroupCast$Row"
def TX6 : u_T := fun k => match k with
  | 0 => ("GroupCast$Row", "acts", "[I", true)
  | _ => ("GroupCast$Row", "size", "I", false)
def tyX6 : Nat → FieldType := fun k => match k with
  | 0 => .array .int
  | _ => .int
theorem nmX6 : ∀ a, a < 2 → ∀ b, b < 2 → a ≠ b → (TX6 a).2.1 ≠ (TX6 b).2.1 := by decide +kernel
theorem tyX6_ok : ∀ k, k < 2 → parseFieldDescriptor (TX6 k).2.2.1 = some (tyX6 k) := by decide +kernel
abbrev cX6_init : ByteArray := prog_8_method_1_code
def yX6_init : MethodName := ⟨RX6, "<init>", "()V"⟩
abbrev cX6_isFull : ByteArray := prog_8_method_2_code
def yX6_isFull : MethodName := ⟨RX6, "isFull", "()Z"⟩
abbrev cX6_add : ByteArray := prog_8_method_3_code
def yX6_add : MethodName := ⟨RX6, "add", "(I)V"⟩
abbrev cX6_copy : ByteArray := prog_8_method_4_code
def yX6_copy : MethodName := ⟨RX6, "copy", "()[I"⟩
abbrev cX6_become : ByteArray := prog_8_method_5_code
def yX6_become : MethodName := ⟨RX6, "become", "([I)V"⟩
def RX7 : String := "GroupCast$Tally"
def TX7 : u_T := fun k => match k with
  | 0 => ("GroupCast$Tally", "sent", "I", false)
  | 1 => ("GroupCast$Tally", "lost", "I", false)
  | 2 => ("GroupCast$Tally", "carriedOut", "I", false)
  | 3 => ("GroupCast$Tally", "begins", "I", false)
  | _ => ("GroupCast$Tally", "flushes", "I", false)
def tyX7 : Nat → FieldType := fun k => match k with
  | 0 => .int
  | 1 => .int
  | 2 => .int
  | 3 => .int
  | _ => .int
theorem nmX7 : ∀ a, a < 5 → ∀ b, b < 5 → a ≠ b → (TX7 a).2.1 ≠ (TX7 b).2.1 := by decide +kernel
theorem tyX7_ok : ∀ k, k < 5 → parseFieldDescriptor (TX7 k).2.2.1 = some (tyX7 k) := by decide +kernel
abbrev cX7_init : ByteArray := prog_9_method_1_code
def yX7_init : MethodName := ⟨RX7, "<init>", "()V"⟩
abbrev cX7_tell : ByteArray := prog_9_method_2_code
def yX7_tell : MethodName := ⟨RX7, "tell", "(I)I"⟩
def RX8 : String := "GroupCast"
def TX8 : u_T := fun k => match k with
  | 0 => ("GroupCast", "tally", "LGroupCast$Tally;", true)
  | 1 => ("GroupCast", "post", "LGroupCast$Post;", true)
  | _ => ("GroupCast", "nodes", "[LGroupCast$Node;", true)
def tyX8 : Nat → FieldType := fun k => match k with
  | 0 => .object "GroupCast$Tally"
  | 1 => .object "GroupCast$Post"
  | _ => .array (.object "GroupCast$Node")
theorem nmX8 : ∀ a, a < 3 → ∀ b, b < 3 → a ≠ b → (TX8 a).2.1 ≠ (TX8 b).2.1 := by decide +kernel
theorem tyX8_ok : ∀ k, k < 3 → parseFieldDescriptor (TX8 k).2.2.1 = some (tyX8 k) := by decide +kernel
abbrev cX8_init : ByteArray := prog_1_method_1_code
def yX8_init : MethodName := ⟨RX8, "<init>", "(I)V"⟩
abbrev cX8_submit : ByteArray := prog_1_method_2_code
def yX8_submit : MethodName := ⟨RX8, "submit", "(II)I"⟩
abbrev cX8_deliver : ByteArray := prog_1_method_3_code
def yX8_deliver : MethodName := ⟨RX8, "deliver", "(II)I"⟩
abbrev cX8_suspect : ByteArray := prog_1_method_4_code
def yX8_suspect : MethodName := ⟨RX8, "suspect", "(II)I"⟩
abbrev cX8_crash : ByteArray := prog_1_method_5_code
def yX8_crash : MethodName := ⟨RX8, "crash", "(I)Z"⟩
abbrev cX8_timeout : ByteArray := prog_1_method_6_code
def yX8_timeout : MethodName := ⟨RX8, "timeout", "(I)I"⟩
abbrev cX8_node : ByteArray := prog_1_method_7_code
def yX8_node : MethodName := ⟨RX8, "node", "(II)I"⟩
abbrev cX8_held : ByteArray := prog_1_method_8_code
def yX8_held : MethodName := ⟨RX8, "held", "(II)I"⟩
abbrev cX8_depth : ByteArray := prog_1_method_9_code
def yX8_depth : MethodName := ⟨RX8, "depth", "(I)I"⟩
abbrev cX8_top : ByteArray := prog_1_method_10_code
def yX8_top : MethodName := ⟨RX8, "top", "(II)I"⟩
abbrev cX8_flying : ByteArray := prog_1_method_11_code
def yX8_flying : MethodName := ⟨RX8, "flying", "(II)I"⟩
abbrev cX8_letter : ByteArray := prog_1_method_12_code
def yX8_letter : MethodName := ⟨RX8, "letter", "(III)I"⟩
abbrev cX8_count : ByteArray := prog_1_method_13_code
def yX8_count : MethodName := ⟨RX8, "count", "(I)I"⟩
abbrev cX8_find : ByteArray := prog_1_method_14_code
def yX8_find : MethodName := ⟨RX8, "find", "(I)LGroupCast$Node;"⟩
abbrev cX8_isAct : ByteArray := prog_1_method_15_code
def yX8_isAct : MethodName := ⟨RX8, "isAct", "(I)Z"⟩
abbrev cX8_has : ByteArray := prog_1_method_16_code
def yX8_has : MethodName := ⟨RX8, "has", "(II)Z"⟩
abbrev cX8_without : ByteArray := prog_1_method_17_code
def yX8_without : MethodName := ⟨RX8, "without", "(II)I"⟩
abbrev cX8_allAbove : ByteArray := prog_1_method_18_code
def yX8_allAbove : MethodName := ⟨RX8, "allAbove", "(II)I"⟩
def RX9 : String := "GroupCastModel"
def TX9 : u_T := fun k => match k with
  | 0 => ("GroupCastModel", "n", "I", true)
  | 1 => ("GroupCastModel", "state", "[I", true)
  | 2 => ("GroupCastModel", "view", "[I", true)
  | 3 => ("GroupCastModel", "members", "[I", true)
  | 4 => ("GroupCastModel", "acts", "[I", true)
  | 5 => ("GroupCastModel", "holds", "[I", true)
  | 6 => ("GroupCastModel", "carried", "[I", true)
  | 7 => ("GroupCastModel", "stamp", "[I", true)
  | 8 => ("GroupCastModel", "promise", "[I", true)
  | 9 => ("GroupCastModel", "suspects", "[I", true)
  | 10 => ("GroupCastModel", "task", "[I", true)
  | 11 => ("GroupCastModel", "toBe", "[I", true)
  | 12 => ("GroupCastModel", "asker", "[I", true)
  | 13 => ("GroupCastModel", "has", "[I", true)
  | 14 => ("GroupCastModel", "got", "[I", true)
  | 15 => ("GroupCastModel", "gotStamp", "[I", true)
  | 16 => ("GroupCastModel", "gotSize", "[I", true)
  | 17 => ("GroupCastModel", "gotActs", "[I", true)
  | 18 => ("GroupCastModel", "stack", "[I", true)
  | 19 => ("GroupCastModel", "depth", "[I", true)
  | 20 => ("GroupCastModel", "flies", "[Z", true)
  | 21 => ("GroupCastModel", "from", "[I", true)
  | 22 => ("GroupCastModel", "to", "[I", true)
  | 23 => ("GroupCastModel", "kind", "[I", true)
  | 24 => ("GroupCastModel", "number", "[I", true)
  | 25 => ("GroupCastModel", "told", "[I", true)
  | 26 => ("GroupCastModel", "size", "[I", true)
  | 27 => ("GroupCastModel", "row", "[I", true)
  | 28 => ("GroupCastModel", "order", "[I", true)
  | 29 => ("GroupCastModel", "flying", "I", false)
  | 30 => ("GroupCastModel", "sent", "I", false)
  | 31 => ("GroupCastModel", "lost", "I", false)
  | 32 => ("GroupCastModel", "done", "I", false)
  | 33 => ("GroupCastModel", "begins", "I", false)
  | _ => ("GroupCastModel", "flushes", "I", false)
def tyX9 : Nat → FieldType := fun k => match k with
  | 0 => .int
  | 1 => .array .int
  | 2 => .array .int
  | 3 => .array .int
  | 4 => .array .int
  | 5 => .array .int
  | 6 => .array .int
  | 7 => .array .int
  | 8 => .array .int
  | 9 => .array .int
  | 10 => .array .int
  | 11 => .array .int
  | 12 => .array .int
  | 13 => .array .int
  | 14 => .array .int
  | 15 => .array .int
  | 16 => .array .int
  | 17 => .array .int
  | 18 => .array .int
  | 19 => .array .int
  | 20 => .array .boolean
  | 21 => .array .int
  | 22 => .array .int
  | 23 => .array .int
  | 24 => .array .int
  | 25 => .array .int
  | 26 => .array .int
  | 27 => .array .int
  | 28 => .array .int
  | 29 => .int
  | 30 => .int
  | 31 => .int
  | 32 => .int
  | 33 => .int
  | _ => .int
theorem nmX9 : ∀ a, a < 35 → ∀ b, b < 35 → a ≠ b → (TX9 a).2.1 ≠ (TX9 b).2.1 := by decide +kernel
theorem tyX9_ok : ∀ k, k < 35 → parseFieldDescriptor (TX9 k).2.2.1 = some (tyX9 k) := by decide +kernel
abbrev cX9_init : ByteArray := prog_11_method_1_code
def yX9_init : MethodName := ⟨RX9, "<init>", "(I)V"⟩
abbrev cX9_isNode : ByteArray := prog_11_method_3_code
def yX9_isNode : MethodName := ⟨RX9, "isNode", "(I)Z"⟩
abbrev cX9_has : ByteArray := prog_11_method_4_code
def yX9_has : MethodName := ⟨RX9, "has", "(II)Z"⟩
abbrev cX9_many : ByteArray := prog_11_method_5_code
def yX9_many : MethodName := ⟨RX9, "many", "(I)I"⟩
abbrev cX9_leader : ByteArray := prog_11_method_6_code
def yX9_leader : MethodName := ⟨RX9, "leader", "(I)I"⟩
abbrev cX9_isBlocked : ByteArray := prog_11_method_7_code
def yX9_isBlocked : MethodName := ⟨RX9, "isBlocked", "(I)Z"⟩
abbrev cX9_send : ByteArray := prog_11_method_8_code
def yX9_send : MethodName := ⟨RX9, "send", "(IIIIIII)V"⟩
abbrev cX9_sendAll : ByteArray := prog_11_method_9_code
def yX9_sendAll : MethodName := ⟨RX9, "sendAll", "(IIIIIII)V"⟩
abbrev cX9_oldest : ByteArray := prog_11_method_10_code
def yX9_oldest : MethodName := ⟨RX9, "oldest", "(II)I"⟩
abbrev cX9_push : ByteArray := prog_11_method_11_code
def yX9_push : MethodName := ⟨RX9, "push", "(II)V"⟩
abbrev cX9_carry : ByteArray := prog_11_method_12_code
def yX9_carry : MethodName := ⟨RX9, "carry", "(I)V"⟩
abbrev cX9_carryTo : ByteArray := prog_11_method_13_code
def yX9_carryTo : MethodName := ⟨RX9, "carryTo", "(II)V"⟩
abbrev cX9_isAct : ByteArray := prog_11_method_14_code
def yX9_isAct : MethodName := ⟨RX9, "isAct", "(I)Z"⟩
abbrev cX9_add : ByteArray := prog_11_method_15_code
def yX9_add : MethodName := ⟨RX9, "add", "(II)V"⟩
abbrev cX9_look : ByteArray := prog_11_method_16_code
def yX9_look : MethodName := ⟨RX9, "look", "(I)V"⟩
abbrev cX9_submit : ByteArray := prog_11_method_17_code
def yX9_submit : MethodName := ⟨RX9, "submit", "(II)I"⟩
abbrev cX9_ask : ByteArray := prog_11_method_18_code
def yX9_ask : MethodName := ⟨RX9, "ask", "(I)V"⟩
abbrev cX9_flush : ByteArray := prog_11_method_19_code
def yX9_flush : MethodName := ⟨RX9, "flush", "(I)V"⟩
abbrev cX9_choose : ByteArray := prog_11_method_20_code
def yX9_choose : MethodName := ⟨RX9, "choose", "(I)V"⟩
abbrev cX9_found : ByteArray := prog_11_method_21_code
def yX9_found : MethodName := ⟨RX9, "found", "(I)V"⟩
abbrev cX9_begin : ByteArray := prog_11_method_22_code
def yX9_begin : MethodName := ⟨RX9, "begin", "(III)V"⟩
abbrev cX9_come : ByteArray := prog_11_method_23_code
def yX9_come : MethodName := ⟨RX9, "come", "(I)V"⟩
abbrev cX9_comeOfView : ByteArray := prog_11_method_24_code
def yX9_comeOfView : MethodName := ⟨RX9, "comeOfView", "(III)V"⟩
abbrev cX9_deliver : ByteArray := prog_11_method_25_code
def yX9_deliver : MethodName := ⟨RX9, "deliver", "(II)I"⟩
abbrev cX9_keepLetter : ByteArray := prog_11_method_26_code
def yX9_keepLetter : MethodName := ⟨RX9, "keepLetter", "(I)V"⟩
abbrev cX9_suspect : ByteArray := prog_11_method_27_code
def yX9_suspect : MethodName := ⟨RX9, "suspect", "(II)I"⟩
abbrev cX9_crash : ByteArray := prog_11_method_28_code
def yX9_crash : MethodName := ⟨RX9, "crash", "(I)Z"⟩
abbrev cX9_timeout : ByteArray := prog_11_method_29_code
def yX9_timeout : MethodName := ⟨RX9, "timeout", "(I)I"⟩
abbrev cX9_node : ByteArray := prog_11_method_30_code
def yX9_node : MethodName := ⟨RX9, "node", "(II)I"⟩
abbrev cX9_held : ByteArray := prog_11_method_31_code
def yX9_held : MethodName := ⟨RX9, "held", "(II)I"⟩
abbrev cX9_depth : ByteArray := prog_11_method_32_code
def yX9_depth : MethodName := ⟨RX9, "depth", "(I)I"⟩
abbrev cX9_top : ByteArray := prog_11_method_33_code
def yX9_top : MethodName := ⟨RX9, "top", "(II)I"⟩
abbrev cX9_flying : ByteArray := prog_11_method_34_code
def yX9_flying : MethodName := ⟨RX9, "flying", "(II)I"⟩
abbrev cX9_letter : ByteArray := prog_11_method_35_code
def yX9_letter : MethodName := ⟨RX9, "letter", "(III)I"⟩
abbrev cX9_count : ByteArray := prog_11_method_36_code
def yX9_count : MethodName := ⟨RX9, "count", "(I)I"⟩
def RJx8e188 : String := "java/lang/Cloneable"
def TJx8e188 : u_T := fun k => match k with
  | _ => ("", "", "", false)
def tyJx8e188 : Nat → FieldType := fun k => match k with
  | _ => .int
theorem nmJx8e188 : ∀ a, a < 0 → ∀ b, b < 0 → a ≠ b → (TJx8e188 a).2.1 ≠ (TJx8e188 b).2.1 := by decide +kernel
theorem tyJx8e188_ok : ∀ k, k < 0 → parseFieldDescriptor (TJx8e188 k).2.2.1 = some (tyJx8e188 k) := by decide +kernel
def RJ6 : String := "java/lang/Integer"
def TJ6 : u_T := fun k => match k with
  | _ => ("", "", "", false)
def tyJ6 : Nat → FieldType := fun k => match k with
  | _ => .int
theorem nmJ6 : ∀ a, a < 0 → ∀ b, b < 0 → a ≠ b → (TJ6 a).2.1 ≠ (TJ6 b).2.1 := by decide +kernel
theorem tyJ6_ok : ∀ k, k < 0 → parseFieldDescriptor (TJ6 k).2.2.1 = some (tyJ6 k) := by decide +kernel
abbrev cJ6_bitCount_0f7a4 : ByteArray := prog_13_method_49_code
def yJ6_bitCount_0f7a4 : MethodName := ⟨RJ6, "bitCount", "(I)I"⟩
def RJ9 : String := "java/lang/Math"
def TJ9 : u_T := fun k => match k with
  | _ => ("", "", "", false)
def tyJ9 : Nat → FieldType := fun k => match k with
  | _ => .int
theorem nmJ9 : ∀ a, a < 0 → ∀ b, b < 0 → a ≠ b → (TJ9 a).2.1 ≠ (TJ9 b).2.1 := by decide +kernel
theorem tyJ9_ok : ∀ k, k < 0 → parseFieldDescriptor (TJ9 k).2.2.1 = some (tyJ9 k) := by decide +kernel
abbrev cJ9_floorMod_7cf53 : ByteArray := prog_14_method_50_code
def yJ9_floorMod_7cf53 : MethodName := ⟨RJ9, "floorMod", "(II)I"⟩
abbrev cJ9_max_7cf53 : ByteArray := prog_14_method_65_code
def yJ9_max_7cf53 : MethodName := ⟨RJ9, "max", "(II)I"⟩
abbrev cJ9_min_7cf53 : ByteArray := prog_14_method_69_code
def yJ9_min_7cf53 : MethodName := ⟨RJ9, "min", "(II)I"⟩
def RJ10 : String := "java/lang/System"
def TJ10 : u_T := fun k => match k with
  | _ => ("", "", "", false)
def tyJ10 : Nat → FieldType := fun k => match k with
  | _ => .int
theorem nmJ10 : ∀ a, a < 0 → ∀ b, b < 0 → a ≠ b → (TJ10 a).2.1 ≠ (TJ10 b).2.1 := by decide +kernel
theorem tyJ10_ok : ∀ k, k < 0 → parseFieldDescriptor (TJ10 k).2.2.1 = some (tyJ10 k) := by decide +kernel
def RJ7 : String := "java/util/Arrays"
def TJ7 : u_T := fun k => match k with
  | _ => ("", "", "", false)
def tyJ7 : Nat → FieldType := fun k => match k with
  | _ => .int
theorem nmJ7 : ∀ a, a < 0 → ∀ b, b < 0 → a ≠ b → (TJ7 a).2.1 ≠ (TJ7 b).2.1 := by decide +kernel
theorem tyJ7_ok : ∀ k, k < 0 → parseFieldDescriptor (TJ7 k).2.2.1 = some (tyJ7 k) := by decide +kernel
abbrev cJ7_fill_53178 : ByteArray := prog_16_method_103_code
def yJ7_fill_53178 : MethodName := ⟨RJ7, "fill", "([II)V"⟩
abbrev cJ7_copyOf_59c91 : ByteArray := prog_16_method_123_code
def yJ7_copyOf_59c91 : MethodName := ⟨RJ7, "copyOf", "([II)[I"⟩
def RL : String := "GroupCastLaw"
abbrev cL_cell : ByteArray := method_2_code
def yL_cell : MethodName := ⟨RL, "cell", "([II)I"⟩
abbrev cL_law : ByteArray := code
def yL_law : MethodName := ⟨RL, "law", "([I)Z"⟩
abbrev vwCl : List vw_C := [(RX0, TX0, 5), (RX1, TX1, 3), (RX2, TX2, 5), (RX3, TX3, 2), (RX4, TX4, 17), (RX5, TX5, 4), (RX6, TX6, 2), (RX7, TX7, 5), (RX8, TX8, 3), (RX9, TX9, 35)]
