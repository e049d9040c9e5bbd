section
-- ===== PART A: goes FIRST, ahead of the names: the tables' words, and 'selects' of the private methods out of them =====
/-- a private method of a class that the tables say can be made, by its rows of tables_1 -/
def lw_okq (q : MethodName × Nat) : Prop := (q.1.cls ≠ "java/lang/invoke/MethodHandle" ∧ q.1.cls ≠ "java/lang/invoke/VarHandle") ∧ Cond.instantiable q.1.cls q.2 ∈ tables_1 ∧ Cond.privateMethod q.1 ∈ tables_1 ∧ Cond.instanceMethod q.1 ∈ tables_1
theorem lw_p0 : lw_okq (⟨"ShyWell$Scene", "admit", "(IIII)V"⟩, 14) := ⟨⟨by decide +kernel, by decide +kernel⟩, List.mem_of_getElem? (i := 27) (by decide +kernel), List.mem_of_getElem? (i := 308) (by decide +kernel), List.mem_of_getElem? (i := 309) (by decide +kernel)⟩
theorem lw_p1 : lw_okq (⟨"ShyWell$Comer", "start", "(IIII)V"⟩, 13) := ⟨⟨by decide +kernel, by decide +kernel⟩, List.mem_of_getElem? (i := 36) (by decide +kernel), List.mem_of_getElem? (i := 312) (by decide +kernel), List.mem_of_getElem? (i := 313) (by decide +kernel)⟩
theorem lw_p2 : lw_okq (⟨"ShyWell$Scene", "comerAt", "(I)LShyWell$Comer;"⟩, 14) := ⟨⟨by decide +kernel, by decide +kernel⟩, List.mem_of_getElem? (i := 27) (by decide +kernel), List.mem_of_getElem? (i := 320) (by decide +kernel), List.mem_of_getElem? (i := 321) (by decide +kernel)⟩
theorem lw_p3 : lw_okq (⟨"ShyWell$Comer", "worth", "()I"⟩, 13) := ⟨⟨by decide +kernel, by decide +kernel⟩, List.mem_of_getElem? (i := 36) (by decide +kernel), List.mem_of_getElem? (i := 325) (by decide +kernel), List.mem_of_getElem? (i := 326) (by decide +kernel)⟩
theorem lw_p4 : lw_okq (⟨"ShyWell$Scene", "wouldLeave", "(LShyWell$Comer;)Z"⟩, 14) := ⟨⟨by decide +kernel, by decide +kernel⟩, List.mem_of_getElem? (i := 27) (by decide +kernel), List.mem_of_getElem? (i := 329) (by decide +kernel), List.mem_of_getElem? (i := 330) (by decide +kernel)⟩
theorem lw_p5 : lw_okq (⟨"ShyWell$Scene", "standing", "()I"⟩, 14) := ⟨⟨by decide +kernel, by decide +kernel⟩, List.mem_of_getElem? (i := 27) (by decide +kernel), List.mem_of_getElem? (i := 333) (by decide +kernel), List.mem_of_getElem? (i := 334) (by decide +kernel)⟩
theorem lw_p6 : lw_okq (⟨"ShyWell$Scene", "leaveHolds", "(LShyWell$Comer;)Z"⟩, 14) := ⟨⟨by decide +kernel, by decide +kernel⟩, List.mem_of_getElem? (i := 27) (by decide +kernel), List.mem_of_getElem? (i := 337) (by decide +kernel), List.mem_of_getElem? (i := 338) (by decide +kernel)⟩
theorem lw_p7 : lw_okq (⟨"ShyWell$Scene", "lawOf", "(I)LShyWell$Text;"⟩, 14) := ⟨⟨by decide +kernel, by decide +kernel⟩, List.mem_of_getElem? (i := 27) (by decide +kernel), List.mem_of_getElem? (i := 341) (by decide +kernel), List.mem_of_getElem? (i := 342) (by decide +kernel)⟩
theorem lw_p8 : lw_okq (⟨"ShyWell$Scene", "lawAt", "(I)LShyWell$Text;"⟩, 14) := ⟨⟨by decide +kernel, by decide +kernel⟩, List.mem_of_getElem? (i := 27) (by decide +kernel), List.mem_of_getElem? (i := 345) (by decide +kernel), List.mem_of_getElem? (i := 346) (by decide +kernel)⟩
theorem lw_p9 : lw_okq (⟨"ShyWell$Text", "value", "(III)I"⟩, 4) := ⟨⟨by decide +kernel, by decide +kernel⟩, List.mem_of_getElem? (i := 351) (by decide +kernel), List.mem_of_getElem? (i := 349) (by decide +kernel), List.mem_of_getElem? (i := 350) (by decide +kernel)⟩
theorem lw_p10 : lw_okq (⟨"ShyWell$Scene", "staysOf", "(LShyWell$Comer;)I"⟩, 14) := ⟨⟨by decide +kernel, by decide +kernel⟩, List.mem_of_getElem? (i := 27) (by decide +kernel), List.mem_of_getElem? (i := 357) (by decide +kernel), List.mem_of_getElem? (i := 358) (by decide +kernel)⟩
theorem lw_p11 : lw_okq (⟨"ShyWell$Scene", "stayGives", "(LShyWell$Comer;)I"⟩, 14) := ⟨⟨by decide +kernel, by decide +kernel⟩, List.mem_of_getElem? (i := 27) (by decide +kernel), List.mem_of_getElem? (i := 361) (by decide +kernel), List.mem_of_getElem? (i := 362) (by decide +kernel)⟩
theorem lw_p12 : lw_okq (⟨"ShyWell$Comer", "habit", "(I)I"⟩, 13) := ⟨⟨by decide +kernel, by decide +kernel⟩, List.mem_of_getElem? (i := 36) (by decide +kernel), List.mem_of_getElem? (i := 372) (by decide +kernel), List.mem_of_getElem? (i := 373) (by decide +kernel)⟩
theorem lw_p13 : lw_okq (⟨"ShyWell$Comer", "changeHabit", "(II)V"⟩, 13) := ⟨⟨by decide +kernel, by decide +kernel⟩, List.mem_of_getElem? (i := 36) (by decide +kernel), List.mem_of_getElem? (i := 392) (by decide +kernel), List.mem_of_getElem? (i := 393) (by decide +kernel)⟩
theorem lw_p14 : lw_okq (⟨"ShyWell$Scene", "change", "(II)I"⟩, 14) := ⟨⟨by decide +kernel, by decide +kernel⟩, List.mem_of_getElem? (i := 27) (by decide +kernel), List.mem_of_getElem? (i := 404) (by decide +kernel), List.mem_of_getElem? (i := 405) (by decide +kernel)⟩
theorem lw_p15 : lw_okq (⟨"ShyWell$Scene", "draw", "()I"⟩, 14) := ⟨⟨by decide +kernel, by decide +kernel⟩, List.mem_of_getElem? (i := 27) (by decide +kernel), List.mem_of_getElem? (i := 412) (by decide +kernel), List.mem_of_getElem? (i := 413) (by decide +kernel)⟩
def lw_privs_1 : List (MethodName × Nat) := [(⟨"ShyWell$Scene", "admit", "(IIII)V"⟩, 14), (⟨"ShyWell$Comer", "start", "(IIII)V"⟩, 13), (⟨"ShyWell$Scene", "comerAt", "(I)LShyWell$Comer;"⟩, 14), (⟨"ShyWell$Comer", "worth", "()I"⟩, 13), (⟨"ShyWell$Scene", "wouldLeave", "(LShyWell$Comer;)Z"⟩, 14), (⟨"ShyWell$Scene", "standing", "()I"⟩, 14), (⟨"ShyWell$Scene", "leaveHolds", "(LShyWell$Comer;)Z"⟩, 14), (⟨"ShyWell$Scene", "lawOf", "(I)LShyWell$Text;"⟩, 14), (⟨"ShyWell$Scene", "lawAt", "(I)LShyWell$Text;"⟩, 14), (⟨"ShyWell$Text", "value", "(III)I"⟩, 4), (⟨"ShyWell$Scene", "staysOf", "(LShyWell$Comer;)I"⟩, 14), (⟨"ShyWell$Scene", "stayGives", "(LShyWell$Comer;)I"⟩, 14), (⟨"ShyWell$Comer", "habit", "(I)I"⟩, 13), (⟨"ShyWell$Comer", "changeHabit", "(II)V"⟩, 13), (⟨"ShyWell$Scene", "change", "(II)I"⟩, 14), (⟨"ShyWell$Scene", "draw", "()I"⟩, 14)]
theorem lw_r1 : ∀ q ∈ lw_privs_1, lw_okq q := List.forall_mem_cons.mpr ⟨lw_p0, List.forall_mem_cons.mpr ⟨lw_p1, List.forall_mem_cons.mpr ⟨lw_p2, List.forall_mem_cons.mpr ⟨lw_p3, List.forall_mem_cons.mpr ⟨lw_p4, List.forall_mem_cons.mpr ⟨lw_p5, List.forall_mem_cons.mpr ⟨lw_p6, List.forall_mem_cons.mpr ⟨lw_p7, List.forall_mem_cons.mpr ⟨lw_p8, List.forall_mem_cons.mpr ⟨lw_p9, List.forall_mem_cons.mpr ⟨lw_p10, List.forall_mem_cons.mpr ⟨lw_p11, List.forall_mem_cons.mpr ⟨lw_p12, List.forall_mem_cons.mpr ⟨lw_p13, List.forall_mem_cons.mpr ⟨lw_p14, List.forall_mem_cons.mpr ⟨lw_p15, fun _ h => absurd h List.not_mem_nil⟩⟩⟩⟩⟩⟩⟩⟩⟩⟩⟩⟩⟩⟩⟩⟩
theorem lw_p16 : lw_okq (⟨"ShyWell$Scene", "advance", "(I)I"⟩, 14) := ⟨⟨by decide +kernel, by decide +kernel⟩, List.mem_of_getElem? (i := 27) (by decide +kernel), List.mem_of_getElem? (i := 425) (by decide +kernel), List.mem_of_getElem? (i := 426) (by decide +kernel)⟩
theorem lw_p17 : lw_okq (⟨"ShyWell$Scene", "letLeave", "()V"⟩, 14) := ⟨⟨by decide +kernel, by decide +kernel⟩, List.mem_of_getElem? (i := 27) (by decide +kernel), List.mem_of_getElem? (i := 430) (by decide +kernel), List.mem_of_getElem? (i := 431) (by decide +kernel)⟩
theorem lw_p18 : lw_okq (⟨"ShyWell$Scene", "letCome", "()Z"⟩, 14) := ⟨⟨by decide +kernel, by decide +kernel⟩, List.mem_of_getElem? (i := 27) (by decide +kernel), List.mem_of_getElem? (i := 436) (by decide +kernel), List.mem_of_getElem? (i := 437) (by decide +kernel)⟩
theorem lw_p19 : lw_okq (⟨"ShyWell$Scene", "arrive", "(LShyWell$Comer;)V"⟩, 14) := ⟨⟨by decide +kernel, by decide +kernel⟩, List.mem_of_getElem? (i := 27) (by decide +kernel), List.mem_of_getElem? (i := 440) (by decide +kernel), List.mem_of_getElem? (i := 441) (by decide +kernel)⟩
theorem lw_p20 : lw_okq (⟨"ShyWell$Comer", "turnBack", "()V"⟩, 13) := ⟨⟨by decide +kernel, by decide +kernel⟩, List.mem_of_getElem? (i := 36) (by decide +kernel), List.mem_of_getElem? (i := 445) (by decide +kernel), List.mem_of_getElem? (i := 446) (by decide +kernel)⟩
theorem lw_p21 : lw_okq (⟨"ShyWell$Scene", "letWait", "()V"⟩, 14) := ⟨⟨by decide +kernel, by decide +kernel⟩, List.mem_of_getElem? (i := 27) (by decide +kernel), List.mem_of_getElem? (i := 450) (by decide +kernel), List.mem_of_getElem? (i := 451) (by decide +kernel)⟩
theorem lw_p22 : lw_okq (⟨"ShyWell$Scene", "letReachHome", "()V"⟩, 14) := ⟨⟨by decide +kernel, by decide +kernel⟩, List.mem_of_getElem? (i := 27) (by decide +kernel), List.mem_of_getElem? (i := 454) (by decide +kernel), List.mem_of_getElem? (i := 455) (by decide +kernel)⟩
theorem lw_p23 : lw_okq (⟨"ShyWell$Scene", "fill", "(Z)V"⟩, 14) := ⟨⟨by decide +kernel, by decide +kernel⟩, List.mem_of_getElem? (i := 27) (by decide +kernel), List.mem_of_getElem? (i := 458) (by decide +kernel), List.mem_of_getElem? (i := 459) (by decide +kernel)⟩
theorem lw_p24 : lw_okq (⟨"ShyWell$Scene", "endMinute", "()V"⟩, 14) := ⟨⟨by decide +kernel, by decide +kernel⟩, List.mem_of_getElem? (i := 27) (by decide +kernel), List.mem_of_getElem? (i := 462) (by decide +kernel), List.mem_of_getElem? (i := 463) (by decide +kernel)⟩
theorem lw_p25 : lw_okq (⟨"ShyWell$Scene", "gotOfAll", "()I"⟩, 14) := ⟨⟨by decide +kernel, by decide +kernel⟩, List.mem_of_getElem? (i := 27) (by decide +kernel), List.mem_of_getElem? (i := 466) (by decide +kernel), List.mem_of_getElem? (i := 467) (by decide +kernel)⟩
theorem lw_p26 : lw_okq (⟨"ShyWell$Scene", "become", "(LShyWell$Scene;)V"⟩, 14) := ⟨⟨by decide +kernel, by decide +kernel⟩, List.mem_of_getElem? (i := 27) (by decide +kernel), List.mem_of_getElem? (i := 474) (by decide +kernel), List.mem_of_getElem? (i := 475) (by decide +kernel)⟩
theorem lw_p27 : lw_okq (⟨"ShyWell$Comer", "become", "(LShyWell$Comer;)V"⟩, 13) := ⟨⟨by decide +kernel, by decide +kernel⟩, List.mem_of_getElem? (i := 36) (by decide +kernel), List.mem_of_getElem? (i := 481) (by decide +kernel), List.mem_of_getElem? (i := 482) (by decide +kernel)⟩
theorem lw_p28 : lw_okq (⟨"ShyWell$Scene", "emptyOfAll", "()I"⟩, 14) := ⟨⟨by decide +kernel, by decide +kernel⟩, List.mem_of_getElem? (i := 27) (by decide +kernel), List.mem_of_getElem? (i := 485) (by decide +kernel), List.mem_of_getElem? (i := 486) (by decide +kernel)⟩
theorem lw_p29 : lw_okq (⟨"ShyWell$Scene", "keepOthersHome", "(I)V"⟩, 14) := ⟨⟨by decide +kernel, by decide +kernel⟩, List.mem_of_getElem? (i := 27) (by decide +kernel), List.mem_of_getElem? (i := 502) (by decide +kernel), List.mem_of_getElem? (i := 503) (by decide +kernel)⟩
theorem lw_p30 : lw_okq (⟨"ShyWell$Scene", "visitsOfAll", "()I"⟩, 14) := ⟨⟨by decide +kernel, by decide +kernel⟩, List.mem_of_getElem? (i := 27) (by decide +kernel), List.mem_of_getElem? (i := 511) (by decide +kernel), List.mem_of_getElem? (i := 512) (by decide +kernel)⟩
theorem lw_p31 : lw_okq (⟨"ShyWell$Comer", "faredWorse", "(LShyWell$Comer;)Z"⟩, 13) := ⟨⟨by decide +kernel, by decide +kernel⟩, List.mem_of_getElem? (i := 36) (by decide +kernel), List.mem_of_getElem? (i := 522) (by decide +kernel), List.mem_of_getElem? (i := 523) (by decide +kernel)⟩
def lw_privs_2 : List (MethodName × Nat) := [(⟨"ShyWell$Scene", "advance", "(I)I"⟩, 14), (⟨"ShyWell$Scene", "letLeave", "()V"⟩, 14), (⟨"ShyWell$Scene", "letCome", "()Z"⟩, 14), (⟨"ShyWell$Scene", "arrive", "(LShyWell$Comer;)V"⟩, 14), (⟨"ShyWell$Comer", "turnBack", "()V"⟩, 13), (⟨"ShyWell$Scene", "letWait", "()V"⟩, 14), (⟨"ShyWell$Scene", "letReachHome", "()V"⟩, 14), (⟨"ShyWell$Scene", "fill", "(Z)V"⟩, 14), (⟨"ShyWell$Scene", "endMinute", "()V"⟩, 14), (⟨"ShyWell$Scene", "gotOfAll", "()I"⟩, 14), (⟨"ShyWell$Scene", "become", "(LShyWell$Scene;)V"⟩, 14), (⟨"ShyWell$Comer", "become", "(LShyWell$Comer;)V"⟩, 13), (⟨"ShyWell$Scene", "emptyOfAll", "()I"⟩, 14), (⟨"ShyWell$Scene", "keepOthersHome", "(I)V"⟩, 14), (⟨"ShyWell$Scene", "visitsOfAll", "()I"⟩, 14), (⟨"ShyWell$Comer", "faredWorse", "(LShyWell$Comer;)Z"⟩, 13)]
theorem lw_r2 : ∀ q ∈ lw_privs_2, lw_okq q := List.forall_mem_cons.mpr ⟨lw_p16, List.forall_mem_cons.mpr ⟨lw_p17, List.forall_mem_cons.mpr ⟨lw_p18, List.forall_mem_cons.mpr ⟨lw_p19, List.forall_mem_cons.mpr ⟨lw_p20, List.forall_mem_cons.mpr ⟨lw_p21, List.forall_mem_cons.mpr ⟨lw_p22, List.forall_mem_cons.mpr ⟨lw_p23, List.forall_mem_cons.mpr ⟨lw_p24, List.forall_mem_cons.mpr ⟨lw_p25, List.forall_mem_cons.mpr ⟨lw_p26, List.forall_mem_cons.mpr ⟨lw_p27, List.forall_mem_cons.mpr ⟨lw_p28, List.forall_mem_cons.mpr ⟨lw_p29, List.forall_mem_cons.mpr ⟨lw_p30, List.forall_mem_cons.mpr ⟨lw_p31, fun _ h => absurd h List.not_mem_nil⟩⟩⟩⟩⟩⟩⟩⟩⟩⟩⟩⟩⟩⟩⟩⟩
theorem lw_p32 : lw_okq (⟨"ShyWell", "feedBytesOf", "(I)V"⟩, 9) := ⟨⟨by decide +kernel, by decide +kernel⟩, List.mem_of_getElem? (i := 19) (by decide +kernel), List.mem_of_getElem? (i := 536) (by decide +kernel), List.mem_of_getElem? (i := 537) (by decide +kernel)⟩
theorem lw_p33 : lw_okq (⟨"ShyWell$Row", "add", "(I)V"⟩, 2) := ⟨⟨by decide +kernel, by decide +kernel⟩, List.mem_of_getElem? (i := 164) (by decide +kernel), List.mem_of_getElem? (i := 540) (by decide +kernel), List.mem_of_getElem? (i := 541) (by decide +kernel)⟩
theorem lw_p34 : lw_okq (⟨"ShyWell$Reader", "reads", "()Z"⟩, 7) := ⟨⟨by decide +kernel, by decide +kernel⟩, List.mem_of_getElem? (i := 158) (by decide +kernel), List.mem_of_getElem? (i := 552) (by decide +kernel), List.mem_of_getElem? (i := 553) (by decide +kernel)⟩
theorem lw_p35 : lw_okq (⟨"ShyWell$Reader", "next", "()V"⟩, 7) := ⟨⟨by decide +kernel, by decide +kernel⟩, List.mem_of_getElem? (i := 158) (by decide +kernel), List.mem_of_getElem? (i := 556) (by decide +kernel), List.mem_of_getElem? (i := 557) (by decide +kernel)⟩
theorem lw_p36 : lw_okq (⟨"ShyWell$Row", "at", "(I)I"⟩, 2) := ⟨⟨by decide +kernel, by decide +kernel⟩, List.mem_of_getElem? (i := 164) (by decide +kernel), List.mem_of_getElem? (i := 560) (by decide +kernel), List.mem_of_getElem? (i := 561) (by decide +kernel)⟩
theorem lw_p37 : lw_okq (⟨"ShyWell$Reader", "keyHere", "()I"⟩, 7) := ⟨⟨by decide +kernel, by decide +kernel⟩, List.mem_of_getElem? (i := 158) (by decide +kernel), List.mem_of_getElem? (i := 567) (by decide +kernel), List.mem_of_getElem? (i := 568) (by decide +kernel)⟩
theorem lw_p38 : lw_okq (⟨"ShyWell$Reader", "isWord", "(Ljava/lang/String;)Z"⟩, 7) := ⟨⟨by decide +kernel, by decide +kernel⟩, List.mem_of_getElem? (i := 158) (by decide +kernel), List.mem_of_getElem? (i := 572) (by decide +kernel), List.mem_of_getElem? (i := 573) (by decide +kernel)⟩
theorem lw_p39 : lw_okq (⟨"ShyWell$Reader", "readsLevel", "(III)Z"⟩, 7) := ⟨⟨by decide +kernel, by decide +kernel⟩, List.mem_of_getElem? (i := 158) (by decide +kernel), List.mem_of_getElem? (i := 626) (by decide +kernel), List.mem_of_getElem? (i := 627) (by decide +kernel)⟩
theorem lw_p40 : lw_okq (⟨"ShyWell$Reader", "readsPiece", "(II)Z"⟩, 7) := ⟨⟨by decide +kernel, by decide +kernel⟩, List.mem_of_getElem? (i := 158) (by decide +kernel), List.mem_of_getElem? (i := 630) (by decide +kernel), List.mem_of_getElem? (i := 631) (by decide +kernel)⟩
theorem lw_p41 : lw_okq (⟨"ShyWell$Reader", "readsNumber", "()Z"⟩, 7) := ⟨⟨by decide +kernel, by decide +kernel⟩, List.mem_of_getElem? (i := 158) (by decide +kernel), List.mem_of_getElem? (i := 634) (by decide +kernel), List.mem_of_getElem? (i := 635) (by decide +kernel)⟩
theorem lw_p42 : lw_okq (⟨"ShyWell$Reader", "addPiece", "(I)V"⟩, 7) := ⟨⟨by decide +kernel, by decide +kernel⟩, List.mem_of_getElem? (i := 158) (by decide +kernel), List.mem_of_getElem? (i := 638) (by decide +kernel), List.mem_of_getElem? (i := 639) (by decide +kernel)⟩
theorem lw_p43 : lw_okq (⟨"ShyWell$Reader", "readsName", "()Z"⟩, 7) := ⟨⟨by decide +kernel, by decide +kernel⟩, List.mem_of_getElem? (i := 158) (by decide +kernel), List.mem_of_getElem? (i := 643) (by decide +kernel), List.mem_of_getElem? (i := 644) (by decide +kernel)⟩
theorem lw_p44 : lw_okq (⟨"ShyWell$Reader", "isSign", "(I)Z"⟩, 7) := ⟨⟨by decide +kernel, by decide +kernel⟩, List.mem_of_getElem? (i := 158) (by decide +kernel), List.mem_of_getElem? (i := 708) (by decide +kernel), List.mem_of_getElem? (i := 709) (by decide +kernel)⟩
theorem lw_p45 : lw_okq (⟨"ShyWell$Reader", "levelHere", "()I"⟩, 7) := ⟨⟨by decide +kernel, by decide +kernel⟩, List.mem_of_getElem? (i := 158) (by decide +kernel), List.mem_of_getElem? (i := 712) (by decide +kernel), List.mem_of_getElem? (i := 713) (by decide +kernel)⟩
theorem lw_p46 : lw_okq (⟨"ShyWell$Reader", "written", "()LShyWell$Text;"⟩, 7) := ⟨⟨by decide +kernel, by decide +kernel⟩, List.mem_of_getElem? (i := 158) (by decide +kernel), List.mem_of_getElem? (i := 716) (by decide +kernel), List.mem_of_getElem? (i := 717) (by decide +kernel)⟩
theorem lw_p47 : lw_okq (⟨"ShyWell$Scene", "addLaw", "(LShyWell$Text;)V"⟩, 14) := ⟨⟨by decide +kernel, by decide +kernel⟩, List.mem_of_getElem? (i := 27) (by decide +kernel), List.mem_of_getElem? (i := 755) (by decide +kernel), List.mem_of_getElem? (i := 756) (by decide +kernel)⟩
def lw_privs_3 : List (MethodName × Nat) := [(⟨"ShyWell", "feedBytesOf", "(I)V"⟩, 9), (⟨"ShyWell$Row", "add", "(I)V"⟩, 2), (⟨"ShyWell$Reader", "reads", "()Z"⟩, 7), (⟨"ShyWell$Reader", "next", "()V"⟩, 7), (⟨"ShyWell$Row", "at", "(I)I"⟩, 2), (⟨"ShyWell$Reader", "keyHere", "()I"⟩, 7), (⟨"ShyWell$Reader", "isWord", "(Ljava/lang/String;)Z"⟩, 7), (⟨"ShyWell$Reader", "readsLevel", "(III)Z"⟩, 7), (⟨"ShyWell$Reader", "readsPiece", "(II)Z"⟩, 7), (⟨"ShyWell$Reader", "readsNumber", "()Z"⟩, 7), (⟨"ShyWell$Reader", "addPiece", "(I)V"⟩, 7), (⟨"ShyWell$Reader", "readsName", "()Z"⟩, 7), (⟨"ShyWell$Reader", "isSign", "(I)Z"⟩, 7), (⟨"ShyWell$Reader", "levelHere", "()I"⟩, 7), (⟨"ShyWell$Reader", "written", "()LShyWell$Text;"⟩, 7), (⟨"ShyWell$Scene", "addLaw", "(LShyWell$Text;)V"⟩, 14)]
theorem lw_r3 : ∀ q ∈ lw_privs_3, lw_okq q := List.forall_mem_cons.mpr ⟨lw_p32, List.forall_mem_cons.mpr ⟨lw_p33, List.forall_mem_cons.mpr ⟨lw_p34, List.forall_mem_cons.mpr ⟨lw_p35, List.forall_mem_cons.mpr ⟨lw_p36, List.forall_mem_cons.mpr ⟨lw_p37, List.forall_mem_cons.mpr ⟨lw_p38, List.forall_mem_cons.mpr ⟨lw_p39, List.forall_mem_cons.mpr ⟨lw_p40, List.forall_mem_cons.mpr ⟨lw_p41, List.forall_mem_cons.mpr ⟨lw_p42, List.forall_mem_cons.mpr ⟨lw_p43, List.forall_mem_cons.mpr ⟨lw_p44, List.forall_mem_cons.mpr ⟨lw_p45, List.forall_mem_cons.mpr ⟨lw_p46, List.forall_mem_cons.mpr ⟨lw_p47, fun _ h => absurd h List.not_mem_nil⟩⟩⟩⟩⟩⟩⟩⟩⟩⟩⟩⟩⟩⟩⟩⟩
theorem lw_p48 : lw_okq (⟨"ShyWell", "sheetAt", "(I)LShyWell$Sheet;"⟩, 9) := ⟨⟨by decide +kernel, by decide +kernel⟩, List.mem_of_getElem? (i := 19) (by decide +kernel), List.mem_of_getElem? (i := 772) (by decide +kernel), List.mem_of_getElem? (i := 773) (by decide +kernel)⟩
theorem lw_p49 : lw_okq (⟨"ShyWell$Sheet", "start", "(II)V"⟩, 3) := ⟨⟨by decide +kernel, by decide +kernel⟩, List.mem_of_getElem? (i := 212) (by decide +kernel), List.mem_of_getElem? (i := 776) (by decide +kernel), List.mem_of_getElem? (i := 777) (by decide +kernel)⟩
theorem lw_p50 : lw_okq (⟨"ShyWell$Scene", "differences", "(LShyWell$Sheet;I)I"⟩, 14) := ⟨⟨by decide +kernel, by decide +kernel⟩, List.mem_of_getElem? (i := 27) (by decide +kernel), List.mem_of_getElem? (i := 802) (by decide +kernel), List.mem_of_getElem? (i := 803) (by decide +kernel)⟩
theorem lw_p51 : lw_okq (⟨"ShyWell$Sheet", "hasPlaces", "(II)Z"⟩, 3) := ⟨⟨by decide +kernel, by decide +kernel⟩, List.mem_of_getElem? (i := 212) (by decide +kernel), List.mem_of_getElem? (i := 815) (by decide +kernel), List.mem_of_getElem? (i := 816) (by decide +kernel)⟩
theorem lw_p52 : lw_okq (⟨"ShyWell", "slotAt", "(I)LShyWell$Slot;"⟩, 9) := ⟨⟨by decide +kernel, by decide +kernel⟩, List.mem_of_getElem? (i := 19) (by decide +kernel), List.mem_of_getElem? (i := 824) (by decide +kernel), List.mem_of_getElem? (i := 825) (by decide +kernel)⟩
theorem lw_p53 : lw_okq (⟨"ShyWell$Sheet", "become", "(LShyWell$Sheet;)V"⟩, 3) := ⟨⟨by decide +kernel, by decide +kernel⟩, List.mem_of_getElem? (i := 212) (by decide +kernel), List.mem_of_getElem? (i := 829) (by decide +kernel), List.mem_of_getElem? (i := 830) (by decide +kernel)⟩
theorem lw_p54 : lw_okq (⟨"ShyWell", "firstUntrue", "(I)I"⟩, 9) := ⟨⟨by decide +kernel, by decide +kernel⟩, List.mem_of_getElem? (i := 19) (by decide +kernel), List.mem_of_getElem? (i := 855) (by decide +kernel), List.mem_of_getElem? (i := 856) (by decide +kernel)⟩
theorem lw_p55 : lw_okq (⟨"ShyWell", "isTold", "(II)Z"⟩, 9) := ⟨⟨by decide +kernel, by decide +kernel⟩, List.mem_of_getElem? (i := 19) (by decide +kernel), List.mem_of_getElem? (i := 859) (by decide +kernel), List.mem_of_getElem? (i := 860) (by decide +kernel)⟩
theorem lw_p56 : lw_okq (⟨"ShyWellModel", "comes", "(IIII)V"⟩, 34) := ⟨⟨by decide +kernel, by decide +kernel⟩, List.mem_of_getElem? (i := 877) (by decide +kernel), List.mem_of_getElem? (i := 999) (by decide +kernel), List.mem_of_getElem? (i := 1000) (by decide +kernel)⟩
theorem lw_p57 : lw_okq (⟨"ShyWellModel", "isComer", "(I)Z"⟩, 34) := ⟨⟨by decide +kernel, by decide +kernel⟩, List.mem_of_getElem? (i := 877) (by decide +kernel), List.mem_of_getElem? (i := 1007) (by decide +kernel), List.mem_of_getElem? (i := 1008) (by decide +kernel)⟩
theorem lw_p58 : lw_okq (⟨"ShyWellModel", "of", "(II)I"⟩, 34) := ⟨⟨by decide +kernel, by decide +kernel⟩, List.mem_of_getElem? (i := 877) (by decide +kernel), List.mem_of_getElem? (i := 1012) (by decide +kernel), List.mem_of_getElem? (i := 1013) (by decide +kernel)⟩
theorem lw_p59 : lw_okq (⟨"ShyWellModel", "worth", "(I)I"⟩, 34) := ⟨⟨by decide +kernel, by decide +kernel⟩, List.mem_of_getElem? (i := 877) (by decide +kernel), List.mem_of_getElem? (i := 1016) (by decide +kernel), List.mem_of_getElem? (i := 1017) (by decide +kernel)⟩
theorem lw_p60 : lw_okq (⟨"ShyWellModel", "stays", "(I)I"⟩, 34) := ⟨⟨by decide +kernel, by decide +kernel⟩, List.mem_of_getElem? (i := 877) (by decide +kernel), List.mem_of_getElem? (i := 1020) (by decide +kernel), List.mem_of_getElem? (i := 1021) (by decide +kernel)⟩
theorem lw_p61 : lw_okq (⟨"ShyWellModel", "counts", "(I)I"⟩, 34) := ⟨⟨by decide +kernel, by decide +kernel⟩, List.mem_of_getElem? (i := 877) (by decide +kernel), List.mem_of_getElem? (i := 1024) (by decide +kernel), List.mem_of_getElem? (i := 1025) (by decide +kernel)⟩
theorem lw_p62 : lw_okq (⟨"ShyWellModel", "textAt", "(I)I"⟩, 34) := ⟨⟨by decide +kernel, by decide +kernel⟩, List.mem_of_getElem? (i := 877) (by decide +kernel), List.mem_of_getElem? (i := 1028) (by decide +kernel), List.mem_of_getElem? (i := 1029) (by decide +kernel)⟩
theorem lw_p63 : lw_okq (⟨"ShyWellModel", "standing", "()I"⟩, 34) := ⟨⟨by decide +kernel, by decide +kernel⟩, List.mem_of_getElem? (i := 877) (by decide +kernel), List.mem_of_getElem? (i := 1032) (by decide +kernel), List.mem_of_getElem? (i := 1033) (by decide +kernel)⟩
def lw_privs_4 : List (MethodName × Nat) := [(⟨"ShyWell", "sheetAt", "(I)LShyWell$Sheet;"⟩, 9), (⟨"ShyWell$Sheet", "start", "(II)V"⟩, 3), (⟨"ShyWell$Scene", "differences", "(LShyWell$Sheet;I)I"⟩, 14), (⟨"ShyWell$Sheet", "hasPlaces", "(II)Z"⟩, 3), (⟨"ShyWell", "slotAt", "(I)LShyWell$Slot;"⟩, 9), (⟨"ShyWell$Sheet", "become", "(LShyWell$Sheet;)V"⟩, 3), (⟨"ShyWell", "firstUntrue", "(I)I"⟩, 9), (⟨"ShyWell", "isTold", "(II)Z"⟩, 9), (⟨"ShyWellModel", "comes", "(IIII)V"⟩, 34), (⟨"ShyWellModel", "isComer", "(I)Z"⟩, 34), (⟨"ShyWellModel", "of", "(II)I"⟩, 34), (⟨"ShyWellModel", "worth", "(I)I"⟩, 34), (⟨"ShyWellModel", "stays", "(I)I"⟩, 34), (⟨"ShyWellModel", "counts", "(I)I"⟩, 34), (⟨"ShyWellModel", "textAt", "(I)I"⟩, 34), (⟨"ShyWellModel", "standing", "()I"⟩, 34)]
theorem lw_r4 : ∀ q ∈ lw_privs_4, lw_okq q := List.forall_mem_cons.mpr ⟨lw_p48, List.forall_mem_cons.mpr ⟨lw_p49, List.forall_mem_cons.mpr ⟨lw_p50, List.forall_mem_cons.mpr ⟨lw_p51, List.forall_mem_cons.mpr ⟨lw_p52, List.forall_mem_cons.mpr ⟨lw_p53, List.forall_mem_cons.mpr ⟨lw_p54, List.forall_mem_cons.mpr ⟨lw_p55, List.forall_mem_cons.mpr ⟨lw_p56, List.forall_mem_cons.mpr ⟨lw_p57, List.forall_mem_cons.mpr ⟨lw_p58, List.forall_mem_cons.mpr ⟨lw_p59, List.forall_mem_cons.mpr ⟨lw_p60, List.forall_mem_cons.mpr ⟨lw_p61, List.forall_mem_cons.mpr ⟨lw_p62, List.forall_mem_cons.mpr ⟨lw_p63, fun _ h => absurd h List.not_mem_nil⟩⟩⟩⟩⟩⟩⟩⟩⟩⟩⟩⟩⟩⟩⟩⟩
theorem lw_p64 : lw_okq (⟨"ShyWellModel", "worked", "(I)I"⟩, 34) := ⟨⟨by decide +kernel, by decide +kernel⟩, List.mem_of_getElem? (i := 877) (by decide +kernel), List.mem_of_getElem? (i := 1036) (by decide +kernel), List.mem_of_getElem? (i := 1037) (by decide +kernel)⟩
theorem lw_p65 : lw_okq (⟨"ShyWellModel", "wouldLeave", "(I)Z"⟩, 34) := ⟨⟨by decide +kernel, by decide +kernel⟩, List.mem_of_getElem? (i := 877) (by decide +kernel), List.mem_of_getElem? (i := 1046) (by decide +kernel), List.mem_of_getElem? (i := 1047) (by decide +kernel)⟩
theorem lw_p66 : lw_okq (⟨"ShyWellModel", "plainLeaves", "(I)Z"⟩, 34) := ⟨⟨by decide +kernel, by decide +kernel⟩, List.mem_of_getElem? (i := 877) (by decide +kernel), List.mem_of_getElem? (i := 1050) (by decide +kernel), List.mem_of_getElem? (i := 1051) (by decide +kernel)⟩
theorem lw_p67 : lw_okq (⟨"ShyWellModel", "becomes", "(II)I"⟩, 34) := ⟨⟨by decide +kernel, by decide +kernel⟩, List.mem_of_getElem? (i := 877) (by decide +kernel), List.mem_of_getElem? (i := 1066) (by decide +kernel), List.mem_of_getElem? (i := 1067) (by decide +kernel)⟩
theorem lw_p68 : lw_okq (⟨"ShyWellModel", "drawn", "()I"⟩, 34) := ⟨⟨by decide +kernel, by decide +kernel⟩, List.mem_of_getElem? (i := 877) (by decide +kernel), List.mem_of_getElem? (i := 1090) (by decide +kernel), List.mem_of_getElem? (i := 1091) (by decide +kernel)⟩
theorem lw_p69 : lw_okq (⟨"ShyWellModel", "goesOn", "()V"⟩, 34) := ⟨⟨by decide +kernel, by decide +kernel⟩, List.mem_of_getElem? (i := 877) (by decide +kernel), List.mem_of_getElem? (i := 1105) (by decide +kernel), List.mem_of_getElem? (i := 1106) (by decide +kernel)⟩
theorem lw_p70 : lw_okq (⟨"ShyWellModel", "leaveHome", "()V"⟩, 34) := ⟨⟨by decide +kernel, by decide +kernel⟩, List.mem_of_getElem? (i := 877) (by decide +kernel), List.mem_of_getElem? (i := 1109) (by decide +kernel), List.mem_of_getElem? (i := 1110) (by decide +kernel)⟩
theorem lw_p71 : lw_okq (⟨"ShyWellModel", "sets", "(III)V"⟩, 34) := ⟨⟨by decide +kernel, by decide +kernel⟩, List.mem_of_getElem? (i := 877) (by decide +kernel), List.mem_of_getElem? (i := 1113) (by decide +kernel), List.mem_of_getElem? (i := 1114) (by decide +kernel)⟩
theorem lw_p72 : lw_okq (⟨"ShyWellModel", "more", "(II)V"⟩, 34) := ⟨⟨by decide +kernel, by decide +kernel⟩, List.mem_of_getElem? (i := 877) (by decide +kernel), List.mem_of_getElem? (i := 1117) (by decide +kernel), List.mem_of_getElem? (i := 1118) (by decide +kernel)⟩
theorem lw_p73 : lw_okq (⟨"ShyWellModel", "comeThere", "()Z"⟩, 34) := ⟨⟨by decide +kernel, by decide +kernel⟩, List.mem_of_getElem? (i := 877) (by decide +kernel), List.mem_of_getElem? (i := 1121) (by decide +kernel), List.mem_of_getElem? (i := 1122) (by decide +kernel)⟩
theorem lw_p74 : lw_okq (⟨"ShyWellModel", "isThere", "(I)V"⟩, 34) := ⟨⟨by decide +kernel, by decide +kernel⟩, List.mem_of_getElem? (i := 877) (by decide +kernel), List.mem_of_getElem? (i := 1125) (by decide +kernel), List.mem_of_getElem? (i := 1126) (by decide +kernel)⟩
theorem lw_p75 : lw_okq (⟨"ShyWellModel", "goesBack", "(I)V"⟩, 34) := ⟨⟨by decide +kernel, by decide +kernel⟩, List.mem_of_getElem? (i := 877) (by decide +kernel), List.mem_of_getElem? (i := 1129) (by decide +kernel), List.mem_of_getElem? (i := 1130) (by decide +kernel)⟩
theorem lw_p76 : lw_okq (⟨"ShyWellModel", "waitOrGo", "()V"⟩, 34) := ⟨⟨by decide +kernel, by decide +kernel⟩, List.mem_of_getElem? (i := 877) (by decide +kernel), List.mem_of_getElem? (i := 1133) (by decide +kernel), List.mem_of_getElem? (i := 1134) (by decide +kernel)⟩
theorem lw_p77 : lw_okq (⟨"ShyWellModel", "ofAll", "(I)I"⟩, 34) := ⟨⟨by decide +kernel, by decide +kernel⟩, List.mem_of_getElem? (i := 877) (by decide +kernel), List.mem_of_getElem? (i := 1137) (by decide +kernel), List.mem_of_getElem? (i := 1138) (by decide +kernel)⟩
theorem lw_p78 : lw_okq (⟨"ShyWellModel", "laysBy", "()V"⟩, 34) := ⟨⟨by decide +kernel, by decide +kernel⟩, List.mem_of_getElem? (i := 877) (by decide +kernel), List.mem_of_getElem? (i := 1146) (by decide +kernel), List.mem_of_getElem? (i := 1147) (by decide +kernel)⟩
theorem lw_p79 : lw_okq (⟨"ShyWellModel", "goesOnMany", "(I)V"⟩, 34) := ⟨⟨by decide +kernel, by decide +kernel⟩, List.mem_of_getElem? (i := 877) (by decide +kernel), List.mem_of_getElem? (i := 1150) (by decide +kernel), List.mem_of_getElem? (i := 1151) (by decide +kernel)⟩
def lw_privs_5 : List (MethodName × Nat) := [(⟨"ShyWellModel", "worked", "(I)I"⟩, 34), (⟨"ShyWellModel", "wouldLeave", "(I)Z"⟩, 34), (⟨"ShyWellModel", "plainLeaves", "(I)Z"⟩, 34), (⟨"ShyWellModel", "becomes", "(II)I"⟩, 34), (⟨"ShyWellModel", "drawn", "()I"⟩, 34), (⟨"ShyWellModel", "goesOn", "()V"⟩, 34), (⟨"ShyWellModel", "leaveHome", "()V"⟩, 34), (⟨"ShyWellModel", "sets", "(III)V"⟩, 34), (⟨"ShyWellModel", "more", "(II)V"⟩, 34), (⟨"ShyWellModel", "comeThere", "()Z"⟩, 34), (⟨"ShyWellModel", "isThere", "(I)V"⟩, 34), (⟨"ShyWellModel", "goesBack", "(I)V"⟩, 34), (⟨"ShyWellModel", "waitOrGo", "()V"⟩, 34), (⟨"ShyWellModel", "ofAll", "(I)I"⟩, 34), (⟨"ShyWellModel", "laysBy", "()V"⟩, 34), (⟨"ShyWellModel", "goesOnMany", "(I)V"⟩, 34)]
theorem lw_r5 : ∀ q ∈ lw_privs_5, lw_okq q := List.forall_mem_cons.mpr ⟨lw_p64, List.forall_mem_cons.mpr ⟨lw_p65, List.forall_mem_cons.mpr ⟨lw_p66, List.forall_mem_cons.mpr ⟨lw_p67, List.forall_mem_cons.mpr ⟨lw_p68, List.forall_mem_cons.mpr ⟨lw_p69, List.forall_mem_cons.mpr ⟨lw_p70, List.forall_mem_cons.mpr ⟨lw_p71, List.forall_mem_cons.mpr ⟨lw_p72, List.forall_mem_cons.mpr ⟨lw_p73, List.forall_mem_cons.mpr ⟨lw_p74, List.forall_mem_cons.mpr ⟨lw_p75, List.forall_mem_cons.mpr ⟨lw_p76, List.forall_mem_cons.mpr ⟨lw_p77, List.forall_mem_cons.mpr ⟨lw_p78, List.forall_mem_cons.mpr ⟨lw_p79, fun _ h => absurd h List.not_mem_nil⟩⟩⟩⟩⟩⟩⟩⟩⟩⟩⟩⟩⟩⟩⟩⟩
theorem lw_p80 : lw_okq (⟨"ShyWellModel", "laysBack", "()V"⟩, 34) := ⟨⟨by decide +kernel, by decide +kernel⟩, List.mem_of_getElem? (i := 877) (by decide +kernel), List.mem_of_getElem? (i := 1154) (by decide +kernel), List.mem_of_getElem? (i := 1155) (by decide +kernel)⟩
theorem lw_p81 : lw_okq (⟨"ShyWellModel", "parse", "()I"⟩, 34) := ⟨⟨by decide +kernel, by decide +kernel⟩, List.mem_of_getElem? (i := 877) (by decide +kernel), List.mem_of_getElem? (i := 1200) (by decide +kernel), List.mem_of_getElem? (i := 1201) (by decide +kernel)⟩
theorem lw_p82 : lw_okq (⟨"ShyWellModel", "nextToken", "()V"⟩, 34) := ⟨⟨by decide +kernel, by decide +kernel⟩, List.mem_of_getElem? (i := 877) (by decide +kernel), List.mem_of_getElem? (i := 1204) (by decide +kernel), List.mem_of_getElem? (i := 1205) (by decide +kernel)⟩
theorem lw_p83 : lw_okq (⟨"ShyWellModel", "isLetter", "(I)Z"⟩, 34) := ⟨⟨by decide +kernel, by decide +kernel⟩, List.mem_of_getElem? (i := 877) (by decide +kernel), List.mem_of_getElem? (i := 1208) (by decide +kernel), List.mem_of_getElem? (i := 1209) (by decide +kernel)⟩
theorem lw_p84 : lw_okq (⟨"ShyWellModel", "isDigit", "(I)Z"⟩, 34) := ⟨⟨by decide +kernel, by decide +kernel⟩, List.mem_of_getElem? (i := 877) (by decide +kernel), List.mem_of_getElem? (i := 1214) (by decide +kernel), List.mem_of_getElem? (i := 1215) (by decide +kernel)⟩
theorem lw_p85 : lw_okq (⟨"ShyWellModel", "key", "()I"⟩, 34) := ⟨⟨by decide +kernel, by decide +kernel⟩, List.mem_of_getElem? (i := 877) (by decide +kernel), List.mem_of_getElem? (i := 1220) (by decide +kernel), List.mem_of_getElem? (i := 1221) (by decide +kernel)⟩
theorem lw_p86 : lw_okq (⟨"ShyWellModel", "isLong", "(IIIIII)Z"⟩, 34) := ⟨⟨by decide +kernel, by decide +kernel⟩, List.mem_of_getElem? (i := 877) (by decide +kernel), List.mem_of_getElem? (i := 1224) (by decide +kernel), List.mem_of_getElem? (i := 1225) (by decide +kernel)⟩
theorem lw_p87 : lw_okq (⟨"ShyWellModel", "isWordAt", "(IIII)Z"⟩, 34) := ⟨⟨by decide +kernel, by decide +kernel⟩, List.mem_of_getElem? (i := 877) (by decide +kernel), List.mem_of_getElem? (i := 1228) (by decide +kernel), List.mem_of_getElem? (i := 1229) (by decide +kernel)⟩
theorem lw_p88 : lw_okq (⟨"ShyWellModel", "either", "(I)Z"⟩, 34) := ⟨⟨by decide +kernel, by decide +kernel⟩, List.mem_of_getElem? (i := 877) (by decide +kernel), List.mem_of_getElem? (i := 1232) (by decide +kernel), List.mem_of_getElem? (i := 1233) (by decide +kernel)⟩
theorem lw_p89 : lw_okq (⟨"ShyWellModel", "both", "(I)Z"⟩, 34) := ⟨⟨by decide +kernel, by decide +kernel⟩, List.mem_of_getElem? (i := 877) (by decide +kernel), List.mem_of_getElem? (i := 1236) (by decide +kernel), List.mem_of_getElem? (i := 1237) (by decide +kernel)⟩
theorem lw_p90 : lw_okq (⟨"ShyWellModel", "test", "(I)Z"⟩, 34) := ⟨⟨by decide +kernel, by decide +kernel⟩, List.mem_of_getElem? (i := 877) (by decide +kernel), List.mem_of_getElem? (i := 1240) (by decide +kernel), List.mem_of_getElem? (i := 1241) (by decide +kernel)⟩
theorem lw_p91 : lw_okq (⟨"ShyWellModel", "sum", "(I)Z"⟩, 34) := ⟨⟨by decide +kernel, by decide +kernel⟩, List.mem_of_getElem? (i := 877) (by decide +kernel), List.mem_of_getElem? (i := 1244) (by decide +kernel), List.mem_of_getElem? (i := 1245) (by decide +kernel)⟩
theorem lw_p92 : lw_okq (⟨"ShyWellModel", "term", "(I)Z"⟩, 34) := ⟨⟨by decide +kernel, by decide +kernel⟩, List.mem_of_getElem? (i := 877) (by decide +kernel), List.mem_of_getElem? (i := 1248) (by decide +kernel), List.mem_of_getElem? (i := 1249) (by decide +kernel)⟩
theorem lw_p93 : lw_okq (⟨"ShyWellModel", "part0", "(I)Z"⟩, 34) := ⟨⟨by decide +kernel, by decide +kernel⟩, List.mem_of_getElem? (i := 877) (by decide +kernel), List.mem_of_getElem? (i := 1252) (by decide +kernel), List.mem_of_getElem? (i := 1253) (by decide +kernel)⟩
theorem lw_p94 : lw_okq (⟨"ShyWellModel", "step", "(II)V"⟩, 34) := ⟨⟨by decide +kernel, by decide +kernel⟩, List.mem_of_getElem? (i := 877) (by decide +kernel), List.mem_of_getElem? (i := 1256) (by decide +kernel), List.mem_of_getElem? (i := 1257) (by decide +kernel)⟩
theorem lw_p95 : lw_okq (⟨"ShyWellModel", "isSign", "(I)Z"⟩, 34) := ⟨⟨by decide +kernel, by decide +kernel⟩, List.mem_of_getElem? (i := 877) (by decide +kernel), List.mem_of_getElem? (i := 1263) (by decide +kernel), List.mem_of_getElem? (i := 1264) (by decide +kernel)⟩
def lw_privs_6 : List (MethodName × Nat) := [(⟨"ShyWellModel", "laysBack", "()V"⟩, 34), (⟨"ShyWellModel", "parse", "()I"⟩, 34), (⟨"ShyWellModel", "nextToken", "()V"⟩, 34), (⟨"ShyWellModel", "isLetter", "(I)Z"⟩, 34), (⟨"ShyWellModel", "isDigit", "(I)Z"⟩, 34), (⟨"ShyWellModel", "key", "()I"⟩, 34), (⟨"ShyWellModel", "isLong", "(IIIIII)Z"⟩, 34), (⟨"ShyWellModel", "isWordAt", "(IIII)Z"⟩, 34), (⟨"ShyWellModel", "either", "(I)Z"⟩, 34), (⟨"ShyWellModel", "both", "(I)Z"⟩, 34), (⟨"ShyWellModel", "test", "(I)Z"⟩, 34), (⟨"ShyWellModel", "sum", "(I)Z"⟩, 34), (⟨"ShyWellModel", "term", "(I)Z"⟩, 34), (⟨"ShyWellModel", "part0", "(I)Z"⟩, 34), (⟨"ShyWellModel", "step", "(II)V"⟩, 34), (⟨"ShyWellModel", "isSign", "(I)Z"⟩, 34)]
theorem lw_r6 : ∀ q ∈ lw_privs_6, lw_okq q := List.forall_mem_cons.mpr ⟨lw_p80, List.forall_mem_cons.mpr ⟨lw_p81, List.forall_mem_cons.mpr ⟨lw_p82, List.forall_mem_cons.mpr ⟨lw_p83, List.forall_mem_cons.mpr ⟨lw_p84, List.forall_mem_cons.mpr ⟨lw_p85, List.forall_mem_cons.mpr ⟨lw_p86, List.forall_mem_cons.mpr ⟨lw_p87, List.forall_mem_cons.mpr ⟨lw_p88, List.forall_mem_cons.mpr ⟨lw_p89, List.forall_mem_cons.mpr ⟨lw_p90, List.forall_mem_cons.mpr ⟨lw_p91, List.forall_mem_cons.mpr ⟨lw_p92, List.forall_mem_cons.mpr ⟨lw_p93, List.forall_mem_cons.mpr ⟨lw_p94, List.forall_mem_cons.mpr ⟨lw_p95, fun _ h => absurd h List.not_mem_nil⟩⟩⟩⟩⟩⟩⟩⟩⟩⟩⟩⟩⟩⟩⟩⟩
theorem lw_p96 : lw_okq (⟨"ShyWellModel", "isText", "(I)Z"⟩, 34) := ⟨⟨by decide +kernel, by decide +kernel⟩, List.mem_of_getElem? (i := 877) (by decide +kernel), List.mem_of_getElem? (i := 1271) (by decide +kernel), List.mem_of_getElem? (i := 1272) (by decide +kernel)⟩
theorem lw_p97 : lw_okq (⟨"ShyWellModel", "waterBehind", "(II)I"⟩, 34) := ⟨⟨by decide +kernel, by decide +kernel⟩, List.mem_of_getElem? (i := 877) (by decide +kernel), List.mem_of_getElem? (i := 1305) (by decide +kernel), List.mem_of_getElem? (i := 1306) (by decide +kernel)⟩
theorem lw_p98 : lw_okq (⟨"ShyWellModel", "setAside", "([I[I)V"⟩, 34) := ⟨⟨by decide +kernel, by decide +kernel⟩, List.mem_of_getElem? (i := 877) (by decide +kernel), List.mem_of_getElem? (i := 1341) (by decide +kernel), List.mem_of_getElem? (i := 1342) (by decide +kernel)⟩
def lw_privs_7 : List (MethodName × Nat) := [(⟨"ShyWellModel", "isText", "(I)Z"⟩, 34), (⟨"ShyWellModel", "waterBehind", "(II)I"⟩, 34), (⟨"ShyWellModel", "setAside", "([I[I)V"⟩, 34)]
theorem lw_r7 : ∀ q ∈ lw_privs_7, lw_okq q := List.forall_mem_cons.mpr ⟨lw_p96, List.forall_mem_cons.mpr ⟨lw_p97, List.forall_mem_cons.mpr ⟨lw_p98, fun _ h => absurd h List.not_mem_nil⟩⟩⟩
def lw_privs : List (MethodName × Nat) := lw_privs_1 ++ (lw_privs_2 ++ (lw_privs_3 ++ (lw_privs_4 ++ (lw_privs_5 ++ (lw_privs_6 ++ (lw_privs_7))))))
def lw_tbl : List Cond := k2_sels lw_privs ++ tables_1
theorem lw_privs_ok : ∀ q ∈ lw_privs, lw_okq q := by
  show ∀ q ∈ lw_privs_1 ++ (lw_privs_2 ++ (lw_privs_3 ++ (lw_privs_4 ++ (lw_privs_5 ++ (lw_privs_6 ++ (lw_privs_7)))))), lw_okq q
  exact List.forall_mem_append.mpr ⟨lw_r1, List.forall_mem_append.mpr ⟨lw_r2, List.forall_mem_append.mpr ⟨lw_r3, List.forall_mem_append.mpr ⟨lw_r4, List.forall_mem_append.mpr ⟨lw_r5, List.forall_mem_append.mpr ⟨lw_r6, lw_r7⟩⟩⟩⟩⟩⟩
def RX0 : String := "ShyWell$Comer"
def TX0 : u_T := fun k => match k with
  | 0 => ("ShyWell$Comer", "kind", "I", false)
  | 1 => ("ShyWell$Comer", "a", "I", false)
  | 2 => ("ShyWell$Comer", "away", "I", false)
  | 3 => ("ShyWell$Comer", "need", "I", false)
  | 4 => ("ShyWell$Comer", "want", "I", false)
  | 5 => ("ShyWell$Comer", "where", "I", false)
  | 6 => ("ShyWell$Comer", "left", "I", false)
  | 7 => ("ShyWell$Comer", "waited", "I", false)
  | 8 => ("ShyWell$Comer", "since", "I", false)
  | 9 => ("ShyWell$Comer", "got", "I", false)
  | 10 => ("ShyWell$Comer", "empty", "I", false)
  | 11 => ("ShyWell$Comer", "visits", "I", false)
  | _ => ("ShyWell$Comer", "began", "I", false)
def tyX0 : Nat → FieldType := fun k => match k with
  | 0 => .int
  | 1 => .int
  | 2 => .int
  | 3 => .int
  | 4 => .int
  | 5 => .int
  | 6 => .int
  | 7 => .int
  | 8 => .int
  | 9 => .int
  | 10 => .int
  | 11 => .int
  | _ => .int
theorem nmX0 : ∀ a, a < 13 → ∀ b, b < 13 → a ≠ b → (TX0 a).2.1 ≠ (TX0 b).2.1 := by decide +kernel
theorem tyX0_ok : ∀ k, k < 13 → parseFieldDescriptor (TX0 k).2.2.1 = some (tyX0 k) := by decide +kernel
abbrev cX0_init : ByteArray := prog_2_method_1_code
def yX0_init : MethodName := ⟨RX0, "<init>", "()V"⟩
abbrev cX0_start : ByteArray := prog_2_method_2_code
def yX0_start : MethodName := ⟨RX0, "start", "(IIII)V"⟩
abbrev cX0_become : ByteArray := prog_2_method_3_code
def yX0_become : MethodName := ⟨RX0, "become", "(LShyWell$Comer;)V"⟩
abbrev cX0_habit : ByteArray := prog_2_method_4_code
def yX0_habit : MethodName := ⟨RX0, "habit", "(I)I"⟩
abbrev cX0_changeHabit : ByteArray := prog_2_method_5_code
def yX0_changeHabit : MethodName := ⟨RX0, "changeHabit", "(II)V"⟩
abbrev cX0_worth : ByteArray := prog_2_method_6_code
def yX0_worth : MethodName := ⟨RX0, "worth", "()I"⟩
abbrev cX0_faredWorse : ByteArray := prog_2_method_7_code
def yX0_faredWorse : MethodName := ⟨RX0, "faredWorse", "(LShyWell$Comer;)Z"⟩
abbrev cX0_turnBack : ByteArray := prog_2_method_8_code
def yX0_turnBack : MethodName := ⟨RX0, "turnBack", "()V"⟩
def RX1 : String := "ShyWell$Reader"
def TX1 : u_T := fun k => match k with
  | 0 => ("ShyWell$Reader", "tape", "LShyWell$Row;", true)
  | 1 => ("ShyWell$Reader", "steps", "LShyWell$Row;", true)
  | 2 => ("ShyWell$Reader", "place", "I", false)
  | 3 => ("ShyWell$Reader", "end", "I", false)
  | 4 => ("ShyWell$Reader", "sort", "I", false)
  | 5 => ("ShyWell$Reader", "key", "I", false)
  | _ => ("ShyWell$Reader", "pieces", "I", false)
def tyX1 : Nat → FieldType := fun k => match k with
  | 0 => .object "ShyWell$Row"
  | 1 => .object "ShyWell$Row"
  | 2 => .int
  | 3 => .int
  | 4 => .int
  | 5 => .int
  | _ => .int
theorem nmX1 : ∀ a, a < 7 → ∀ b, b < 7 → a ≠ b → (TX1 a).2.1 ≠ (TX1 b).2.1 := by decide +kernel
theorem tyX1_ok : ∀ k, k < 7 → parseFieldDescriptor (TX1 k).2.2.1 = some (tyX1 k) := by decide +kernel
abbrev cX1_init : ByteArray := prog_3_method_1_code
def yX1_init : MethodName := ⟨RX1, "<init>", "()V"⟩
abbrev cX1_reads : ByteArray := prog_3_method_2_code
def yX1_reads : MethodName := ⟨RX1, "reads", "()Z"⟩
abbrev cX1_written : ByteArray := prog_3_method_3_code
def yX1_written : MethodName := ⟨RX1, "written", "()LShyWell$Text;"⟩
abbrev cX1_next : ByteArray := prog_3_method_4_code
def yX1_next : MethodName := ⟨RX1, "next", "()V"⟩
abbrev cX1_sortOf : ByteArray := prog_3_method_5_code
def yX1_sortOf : MethodName := ⟨RX1, "sortOf", "(I)I"⟩
abbrev cX1_keyHere : ByteArray := prog_3_method_6_code
def yX1_keyHere : MethodName := ⟨RX1, "keyHere", "()I"⟩
abbrev cX1_isWord : ByteArray := prog_3_method_7_code
def yX1_isWord : MethodName := ⟨RX1, "isWord", "(Ljava/lang/String;)Z"⟩
abbrev cX1_isSign : ByteArray := prog_3_method_8_code
def yX1_isSign : MethodName := ⟨RX1, "isSign", "(I)Z"⟩
abbrev cX1_levelHere : ByteArray := prog_3_method_9_code
def yX1_levelHere : MethodName := ⟨RX1, "levelHere", "()I"⟩
abbrev cX1_readsLevel : ByteArray := prog_3_method_10_code
def yX1_readsLevel : MethodName := ⟨RX1, "readsLevel", "(III)Z"⟩
abbrev cX1_readsPiece : ByteArray := prog_3_method_11_code
def yX1_readsPiece : MethodName := ⟨RX1, "readsPiece", "(II)Z"⟩
abbrev cX1_readsNumber : ByteArray := prog_3_method_12_code
def yX1_readsNumber : MethodName := ⟨RX1, "readsNumber", "()Z"⟩
abbrev cX1_readsName : ByteArray := prog_3_method_13_code
def yX1_readsName : MethodName := ⟨RX1, "readsName", "()Z"⟩
abbrev cX1_addPiece : ByteArray := prog_3_method_14_code
def yX1_addPiece : MethodName := ⟨RX1, "addPiece", "(I)V"⟩
abbrev cX1_namesOf : ByteArray := prog_3_method_15_code
def yX1_namesOf : MethodName := ⟨RX1, "namesOf", "(I)Ljava/lang/String;"⟩
def RX2 : String := "ShyWell$Row"
def TX2 : u_T := fun k => match k with
  | 0 => ("ShyWell$Row", "places", "[I", true)
  | _ => ("ShyWell$Row", "size", "I", false)
def tyX2 : Nat → FieldType := fun k => match k with
  | 0 => .array .int
  | _ => .int
theorem nmX2 : ∀ a, a < 2 → ∀ b, b < 2 → a ≠ b → (TX2 a).2.1 ≠ (TX2 b).2.1 := by decide +kernel
theorem tyX2_ok : ∀ k, k < 2 → parseFieldDescriptor (TX2 k).2.2.1 = some (tyX2 k) := by decide +kernel
abbrev cX2_init : ByteArray := prog_4_method_1_code
def yX2_init : MethodName := ⟨RX2, "<init>", "(I)V"⟩
abbrev cX2_add : ByteArray := prog_4_method_2_code
def yX2_add : MethodName := ⟨RX2, "add", "(I)V"⟩
abbrev cX2_at : ByteArray := prog_4_method_3_code
def yX2_at : MethodName := ⟨RX2, "at", "(I)I"⟩
def RX3 : String := "ShyWell$Scene"
def TX3 : u_T := fun k => match k with
  | 0 => ("ShyWell$Scene", "laws", "[LShyWell$Text;", true)
  | 1 => ("ShyWell$Scene", "counting", "[I", true)
  | 2 => ("ShyWell$Scene", "texts", "I", false)
  | 3 => ("ShyWell$Scene", "comers", "[LShyWell$Comer;", true)
  | 4 => ("ShyWell$Scene", "size", "I", false)
  | 5 => ("ShyWell$Scene", "quarter", "I", false)
  | 6 => ("ShyWell$Scene", "most", "I", false)
  | 7 => ("ShyWell$Scene", "water", "I", false)
  | 8 => ("ShyWell$Scene", "bucket", "I", false)
  | 9 => ("ShyWell$Scene", "forgets", "I", false)
  | 10 => ("ShyWell$Scene", "quiet", "I", false)
  | 11 => ("ShyWell$Scene", "minute", "I", false)
  | 12 => ("ShyWell$Scene", "waits", "I", false)
  | _ => ("ShyWell$Scene", "z", "I", false)
def tyX3 : Nat → FieldType := fun k => match k with
  | 0 => .array (.object "ShyWell$Text")
  | 1 => .array .int
  | 2 => .int
  | 3 => .array (.object "ShyWell$Comer")
  | 4 => .int
  | 5 => .int
  | 6 => .int
  | 7 => .int
  | 8 => .int
  | 9 => .int
  | 10 => .int
  | 11 => .int
  | 12 => .int
  | _ => .int
theorem nmX3 : ∀ a, a < 14 → ∀ b, b < 14 → a ≠ b → (TX3 a).2.1 ≠ (TX3 b).2.1 := by decide +kernel
theorem tyX3_ok : ∀ k, k < 14 → parseFieldDescriptor (TX3 k).2.2.1 = some (tyX3 k) := by decide +kernel
abbrev cX3_init : ByteArray := prog_5_method_1_code
def yX3_init : MethodName := ⟨RX3, "<init>", "()V"⟩
abbrev cX3_become : ByteArray := prog_5_method_2_code
def yX3_become : MethodName := ⟨RX3, "become", "(LShyWell$Scene;)V"⟩
abbrev cX3_comerAt : ByteArray := prog_5_method_3_code
def yX3_comerAt : MethodName := ⟨RX3, "comerAt", "(I)LShyWell$Comer;"⟩
abbrev cX3_admit : ByteArray := prog_5_method_4_code
def yX3_admit : MethodName := ⟨RX3, "admit", "(IIII)V"⟩
abbrev cX3_change : ByteArray := prog_5_method_5_code
def yX3_change : MethodName := ⟨RX3, "change", "(II)I"⟩
abbrev cX3_draw : ByteArray := prog_5_method_6_code
def yX3_draw : MethodName := ⟨RX3, "draw", "()I"⟩
abbrev cX3_addLaw : ByteArray := prog_5_method_7_code
def yX3_addLaw : MethodName := ⟨RX3, "addLaw", "(LShyWell$Text;)V"⟩
abbrev cX3_lawAt : ByteArray := prog_5_method_8_code
def yX3_lawAt : MethodName := ⟨RX3, "lawAt", "(I)LShyWell$Text;"⟩
abbrev cX3_lawOf : ByteArray := prog_5_method_9_code
def yX3_lawOf : MethodName := ⟨RX3, "lawOf", "(I)LShyWell$Text;"⟩
abbrev cX3_standing : ByteArray := prog_5_method_10_code
def yX3_standing : MethodName := ⟨RX3, "standing", "()I"⟩
abbrev cX3_gotOfAll : ByteArray := prog_5_method_11_code
def yX3_gotOfAll : MethodName := ⟨RX3, "gotOfAll", "()I"⟩
abbrev cX3_emptyOfAll : ByteArray := prog_5_method_12_code
def yX3_emptyOfAll : MethodName := ⟨RX3, "emptyOfAll", "()I"⟩
abbrev cX3_visitsOfAll : ByteArray := prog_5_method_13_code
def yX3_visitsOfAll : MethodName := ⟨RX3, "visitsOfAll", "()I"⟩
abbrev cX3_leaveHolds : ByteArray := prog_5_method_14_code
def yX3_leaveHolds : MethodName := ⟨RX3, "leaveHolds", "(LShyWell$Comer;)Z"⟩
abbrev cX3_wouldLeave : ByteArray := prog_5_method_15_code
def yX3_wouldLeave : MethodName := ⟨RX3, "wouldLeave", "(LShyWell$Comer;)Z"⟩
abbrev cX3_stayGives : ByteArray := prog_5_method_16_code
def yX3_stayGives : MethodName := ⟨RX3, "stayGives", "(LShyWell$Comer;)I"⟩
abbrev cX3_staysOf : ByteArray := prog_5_method_17_code
def yX3_staysOf : MethodName := ⟨RX3, "staysOf", "(LShyWell$Comer;)I"⟩
abbrev cX3_advance : ByteArray := prog_5_method_18_code
def yX3_advance : MethodName := ⟨RX3, "advance", "(I)I"⟩
abbrev cX3_letLeave : ByteArray := prog_5_method_19_code
def yX3_letLeave : MethodName := ⟨RX3, "letLeave", "()V"⟩
abbrev cX3_letCome : ByteArray := prog_5_method_20_code
def yX3_letCome : MethodName := ⟨RX3, "letCome", "()Z"⟩
abbrev cX3_arrive : ByteArray := prog_5_method_21_code
def yX3_arrive : MethodName := ⟨RX3, "arrive", "(LShyWell$Comer;)V"⟩
abbrev cX3_letWait : ByteArray := prog_5_method_22_code
def yX3_letWait : MethodName := ⟨RX3, "letWait", "()V"⟩
abbrev cX3_letReachHome : ByteArray := prog_5_method_23_code
def yX3_letReachHome : MethodName := ⟨RX3, "letReachHome", "()V"⟩
abbrev cX3_fill : ByteArray := prog_5_method_24_code
def yX3_fill : MethodName := ⟨RX3, "fill", "(Z)V"⟩
abbrev cX3_endMinute : ByteArray := prog_5_method_25_code
def yX3_endMinute : MethodName := ⟨RX3, "endMinute", "()V"⟩
abbrev cX3_keepOthersHome : ByteArray := prog_5_method_26_code
def yX3_keepOthersHome : MethodName := ⟨RX3, "keepOthersHome", "(I)V"⟩
abbrev cX3_differences : ByteArray := prog_5_method_27_code
def yX3_differences : MethodName := ⟨RX3, "differences", "(LShyWell$Sheet;I)I"⟩
def RX4 : String := "ShyWell$Sheet"
def TX4 : u_T := fun k => match k with
  | 0 => ("ShyWell$Sheet", "places", "[I", true)
  | 1 => ("ShyWell$Sheet", "sort", "I", false)
  | _ => ("ShyWell$Sheet", "size", "I", false)
def tyX4 : Nat → FieldType := fun k => match k with
  | 0 => .array .int
  | 1 => .int
  | _ => .int
theorem nmX4 : ∀ a, a < 3 → ∀ b, b < 3 → a ≠ b → (TX4 a).2.1 ≠ (TX4 b).2.1 := by decide +kernel
theorem tyX4_ok : ∀ k, k < 3 → parseFieldDescriptor (TX4 k).2.2.1 = some (tyX4 k) := by decide +kernel
abbrev cX4_init : ByteArray := prog_6_method_1_code
def yX4_init : MethodName := ⟨RX4, "<init>", "()V"⟩
abbrev cX4_start : ByteArray := prog_6_method_2_code
def yX4_start : MethodName := ⟨RX4, "start", "(II)V"⟩
abbrev cX4_become : ByteArray := prog_6_method_3_code
def yX4_become : MethodName := ⟨RX4, "become", "(LShyWell$Sheet;)V"⟩
abbrev cX4_hasPlaces : ByteArray := prog_6_method_4_code
def yX4_hasPlaces : MethodName := ⟨RX4, "hasPlaces", "(II)Z"⟩
def RX5 : String := "ShyWell$Slot"
def TX5 : u_T := fun k => match k with
  | 0 => ("ShyWell$Slot", "comer", "LShyWell$Comer;", true)
  | 1 => ("ShyWell$Slot", "sheet", "LShyWell$Sheet;", true)
  | 2 => ("ShyWell$Slot", "thing", "I", false)
  | _ => ("ShyWell$Slot", "number", "I", false)
def tyX5 : Nat → FieldType := fun k => match k with
  | 0 => .object "ShyWell$Comer"
  | 1 => .object "ShyWell$Sheet"
  | 2 => .int
  | _ => .int
theorem nmX5 : ∀ a, a < 4 → ∀ b, b < 4 → a ≠ b → (TX5 a).2.1 ≠ (TX5 b).2.1 := by decide +kernel
theorem tyX5_ok : ∀ k, k < 4 → parseFieldDescriptor (TX5 k).2.2.1 = some (tyX5 k) := by decide +kernel
abbrev cX5_init : ByteArray := prog_7_method_1_code
def yX5_init : MethodName := ⟨RX5, "<init>", "()V"⟩
def RX6 : String := "ShyWell$Text"
def TX6 : u_T := fun k => match k with
  | 0 => ("ShyWell$Text", "key", "I", true)
  | 1 => ("ShyWell$Text", "pieces", "I", true)
  | 2 => ("ShyWell$Text", "steps", "[I", true)
  | _ => ("ShyWell$Text", "pile", "[I", true)
def tyX6 : Nat → FieldType := fun k => match k with
  | 0 => .int
  | 1 => .int
  | 2 => .array .int
  | _ => .array .int
theorem nmX6 : ∀ a, a < 4 → ∀ b, b < 4 → a ≠ b → (TX6 a).2.1 ≠ (TX6 b).2.1 := by decide +kernel
theorem tyX6_ok : ∀ k, k < 4 → parseFieldDescriptor (TX6 k).2.2.1 = some (tyX6 k) := by decide +kernel
abbrev cX6_init : ByteArray := prog_8_method_1_code
def yX6_init : MethodName := ⟨RX6, "<init>", "(II[I)V"⟩
abbrev cX6_value : ByteArray := prog_8_method_2_code
def yX6_value : MethodName := ⟨RX6, "value", "(III)I"⟩
abbrev cX6_joined : ByteArray := prog_8_method_3_code
def yX6_joined : MethodName := ⟨RX6, "joined", "(III)I"⟩
def RX7 : String := "ShyWell"
def TX7 : u_T := fun k => match k with
  | 0 => ("ShyWell", "now", "LShyWell$Scene;", true)
  | 1 => ("ShyWell", "thought", "LShyWell$Scene;", true)
  | 2 => ("ShyWell", "image", "LShyWell$Scene;", true)
  | 3 => ("ShyWell", "imageKept", "Z", false)
  | 4 => ("ShyWell", "reader", "LShyWell$Reader;", true)
  | 5 => ("ShyWell", "tape", "LShyWell$Row;", true)
  | 6 => ("ShyWell", "waiting", "LShyWell$Row;", true)
  | 7 => ("ShyWell", "sheets", "[LShyWell$Sheet;", true)
  | _ => ("ShyWell", "slots", "[LShyWell$Slot;", true)
def tyX7 : Nat → FieldType := fun k => match k with
  | 0 => .object "ShyWell$Scene"
  | 1 => .object "ShyWell$Scene"
  | 2 => .object "ShyWell$Scene"
  | 3 => .boolean
  | 4 => .object "ShyWell$Reader"
  | 5 => .object "ShyWell$Row"
  | 6 => .object "ShyWell$Row"
  | 7 => .array (.object "ShyWell$Sheet")
  | _ => .array (.object "ShyWell$Slot")
theorem nmX7 : ∀ a, a < 9 → ∀ b, b < 9 → a ≠ b → (TX7 a).2.1 ≠ (TX7 b).2.1 := by decide +kernel
theorem tyX7_ok : ∀ k, k < 9 → parseFieldDescriptor (TX7 k).2.2.1 = some (tyX7 k) := by decide +kernel
abbrev cX7_init : ByteArray := prog_1_method_1_code
def yX7_init : MethodName := ⟨RX7, "<init>", "()V"⟩
abbrev cX7_comer : ByteArray := prog_1_method_2_code
def yX7_comer : MethodName := ⟨RX7, "comer", "(IIII)I"⟩
abbrev cX7_told : ByteArray := prog_1_method_3_code
def yX7_told : MethodName := ⟨RX7, "told", "(II)I"⟩
abbrev cX7_as : ByteArray := prog_1_method_4_code
def yX7_as : MethodName := ⟨RX7, "as", "(II)I"⟩
abbrev cX7_turns : ByteArray := prog_1_method_5_code
def yX7_turns : MethodName := ⟨RX7, "turns", "(II)I"⟩
abbrev cX7_set : ByteArray := prog_1_method_6_code
def yX7_set : MethodName := ⟨RX7, "set", "(III)I"⟩
abbrev cX7_well : ByteArray := prog_1_method_7_code
def yX7_well : MethodName := ⟨RX7, "well", "(II)I"⟩
abbrev cX7_deal : ByteArray := prog_1_method_8_code
def yX7_deal : MethodName := ⟨RX7, "deal", "(I)I"⟩
abbrev cX7_seed : ByteArray := prog_1_method_9_code
def yX7_seed : MethodName := ⟨RX7, "seed", "(I)I"⟩
abbrev cX7_run : ByteArray := prog_1_method_10_code
def yX7_run : MethodName := ⟨RX7, "run", "(I)I"⟩
abbrev cX7_behind : ByteArray := prog_1_method_11_code
def yX7_behind : MethodName := ⟨RX7, "behind", "(II)I"⟩
abbrev cX7_fullIn : ByteArray := prog_1_method_12_code
def yX7_fullIn : MethodName := ⟨RX7, "fullIn", "(I)I"⟩
abbrev cX7_best : ByteArray := prog_1_method_13_code
def yX7_best : MethodName := ⟨RX7, "best", "(III)I"⟩
abbrev cX7_alone : ByteArray := prog_1_method_14_code
def yX7_alone : MethodName := ⟨RX7, "alone", "(II)I"⟩
abbrev cX7_mean : ByteArray := prog_1_method_15_code
def yX7_mean : MethodName := ⟨RX7, "mean", "(I)J"⟩
abbrev cX7_least : ByteArray := prog_1_method_16_code
def yX7_least : MethodName := ⟨RX7, "least", "()I"⟩
abbrev cX7_fine : ByteArray := prog_1_method_17_code
def yX7_fine : MethodName := ⟨RX7, "fine", "(I)I"⟩
abbrev cX7_feed : ByteArray := prog_1_method_18_code
def yX7_feed : MethodName := ⟨RX7, "feed", "(III)I"⟩
abbrev cX7_trim : ByteArray := prog_1_method_19_code
def yX7_trim : MethodName := ⟨RX7, "trim", "(I)I"⟩
abbrev cX7_text : ByteArray := prog_1_method_20_code
def yX7_text : MethodName := ⟨RX7, "text", "()I"⟩
abbrev cX7_textTold : ByteArray := prog_1_method_21_code
def yX7_textTold : MethodName := ⟨RX7, "textTold", "(II)I"⟩
abbrev cX7_why : ByteArray := prog_1_method_22_code
def yX7_why : MethodName := ⟨RX7, "why", "(I)I"⟩
abbrev cX7_sheet : ByteArray := prog_1_method_23_code
def yX7_sheet : MethodName := ⟨RX7, "sheet", "(III)I"⟩
abbrev cX7_mark : ByteArray := prog_1_method_24_code
def yX7_mark : MethodName := ⟨RX7, "mark", "(III)I"⟩
abbrev cX7_pour : ByteArray := prog_1_method_25_code
def yX7_pour : MethodName := ⟨RX7, "pour", "(I)I"⟩
abbrev cX7_explained : ByteArray := prog_1_method_26_code
def yX7_explained : MethodName := ⟨RX7, "explained", "(II)I"⟩
abbrev cX7_copy : ByteArray := prog_1_method_27_code
def yX7_copy : MethodName := ⟨RX7, "copy", "(IIIII)I"⟩
abbrev cX7_lay : ByteArray := prog_1_method_28_code
def yX7_lay : MethodName := ⟨RX7, "lay", "(III)I"⟩
abbrev cX7_ask : ByteArray := prog_1_method_29_code
def yX7_ask : MethodName := ⟨RX7, "ask", "(II)I"⟩
abbrev cX7_item : ByteArray := prog_1_method_30_code
def yX7_item : MethodName := ⟨RX7, "item", "(II)I"⟩
abbrev cX7_rest : ByteArray := prog_1_method_31_code
def yX7_rest : MethodName := ⟨RX7, "rest", "(II)I"⟩
abbrev cX7_tell : ByteArray := prog_1_method_32_code
def yX7_tell : MethodName := ⟨RX7, "tell", "(I)I"⟩
abbrev cX7_check : ByteArray := prog_1_method_33_code
def yX7_check : MethodName := ⟨RX7, "check", "(I)I"⟩
abbrev cX7_keep : ByteArray := prog_1_method_34_code
def yX7_keep : MethodName := ⟨RX7, "keep", "()I"⟩
abbrev cX7_back : ByteArray := prog_1_method_35_code
def yX7_back : MethodName := ⟨RX7, "back", "()I"⟩
abbrev cX7_count : ByteArray := prog_1_method_36_code
def yX7_count : MethodName := ⟨RX7, "count", "(I)I"⟩
abbrev cX7_within : ByteArray := prog_1_method_37_code
def yX7_within : MethodName := ⟨RX7, "within", "(III)Z"⟩
abbrev cX7_held : ByteArray := prog_1_method_38_code
def yX7_held : MethodName := ⟨RX7, "held", "(III)I"⟩
abbrev cX7_isKind : ByteArray := prog_1_method_39_code
def yX7_isKind : MethodName := ⟨RX7, "isKind", "(I)Z"⟩
abbrev cX7_isUnder : ByteArray := prog_1_method_40_code
def yX7_isUnder : MethodName := ⟨RX7, "isUnder", "(II)Z"⟩
abbrev cX7_fitsHabit : ByteArray := prog_1_method_41_code
def yX7_fitsHabit : MethodName := ⟨RX7, "fitsHabit", "(II)Z"⟩
abbrev cX7_greatestShared : ByteArray := prog_1_method_42_code
def yX7_greatestShared : MethodName := ⟨RX7, "greatestShared", "(JJ)J"⟩
abbrev cX7_feedBytesOf : ByteArray := prog_1_method_43_code
def yX7_feedBytesOf : MethodName := ⟨RX7, "feedBytesOf", "(I)V"⟩
abbrev cX7_sheetAt : ByteArray := prog_1_method_44_code
def yX7_sheetAt : MethodName := ⟨RX7, "sheetAt", "(I)LShyWell$Sheet;"⟩
abbrev cX7_slotAt : ByteArray := prog_1_method_45_code
def yX7_slotAt : MethodName := ⟨RX7, "slotAt", "(I)LShyWell$Slot;"⟩
abbrev cX7_firstUntrue : ByteArray := prog_1_method_46_code
def yX7_firstUntrue : MethodName := ⟨RX7, "firstUntrue", "(I)I"⟩
abbrev cX7_isTold : ByteArray := prog_1_method_47_code
def yX7_isTold : MethodName := ⟨RX7, "isTold", "(II)Z"⟩
def RX8 : String := "ShyWellModel"
def TX8 : u_T := fun k => match k with
  | 0 => ("ShyWellModel", "s", "[I", true)
  | 1 => ("ShyWellModel", "image", "[I", true)
  | 2 => ("ShyWellModel", "aside", "[I", true)
  | 3 => ("ShyWellModel", "hasImage", "Z", false)
  | 4 => ("ShyWellModel", "tSort", "[I", true)
  | 5 => ("ShyWellModel", "tSize", "[I", true)
  | 6 => ("ShyWellModel", "tNumber", "[I", true)
  | 7 => ("ShyWellModel", "held", "[I", true)
  | 8 => ("ShyWellModel", "heldNumber", "[I", true)
  | 9 => ("ShyWellModel", "heldWorth", "[I", true)
  | 10 => ("ShyWellModel", "heldSize", "[I", true)
  | 11 => ("ShyWellModel", "heldRow", "[I", true)
  | 12 => ("ShyWellModel", "whereAtFirst", "[I", true)
  | 13 => ("ShyWellModel", "only", "I", false)
  | 14 => ("ShyWellModel", "stoodBy", "I", false)
  | 15 => ("ShyWellModel", "close", "[I", true)
  | 16 => ("ShyWellModel", "tape", "[I", true)
  | 17 => ("ShyWellModel", "taped", "I", false)
  | 18 => ("ShyWellModel", "begin", "I", false)
  | 19 => ("ShyWellModel", "behind", "I", false)
  | 20 => ("ShyWellModel", "token", "I", false)
  | 21 => ("ShyWellModel", "number", "I", false)
  | 22 => ("ShyWellModel", "letter", "I", false)
  | 23 => ("ShyWellModel", "deep", "I", false)
  | 24 => ("ShyWellModel", "turned", "I", false)
  | 25 => ("ShyWellModel", "laid", "I", false)
  | 26 => ("ShyWellModel", "laidAt", "I", false)
  | 27 => ("ShyWellModel", "said", "I", false)
  | 28 => ("ShyWellModel", "named", "[I", true)
  | 29 => ("ShyWellModel", "pile", "[I", true)
  | 30 => ("ShyWellModel", "carried", "[I", true)
  | 31 => ("ShyWellModel", "waits", "[I", true)
  | 32 => ("ShyWellModel", "waiting", "I", false)
  | _ => ("ShyWellModel", "rowDue", "[I", true)
def tyX8 : Nat → FieldType := fun k => match k with
  | 0 => .array .int
  | 1 => .array .int
  | 2 => .array .int
  | 3 => .boolean
  | 4 => .array .int
  | 5 => .array .int
  | 6 => .array .int
  | 7 => .array .int
  | 8 => .array .int
  | 9 => .array .int
  | 10 => .array .int
  | 11 => .array .int
  | 12 => .array .int
  | 13 => .int
  | 14 => .int
  | 15 => .array .int
  | 16 => .array .int
  | 17 => .int
  | 18 => .int
  | 19 => .int
  | 20 => .int
  | 21 => .int
  | 22 => .int
  | 23 => .int
  | 24 => .int
  | 25 => .int
  | 26 => .int
  | 27 => .int
  | 28 => .array .int
  | 29 => .array .int
  | 30 => .array .int
  | 31 => .array .int
  | 32 => .int
  | _ => .array .int
theorem nmX8 : ∀ a, a < 34 → ∀ b, b < 34 → a ≠ b → (TX8 a).2.1 ≠ (TX8 b).2.1 := by decide +kernel
theorem tyX8_ok : ∀ k, k < 34 → parseFieldDescriptor (TX8 k).2.2.1 = some (tyX8 k) := by decide +kernel
abbrev cX8_init : ByteArray := prog_10_method_1_code
def yX8_init : MethodName := ⟨RX8, "<init>", "()V"⟩
abbrev cX8_isIn : ByteArray := prog_10_method_2_code
def yX8_isIn : MethodName := ⟨RX8, "isIn", "(JJJ)Z"⟩
abbrev cX8_orNone : ByteArray := prog_10_method_3_code
def yX8_orNone : MethodName := ⟨RX8, "orNone", "(I)I"⟩
abbrev cX8_within : ByteArray := prog_10_method_4_code
def yX8_within : MethodName := ⟨RX8, "within", "(II)I"⟩
abbrev cX8_becomes : ByteArray := prog_10_method_5_code
def yX8_becomes : MethodName := ⟨RX8, "becomes", "(II)I"⟩
abbrev cX8_textAt : ByteArray := prog_10_method_6_code
def yX8_textAt : MethodName := ⟨RX8, "textAt", "(I)I"⟩
abbrev cX8_of : ByteArray := prog_10_method_7_code
def yX8_of : MethodName := ⟨RX8, "of", "(II)I"⟩
abbrev cX8_sets : ByteArray := prog_10_method_8_code
def yX8_sets : MethodName := ⟨RX8, "sets", "(III)V"⟩
abbrev cX8_more : ByteArray := prog_10_method_9_code
def yX8_more : MethodName := ⟨RX8, "more", "(II)V"⟩
abbrev cX8_isComer : ByteArray := prog_10_method_10_code
def yX8_isComer : MethodName := ⟨RX8, "isComer", "(I)Z"⟩
abbrev cX8_isText : ByteArray := prog_10_method_11_code
def yX8_isText : MethodName := ⟨RX8, "isText", "(I)Z"⟩
abbrev cX8_drawn : ByteArray := prog_10_method_12_code
def yX8_drawn : MethodName := ⟨RX8, "drawn", "()I"⟩
abbrev cX8_comes : ByteArray := prog_10_method_13_code
def yX8_comes : MethodName := ⟨RX8, "comes", "(IIII)V"⟩
abbrev cX8_comer : ByteArray := prog_10_method_14_code
def yX8_comer : MethodName := ⟨RX8, "comer", "(IIII)I"⟩
abbrev cX8_standing : ByteArray := prog_10_method_15_code
def yX8_standing : MethodName := ⟨RX8, "standing", "()I"⟩
abbrev cX8_plainLeaves : ByteArray := prog_10_method_16_code
def yX8_plainLeaves : MethodName := ⟨RX8, "plainLeaves", "(I)Z"⟩
abbrev cX8_wouldLeave : ByteArray := prog_10_method_17_code
def yX8_wouldLeave : MethodName := ⟨RX8, "wouldLeave", "(I)Z"⟩
abbrev cX8_stays : ByteArray := prog_10_method_18_code
def yX8_stays : MethodName := ⟨RX8, "stays", "(I)I"⟩
abbrev cX8_worth : ByteArray := prog_10_method_19_code
def yX8_worth : MethodName := ⟨RX8, "worth", "(I)I"⟩
abbrev cX8_told : ByteArray := prog_10_method_20_code
def yX8_told : MethodName := ⟨RX8, "told", "(II)I"⟩
abbrev cX8_isOf : ByteArray := prog_10_method_21_code
def yX8_isOf : MethodName := ⟨RX8, "isOf", "(II)Z"⟩
abbrev cX8_as : ByteArray := prog_10_method_22_code
def yX8_as : MethodName := ⟨RX8, "as", "(II)I"⟩
abbrev cX8_turns : ByteArray := prog_10_method_23_code
def yX8_turns : MethodName := ⟨RX8, "turns", "(II)I"⟩
abbrev cX8_set : ByteArray := prog_10_method_24_code
def yX8_set : MethodName := ⟨RX8, "set", "(III)I"⟩
abbrev cX8_mayBe : ByteArray := prog_10_method_25_code
def yX8_mayBe : MethodName := ⟨RX8, "mayBe", "(II)Z"⟩
abbrev cX8_well : ByteArray := prog_10_method_26_code
def yX8_well : MethodName := ⟨RX8, "well", "(II)I"⟩
abbrev cX8_deal : ByteArray := prog_10_method_27_code
def yX8_deal : MethodName := ⟨RX8, "deal", "(I)I"⟩
abbrev cX8_seed : ByteArray := prog_10_method_28_code
def yX8_seed : MethodName := ⟨RX8, "seed", "(I)I"⟩
abbrev cX8_goesBack : ByteArray := prog_10_method_29_code
def yX8_goesBack : MethodName := ⟨RX8, "goesBack", "(I)V"⟩
abbrev cX8_isThere : ByteArray := prog_10_method_30_code
def yX8_isThere : MethodName := ⟨RX8, "isThere", "(I)V"⟩
abbrev cX8_leaveHome : ByteArray := prog_10_method_31_code
def yX8_leaveHome : MethodName := ⟨RX8, "leaveHome", "()V"⟩
abbrev cX8_comeThere : ByteArray := prog_10_method_32_code
def yX8_comeThere : MethodName := ⟨RX8, "comeThere", "()Z"⟩
abbrev cX8_waitOrGo : ByteArray := prog_10_method_33_code
def yX8_waitOrGo : MethodName := ⟨RX8, "waitOrGo", "()V"⟩
abbrev cX8_goesOn : ByteArray := prog_10_method_34_code
def yX8_goesOn : MethodName := ⟨RX8, "goesOn", "()V"⟩
abbrev cX8_ofAll : ByteArray := prog_10_method_35_code
def yX8_ofAll : MethodName := ⟨RX8, "ofAll", "(I)I"⟩
abbrev cX8_run : ByteArray := prog_10_method_36_code
def yX8_run : MethodName := ⟨RX8, "run", "(I)I"⟩
abbrev cX8_laysBy : ByteArray := prog_10_method_37_code
def yX8_laysBy : MethodName := ⟨RX8, "laysBy", "()V"⟩
abbrev cX8_laysBack : ByteArray := prog_10_method_38_code
def yX8_laysBack : MethodName := ⟨RX8, "laysBack", "()V"⟩
abbrev cX8_goesOnMany : ByteArray := prog_10_method_39_code
def yX8_goesOnMany : MethodName := ⟨RX8, "goesOnMany", "(I)V"⟩
abbrev cX8_behind : ByteArray := prog_10_method_40_code
def yX8_behind : MethodName := ⟨RX8, "behind", "(II)I"⟩
abbrev cX8_fullIn : ByteArray := prog_10_method_41_code
def yX8_fullIn : MethodName := ⟨RX8, "fullIn", "(I)I"⟩
abbrev cX8_best : ByteArray := prog_10_method_42_code
def yX8_best : MethodName := ⟨RX8, "best", "(III)I"⟩
abbrev cX8_alone : ByteArray := prog_10_method_43_code
def yX8_alone : MethodName := ⟨RX8, "alone", "(II)I"⟩
abbrev cX8_mean : ByteArray := prog_10_method_44_code
def yX8_mean : MethodName := ⟨RX8, "mean", "(I)J"⟩
abbrev cX8_least : ByteArray := prog_10_method_45_code
def yX8_least : MethodName := ⟨RX8, "least", "()I"⟩
abbrev cX8_fine : ByteArray := prog_10_method_46_code
def yX8_fine : MethodName := ⟨RX8, "fine", "(I)I"⟩
abbrev cX8_feed : ByteArray := prog_10_method_47_code
def yX8_feed : MethodName := ⟨RX8, "feed", "(III)I"⟩
abbrev cX8_trim : ByteArray := prog_10_method_48_code
def yX8_trim : MethodName := ⟨RX8, "trim", "(I)I"⟩
abbrev cX8_isLetter : ByteArray := prog_10_method_49_code
def yX8_isLetter : MethodName := ⟨RX8, "isLetter", "(I)Z"⟩
abbrev cX8_isDigit : ByteArray := prog_10_method_50_code
def yX8_isDigit : MethodName := ⟨RX8, "isDigit", "(I)Z"⟩
abbrev cX8_nextToken : ByteArray := prog_10_method_51_code
def yX8_nextToken : MethodName := ⟨RX8, "nextToken", "()V"⟩
abbrev cX8_isSign : ByteArray := prog_10_method_52_code
def yX8_isSign : MethodName := ⟨RX8, "isSign", "(I)Z"⟩
abbrev cX8_isWordAt : ByteArray := prog_10_method_53_code
def yX8_isWordAt : MethodName := ⟨RX8, "isWordAt", "(IIII)Z"⟩
abbrev cX8_isLong : ByteArray := prog_10_method_54_code
def yX8_isLong : MethodName := ⟨RX8, "isLong", "(IIIIII)Z"⟩
abbrev cX8_key : ByteArray := prog_10_method_55_code
def yX8_key : MethodName := ⟨RX8, "key", "()I"⟩
abbrev cX8_isName : ByteArray := prog_10_method_56_code
def yX8_isName : MethodName := ⟨RX8, "isName", "(II)Z"⟩
abbrev cX8_step : ByteArray := prog_10_method_57_code
def yX8_step : MethodName := ⟨RX8, "step", "(II)V"⟩
abbrev cX8_either : ByteArray := prog_10_method_58_code
def yX8_either : MethodName := ⟨RX8, "either", "(I)Z"⟩
abbrev cX8_both : ByteArray := prog_10_method_59_code
def yX8_both : MethodName := ⟨RX8, "both", "(I)Z"⟩
abbrev cX8_test : ByteArray := prog_10_method_60_code
def yX8_test : MethodName := ⟨RX8, "test", "(I)Z"⟩
abbrev cX8_sum : ByteArray := prog_10_method_61_code
def yX8_sum : MethodName := ⟨RX8, "sum", "(I)Z"⟩
abbrev cX8_term : ByteArray := prog_10_method_62_code
def yX8_term : MethodName := ⟨RX8, "term", "(I)Z"⟩
abbrev cX8_part0 : ByteArray := prog_10_method_63_code
def yX8_part0 : MethodName := ⟨RX8, "part0", "(I)Z"⟩
abbrev cX8_parse : ByteArray := prog_10_method_64_code
def yX8_parse : MethodName := ⟨RX8, "parse", "()I"⟩
abbrev cX8_text : ByteArray := prog_10_method_65_code
def yX8_text : MethodName := ⟨RX8, "text", "()I"⟩
abbrev cX8_textTold : ByteArray := prog_10_method_66_code
def yX8_textTold : MethodName := ⟨RX8, "textTold", "(II)I"⟩
abbrev cX8_counts : ByteArray := prog_10_method_67_code
def yX8_counts : MethodName := ⟨RX8, "counts", "(I)I"⟩
abbrev cX8_why : ByteArray := prog_10_method_68_code
def yX8_why : MethodName := ⟨RX8, "why", "(I)I"⟩
abbrev cX8_joined : ByteArray := prog_10_method_69_code
def yX8_joined : MethodName := ⟨RX8, "joined", "(III)I"⟩
abbrev cX8_worked : ByteArray := prog_10_method_70_code
def yX8_worked : MethodName := ⟨RX8, "worked", "(I)I"⟩
abbrev cX8_isSheet : ByteArray := prog_10_method_71_code
def yX8_isSheet : MethodName := ⟨RX8, "isSheet", "(I)Z"⟩
abbrev cX8_sheet : ByteArray := prog_10_method_72_code
def yX8_sheet : MethodName := ⟨RX8, "sheet", "(III)I"⟩
abbrev cX8_mark : ByteArray := prog_10_method_73_code
def yX8_mark : MethodName := ⟨RX8, "mark", "(III)I"⟩
abbrev cX8_pour : ByteArray := prog_10_method_74_code
def yX8_pour : MethodName := ⟨RX8, "pour", "(I)I"⟩
abbrev cX8_waterBehind : ByteArray := prog_10_method_75_code
def yX8_waterBehind : MethodName := ⟨RX8, "waterBehind", "(II)I"⟩
abbrev cX8_explained : ByteArray := prog_10_method_76_code
def yX8_explained : MethodName := ⟨RX8, "explained", "(II)I"⟩
abbrev cX8_copy : ByteArray := prog_10_method_77_code
def yX8_copy : MethodName := ⟨RX8, "copy", "(IIIII)I"⟩
abbrev cX8_isSlot : ByteArray := prog_10_method_78_code
def yX8_isSlot : MethodName := ⟨RX8, "isSlot", "(I)Z"⟩
abbrev cX8_lay : ByteArray := prog_10_method_79_code
def yX8_lay : MethodName := ⟨RX8, "lay", "(III)I"⟩
abbrev cX8_ask : ByteArray := prog_10_method_80_code
def yX8_ask : MethodName := ⟨RX8, "ask", "(II)I"⟩
abbrev cX8_item : ByteArray := prog_10_method_81_code
def yX8_item : MethodName := ⟨RX8, "item", "(II)I"⟩
abbrev cX8_rest : ByteArray := prog_10_method_82_code
def yX8_rest : MethodName := ⟨RX8, "rest", "(II)I"⟩
abbrev cX8_tell : ByteArray := prog_10_method_83_code
def yX8_tell : MethodName := ⟨RX8, "tell", "(I)I"⟩
abbrev cX8_setAside : ByteArray := prog_10_method_84_code
def yX8_setAside : MethodName := ⟨RX8, "setAside", "([I[I)V"⟩
abbrev cX8_check : ByteArray := prog_10_method_85_code
def yX8_check : MethodName := ⟨RX8, "check", "(I)I"⟩
abbrev cX8_keep : ByteArray := prog_10_method_86_code
def yX8_keep : MethodName := ⟨RX8, "keep", "()I"⟩
abbrev cX8_back : ByteArray := prog_10_method_87_code
def yX8_back : MethodName := ⟨RX8, "back", "()I"⟩
abbrev cX8_count : ByteArray := prog_10_method_88_code
def yX8_count : MethodName := ⟨RX8, "count", "(I)I"⟩
def RJx145de : String := "java/io/Serializable"
def RJx9f9b0 : String := "java/lang/CharSequence"
def RJ11 : String := "java/lang/Character"
abbrev cJ11_isValidCodePoint_9a6ad : ByteArray := prog_11_method_11_code
def yJ11_isValidCodePoint_9a6ad : MethodName := ⟨RJ11, "isValidCodePoint", "(I)Z"⟩
abbrev cJ11_highSurrogate_5068e : ByteArray := prog_11_method_28_code
def yJ11_highSurrogate_5068e : MethodName := ⟨RJ11, "highSurrogate", "(I)C"⟩
abbrev cJ11_lowSurrogate_5068e : ByteArray := prog_11_method_29_code
def yJ11_lowSurrogate_5068e : MethodName := ⟨RJ11, "lowSurrogate", "(I)C"⟩
def RJx8e188 : String := "java/lang/Cloneable"
def RJxb160c : String := "java/lang/Comparable"
def RJ9 : String := "java/lang/Math"
abbrev cJ9_abs_0f7a4 : ByteArray := prog_13_method_59_code
def yJ9_abs_0f7a4 : MethodName := ⟨RJ9, "abs", "(I)I"⟩
abbrev cJ9_max_7cf53 : ByteArray := prog_13_method_65_code
def yJ9_max_7cf53 : MethodName := ⟨RJ9, "max", "(II)I"⟩
abbrev cJ9_min_7cf53 : ByteArray := prog_13_method_69_code
def yJ9_min_7cf53 : MethodName := ⟨RJ9, "min", "(II)I"⟩
def RJ0 : String := "java/lang/String"
abbrev cJ0_length_8abf5 : ByteArray := prog_14_method_54_code
def yJ0_length_8abf5 : MethodName := ⟨RJ0, "length", "()I"⟩
abbrev cJ0_charAt_5068e : ByteArray := prog_14_method_56_code
def yJ0_charAt_5068e : MethodName := ⟨RJ0, "charAt", "(I)C"⟩
abbrev cJ0_indexOf_0f7a4 : ByteArray := prog_14_method_79_code
def yJ0_indexOf_0f7a4 : MethodName := ⟨RJ0, "indexOf", "(I)I"⟩
abbrev cJ0_indexOf_7cf53 : ByteArray := prog_14_method_80_code
def yJ0_indexOf_7cf53 : MethodName := ⟨RJ0, "indexOf", "(II)I"⟩
abbrev cJ0_coder_7d493 : ByteArray := prog_14_method_152_code
def yJ0_coder_7d493 : MethodName := ⟨RJ0, "coder", "()B"⟩
abbrev cJ0_isLatin1_aae02 : ByteArray := prog_14_method_154_code
def yJ0_isLatin1_aae02 : MethodName := ⟨RJ0, "isLatin1", "()Z"⟩
abbrev cJ0_checkIndex_df160 : ByteArray := prog_14_method_155_code
def yJ0_checkIndex_df160 : MethodName := ⟨RJ0, "checkIndex", "(II)V"⟩
abbrev cJ0_checkBoundsBeginEnd_23922 : ByteArray := prog_14_method_158_code
def yJ0_checkBoundsBeginEnd_23922 : MethodName := ⟨RJ0, "checkBoundsBeginEnd", "(III)V"⟩
def RJ1 : String := "java/lang/StringLatin1"
abbrev cJ1_charAt_3b067 : ByteArray := prog_15_method_2_code
def yJ1_charAt_3b067 : MethodName := ⟨RJ1, "charAt", "([BI)C"⟩
abbrev cJ1_canEncode_9a6ad : ByteArray := prog_15_method_4_code
def yJ1_canEncode_9a6ad : MethodName := ⟨RJ1, "canEncode", "(I)Z"⟩
abbrev cJ1_indexOf_4cfef : ByteArray := prog_15_method_22_code
def yJ1_indexOf_4cfef : MethodName := ⟨RJ1, "indexOf", "([BIII)I"⟩
abbrev cJ1_indexOfChar_4cfef : ByteArray := prog_15_method_23_code
def yJ1_indexOfChar_4cfef : MethodName := ⟨RJ1, "indexOfChar", "([BIII)I"⟩
def RJ2 : String := "java/lang/StringUTF16"
abbrev cJ2_getChar_3b067 : ByteArray := prog_16_method_5_code
def yJ2_getChar_3b067 : MethodName := ⟨RJ2, "getChar", "([BI)C"⟩
abbrev cJ2_length_9d52b : ByteArray := prog_16_method_6_code
def yJ2_length_9d52b : MethodName := ⟨RJ2, "length", "([B)I"⟩
abbrev cJ2_indexOf_4cfef : ByteArray := prog_16_method_40_code
def yJ2_indexOf_4cfef : MethodName := ⟨RJ2, "indexOf", "([BIII)I"⟩
abbrev cJ2_indexOfChar_4cfef : ByteArray := prog_16_method_47_code
def yJ2_indexOfChar_4cfef : MethodName := ⟨RJ2, "indexOfChar", "([BIII)I"⟩
abbrev cJ2_indexOfCharUnsafe_4cfef : ByteArray := prog_16_method_48_code
def yJ2_indexOfCharUnsafe_4cfef : MethodName := ⟨RJ2, "indexOfCharUnsafe", "([BIII)I"⟩
abbrev cJ2_indexOfSupplementary_4cfef : ByteArray := prog_16_method_49_code
def yJ2_indexOfSupplementary_4cfef : MethodName := ⟨RJ2, "indexOfSupplementary", "([BIII)I"⟩
abbrev cJ2_charAt_3b067 : ByteArray := prog_16_method_83_code
def yJ2_charAt_3b067 : MethodName := ⟨RJ2, "charAt", "([BI)C"⟩
abbrev cJ2_checkIndex_2214a : ByteArray := prog_16_method_91_code
def yJ2_checkIndex_2214a : MethodName := ⟨RJ2, "checkIndex", "(I[B)V"⟩
abbrev cJ2_checkBoundsBeginEnd_d044e : ByteArray := prog_16_method_93_code
def yJ2_checkBoundsBeginEnd_d044e : MethodName := ⟨RJ2, "checkBoundsBeginEnd", "(II[B)V"⟩
def RJ10 : String := "java/lang/System"
def RJxfd54e : String := "java/lang/constant/Constable"
def RJx3cf43 : String := "java/lang/constant/ConstantDesc"
def RJ7 : String := "java/util/Arrays"
abbrev cJ7_fill_53178 : ByteArray := prog_18_method_103_code
def yJ7_fill_53178 : MethodName := ⟨RJ7, "fill", "([II)V"⟩
abbrev cJ7_copyOf_59c91 : ByteArray := prog_18_method_123_code
def yJ7_copyOf_59c91 : MethodName := ⟨RJ7, "copyOf", "([II)[I"⟩
def RJ3 : String := "jdk/internal/util/Preconditions"
abbrev cJ3_checkIndex_8e157 : ByteArray := prog_19_method_11_code
def yJ3_checkIndex_8e157 : MethodName := ⟨RJ3, "checkIndex", "(IILjava/util/function/BiFunction;)I"⟩
abbrev cJ3_checkFromToIndex_8c36e : ByteArray := prog_19_method_12_code
def yJ3_checkFromToIndex_8c36e : MethodName := ⟨RJ3, "checkFromToIndex", "(IIILjava/util/function/BiFunction;)I"⟩
def RL : String := "ShyWellLaw"
abbrev cL_law : ByteArray := code
def yL_law : MethodName := ⟨RL, "law", "([I)Z"⟩
end
section
theorem dX0_init_0 : decode cX0_init 0 = .ok (.aload_n 0, 1) := by decide +kernel
theorem dX0_init_1 : decode cX0_init 1 = .ok (.invokespecial 3, 3) := by decide +kernel
theorem dX0_init_4 : decode cX0_init 4 = .ok (.return_, 1) := by decide +kernel
theorem dX0_start_0 : decode cX0_start 0 = .ok (.aload_n 0, 1) := by decide +kernel
theorem dX0_start_1 : decode cX0_start 1 = .ok (.iload_n 1, 1) := by decide +kernel
theorem dX0_start_2 : decode cX0_start 2 = .ok (.putfield 9, 3) := by decide +kernel
theorem dX0_start_5 : decode cX0_start 5 = .ok (.aload_n 0, 1) := by decide +kernel
theorem dX0_start_6 : decode cX0_start 6 = .ok (.iload_n 2, 1) := by decide +kernel
theorem dX0_start_7 : decode cX0_start 7 = .ok (.putfield 15, 3) := by decide +kernel
theorem dX0_start_10 : decode cX0_start 10 = .ok (.aload_n 0, 1) := by decide +kernel
theorem dX0_start_11 : decode cX0_start 11 = .ok (.iload_n 3, 1) := by decide +kernel
theorem dX0_start_12 : decode cX0_start 12 = .ok (.putfield 18, 3) := by decide +kernel
theorem dX0_start_15 : decode cX0_start 15 = .ok (.aload_n 0, 1) := by decide +kernel
theorem dX0_start_16 : decode cX0_start 16 = .ok (.iload 4, 2) := by decide +kernel
theorem dX0_start_18 : decode cX0_start 18 = .ok (.putfield 21, 3) := by decide +kernel
theorem dX0_start_21 : decode cX0_start 21 = .ok (.aload_n 0, 1) := by decide +kernel
theorem dX0_start_22 : decode cX0_start 22 = .ok (.iload 4, 2) := by decide +kernel
theorem dX0_start_24 : decode cX0_start 24 = .ok (.putfield 24, 3) := by decide +kernel
theorem dX0_start_27 : decode cX0_start 27 = .ok (.aload_n 0, 1) := by decide +kernel
theorem dX0_start_28 : decode cX0_start 28 = .ok (.iconst 0, 1) := by decide +kernel
theorem dX0_start_29 : decode cX0_start 29 = .ok (.putfield 27, 3) := by decide +kernel
theorem dX0_start_32 : decode cX0_start 32 = .ok (.aload_n 0, 1) := by decide +kernel
theorem dX0_start_33 : decode cX0_start 33 = .ok (.iconst 0, 1) := by decide +kernel
theorem dX0_start_34 : decode cX0_start 34 = .ok (.putfield 30, 3) := by decide +kernel
theorem dX0_start_37 : decode cX0_start 37 = .ok (.aload_n 0, 1) := by decide +kernel
theorem dX0_start_38 : decode cX0_start 38 = .ok (.iconst 0, 1) := by decide +kernel
theorem dX0_start_39 : decode cX0_start 39 = .ok (.putfield 33, 3) := by decide +kernel
theorem dX0_start_42 : decode cX0_start 42 = .ok (.aload_n 0, 1) := by decide +kernel
theorem dX0_start_43 : decode cX0_start 43 = .ok (.iconst 0, 1) := by decide +kernel
theorem dX0_start_44 : decode cX0_start 44 = .ok (.putfield 36, 3) := by decide +kernel
theorem dX0_start_47 : decode cX0_start 47 = .ok (.aload_n 0, 1) := by decide +kernel
theorem dX0_start_48 : decode cX0_start 48 = .ok (.iconst 0, 1) := by decide +kernel
theorem dX0_start_49 : decode cX0_start 49 = .ok (.putfield 39, 3) := by decide +kernel
theorem dX0_start_52 : decode cX0_start 52 = .ok (.aload_n 0, 1) := by decide +kernel
theorem dX0_start_53 : decode cX0_start 53 = .ok (.iconst 0, 1) := by decide +kernel
theorem dX0_start_54 : decode cX0_start 54 = .ok (.putfield 42, 3) := by decide +kernel
theorem dX0_start_57 : decode cX0_start 57 = .ok (.aload_n 0, 1) := by decide +kernel
theorem dX0_start_58 : decode cX0_start 58 = .ok (.iconst 0, 1) := by decide +kernel
theorem dX0_start_59 : decode cX0_start 59 = .ok (.putfield 45, 3) := by decide +kernel
theorem dX0_start_62 : decode cX0_start 62 = .ok (.return_, 1) := by decide +kernel
theorem dX0_become_0 : decode cX0_become 0 = .ok (.aload_n 0, 1) := by decide +kernel
theorem dX0_become_1 : decode cX0_become 1 = .ok (.aload_n 1, 1) := by decide +kernel
theorem dX0_become_2 : decode cX0_become 2 = .ok (.getfield 9, 3) := by decide +kernel
theorem dX0_become_5 : decode cX0_become 5 = .ok (.putfield 9, 3) := by decide +kernel
theorem dX0_become_8 : decode cX0_become 8 = .ok (.aload_n 0, 1) := by decide +kernel
theorem dX0_become_9 : decode cX0_become 9 = .ok (.aload_n 1, 1) := by decide +kernel
theorem dX0_become_10 : decode cX0_become 10 = .ok (.getfield 15, 3) := by decide +kernel
theorem dX0_become_13 : decode cX0_become 13 = .ok (.putfield 15, 3) := by decide +kernel
theorem dX0_become_16 : decode cX0_become 16 = .ok (.aload_n 0, 1) := by decide +kernel
theorem dX0_become_17 : decode cX0_become 17 = .ok (.aload_n 1, 1) := by decide +kernel
theorem dX0_become_18 : decode cX0_become 18 = .ok (.getfield 18, 3) := by decide +kernel
theorem dX0_become_21 : decode cX0_become 21 = .ok (.putfield 18, 3) := by decide +kernel
theorem dX0_become_24 : decode cX0_become 24 = .ok (.aload_n 0, 1) := by decide +kernel
theorem dX0_become_25 : decode cX0_become 25 = .ok (.aload_n 1, 1) := by decide +kernel
theorem dX0_become_26 : decode cX0_become 26 = .ok (.getfield 21, 3) := by decide +kernel
theorem dX0_become_29 : decode cX0_become 29 = .ok (.putfield 21, 3) := by decide +kernel
theorem dX0_become_32 : decode cX0_become 32 = .ok (.aload_n 0, 1) := by decide +kernel
theorem dX0_become_33 : decode cX0_become 33 = .ok (.aload_n 1, 1) := by decide +kernel
theorem dX0_become_34 : decode cX0_become 34 = .ok (.getfield 24, 3) := by decide +kernel
theorem dX0_become_37 : decode cX0_become 37 = .ok (.putfield 24, 3) := by decide +kernel
theorem dX0_become_40 : decode cX0_become 40 = .ok (.aload_n 0, 1) := by decide +kernel
theorem dX0_become_41 : decode cX0_become 41 = .ok (.aload_n 1, 1) := by decide +kernel
theorem dX0_become_42 : decode cX0_become 42 = .ok (.getfield 27, 3) := by decide +kernel
theorem dX0_become_45 : decode cX0_become 45 = .ok (.putfield 27, 3) := by decide +kernel
theorem dX0_become_48 : decode cX0_become 48 = .ok (.aload_n 0, 1) := by decide +kernel
theorem dX0_become_49 : decode cX0_become 49 = .ok (.aload_n 1, 1) := by decide +kernel
theorem dX0_become_50 : decode cX0_become 50 = .ok (.getfield 30, 3) := by decide +kernel
theorem dX0_become_53 : decode cX0_become 53 = .ok (.putfield 30, 3) := by decide +kernel
theorem dX0_become_56 : decode cX0_become 56 = .ok (.aload_n 0, 1) := by decide +kernel
theorem dX0_become_57 : decode cX0_become 57 = .ok (.aload_n 1, 1) := by decide +kernel
theorem dX0_become_58 : decode cX0_become 58 = .ok (.getfield 33, 3) := by decide +kernel
theorem dX0_become_61 : decode cX0_become 61 = .ok (.putfield 33, 3) := by decide +kernel
theorem dX0_become_64 : decode cX0_become 64 = .ok (.aload_n 0, 1) := by decide +kernel
theorem dX0_become_65 : decode cX0_become 65 = .ok (.aload_n 1, 1) := by decide +kernel
theorem dX0_become_66 : decode cX0_become 66 = .ok (.getfield 36, 3) := by decide +kernel
theorem dX0_become_69 : decode cX0_become 69 = .ok (.putfield 36, 3) := by decide +kernel
theorem dX0_become_72 : decode cX0_become 72 = .ok (.aload_n 0, 1) := by decide +kernel
theorem dX0_become_73 : decode cX0_become 73 = .ok (.aload_n 1, 1) := by decide +kernel
theorem dX0_become_74 : decode cX0_become 74 = .ok (.getfield 39, 3) := by decide +kernel
theorem dX0_become_77 : decode cX0_become 77 = .ok (.putfield 39, 3) := by decide +kernel
theorem dX0_become_80 : decode cX0_become 80 = .ok (.aload_n 0, 1) := by decide +kernel
theorem dX0_become_81 : decode cX0_become 81 = .ok (.aload_n 1, 1) := by decide +kernel
theorem dX0_become_82 : decode cX0_become 82 = .ok (.getfield 42, 3) := by decide +kernel
theorem dX0_become_85 : decode cX0_become 85 = .ok (.putfield 42, 3) := by decide +kernel
theorem dX0_become_88 : decode cX0_become 88 = .ok (.aload_n 0, 1) := by decide +kernel
theorem dX0_become_89 : decode cX0_become 89 = .ok (.aload_n 1, 1) := by decide +kernel
theorem dX0_become_90 : decode cX0_become 90 = .ok (.getfield 45, 3) := by decide +kernel
theorem dX0_become_93 : decode cX0_become 93 = .ok (.putfield 45, 3) := by decide +kernel
theorem dX0_become_96 : decode cX0_become 96 = .ok (.return_, 1) := by decide +kernel
theorem dX0_habit_0 : decode cX0_habit 0 = .ok (.iload_n 1, 1) := by decide +kernel
theorem dX0_habit_1 : decode cX0_habit 1 = .ok (.tableswitch 42 1 3 #[27, 32, 37], 27) := by decide +kernel
theorem dX0_habit_28 : decode cX0_habit 28 = .ok (.aload_n 0, 1) := by decide +kernel
theorem dX0_habit_29 : decode cX0_habit 29 = .ok (.getfield 15, 3) := by decide +kernel
theorem dX0_habit_32 : decode cX0_habit 32 = .ok (.ireturn, 1) := by decide +kernel
theorem dX0_habit_33 : decode cX0_habit 33 = .ok (.aload_n 0, 1) := by decide +kernel
theorem dX0_habit_34 : decode cX0_habit 34 = .ok (.getfield 18, 3) := by decide +kernel
theorem dX0_habit_37 : decode cX0_habit 37 = .ok (.ireturn, 1) := by decide +kernel
theorem dX0_habit_38 : decode cX0_habit 38 = .ok (.aload_n 0, 1) := by decide +kernel
theorem dX0_habit_39 : decode cX0_habit 39 = .ok (.getfield 21, 3) := by decide +kernel
theorem dX0_habit_42 : decode cX0_habit 42 = .ok (.ireturn, 1) := by decide +kernel
theorem dX0_habit_43 : decode cX0_habit 43 = .ok (.aload_n 0, 1) := by decide +kernel
theorem dX0_habit_44 : decode cX0_habit 44 = .ok (.getfield 24, 3) := by decide +kernel
theorem dX0_habit_47 : decode cX0_habit 47 = .ok (.ireturn, 1) := by decide +kernel
theorem dX0_changeHabit_0 : decode cX0_changeHabit 0 = .ok (.iload_n 1, 1) := by decide +kernel
theorem dX0_changeHabit_1 : decode cX0_changeHabit 1 = .ok (.tableswitch 51 1 3 #[27, 35, 43], 27) := by decide +kernel
theorem dX0_changeHabit_28 : decode cX0_changeHabit 28 = .ok (.aload_n 0, 1) := by decide +kernel
theorem dX0_changeHabit_29 : decode cX0_changeHabit 29 = .ok (.iload_n 2, 1) := by decide +kernel
theorem dX0_changeHabit_30 : decode cX0_changeHabit 30 = .ok (.putfield 15, 3) := by decide +kernel
theorem dX0_changeHabit_33 : decode cX0_changeHabit 33 = .ok (.goto 24, 3) := by decide +kernel
theorem dX0_changeHabit_36 : decode cX0_changeHabit 36 = .ok (.aload_n 0, 1) := by decide +kernel
theorem dX0_changeHabit_37 : decode cX0_changeHabit 37 = .ok (.iload_n 2, 1) := by decide +kernel
theorem dX0_changeHabit_38 : decode cX0_changeHabit 38 = .ok (.putfield 18, 3) := by decide +kernel
theorem dX0_changeHabit_41 : decode cX0_changeHabit 41 = .ok (.goto 16, 3) := by decide +kernel
theorem dX0_changeHabit_44 : decode cX0_changeHabit 44 = .ok (.aload_n 0, 1) := by decide +kernel
theorem dX0_changeHabit_45 : decode cX0_changeHabit 45 = .ok (.iload_n 2, 1) := by decide +kernel
theorem dX0_changeHabit_46 : decode cX0_changeHabit 46 = .ok (.putfield 21, 3) := by decide +kernel
theorem dX0_changeHabit_49 : decode cX0_changeHabit 49 = .ok (.goto 8, 3) := by decide +kernel
theorem dX0_changeHabit_52 : decode cX0_changeHabit 52 = .ok (.aload_n 0, 1) := by decide +kernel
theorem dX0_changeHabit_53 : decode cX0_changeHabit 53 = .ok (.iload_n 2, 1) := by decide +kernel
theorem dX0_changeHabit_54 : decode cX0_changeHabit 54 = .ok (.putfield 24, 3) := by decide +kernel
theorem dX0_changeHabit_57 : decode cX0_changeHabit 57 = .ok (.return_, 1) := by decide +kernel
theorem dX0_worth_0 : decode cX0_worth 0 = .ok (.aload_n 0, 1) := by decide +kernel
theorem dX0_worth_1 : decode cX0_worth 1 = .ok (.getfield 9, 3) := by decide +kernel
theorem dX0_worth_4 : decode cX0_worth 4 = .ok (.tableswitch 73 1 5 #[36, 52, 43, 60, 70], 36) := by decide +kernel
theorem dX0_worth_40 : decode cX0_worth 40 = .ok (.aload_n 0, 1) := by decide +kernel
theorem dX0_worth_41 : decode cX0_worth 41 = .ok (.getfield 15, 3) := by decide +kernel
theorem dX0_worth_44 : decode cX0_worth 44 = .ok (.iconst 3, 1) := by decide +kernel
theorem dX0_worth_45 : decode cX0_worth 45 = .ok (.iadd, 1) := by decide +kernel
theorem dX0_worth_46 : decode cX0_worth 46 = .ok (.ireturn, 1) := by decide +kernel
theorem dX0_worth_47 : decode cX0_worth 47 = .ok (.iconst 2, 1) := by decide +kernel
theorem dX0_worth_48 : decode cX0_worth 48 = .ok (.aload_n 0, 1) := by decide +kernel
theorem dX0_worth_49 : decode cX0_worth 49 = .ok (.getfield 15, 3) := by decide +kernel
theorem dX0_worth_52 : decode cX0_worth 52 = .ok (.iconst 3, 1) := by decide +kernel
theorem dX0_worth_53 : decode cX0_worth 53 = .ok (.iadd, 1) := by decide +kernel
theorem dX0_worth_54 : decode cX0_worth 54 = .ok (.imul, 1) := by decide +kernel
theorem dX0_worth_55 : decode cX0_worth 55 = .ok (.ireturn, 1) := by decide +kernel
theorem dX0_worth_56 : decode cX0_worth 56 = .ok (.bipush 60, 2) := by decide +kernel
theorem dX0_worth_58 : decode cX0_worth 58 = .ok (.aload_n 0, 1) := by decide +kernel
theorem dX0_worth_59 : decode cX0_worth 59 = .ok (.getfield 15, 3) := by decide +kernel
theorem dX0_worth_62 : decode cX0_worth 62 = .ok (.isub, 1) := by decide +kernel
theorem dX0_worth_63 : decode cX0_worth 63 = .ok (.ireturn, 1) := by decide +kernel
theorem dX0_worth_64 : decode cX0_worth 64 = .ok (.bipush 60, 2) := by decide +kernel
theorem dX0_worth_66 : decode cX0_worth 66 = .ok (.aload_n 0, 1) := by decide +kernel
theorem dX0_worth_67 : decode cX0_worth 67 = .ok (.getfield 15, 3) := by decide +kernel
theorem dX0_worth_70 : decode cX0_worth 70 = .ok (.isub, 1) := by decide +kernel
theorem dX0_worth_71 : decode cX0_worth 71 = .ok (.iconst 5, 1) := by decide +kernel
theorem dX0_worth_72 : decode cX0_worth 72 = .ok (.isub, 1) := by decide +kernel
theorem dX0_worth_73 : decode cX0_worth 73 = .ok (.ireturn, 1) := by decide +kernel
theorem dX0_worth_74 : decode cX0_worth 74 = .ok (.bipush 30, 2) := by decide +kernel
theorem dX0_worth_76 : decode cX0_worth 76 = .ok (.ireturn, 1) := by decide +kernel
theorem dX0_worth_77 : decode cX0_worth 77 = .ok (.aload_n 0, 1) := by decide +kernel
theorem dX0_worth_78 : decode cX0_worth 78 = .ok (.getfield 15, 3) := by decide +kernel
theorem dX0_worth_81 : decode cX0_worth 81 = .ok (.ireturn, 1) := by decide +kernel
theorem dX0_faredWorse_0 : decode cX0_faredWorse 0 = .ok (.aload_n 0, 1) := by decide +kernel
theorem dX0_faredWorse_1 : decode cX0_faredWorse 1 = .ok (.getfield 42, 3) := by decide +kernel
theorem dX0_faredWorse_4 : decode cX0_faredWorse 4 = .ok (.aload_n 1, 1) := by decide +kernel
theorem dX0_faredWorse_5 : decode cX0_faredWorse 5 = .ok (.getfield 42, 3) := by decide +kernel
theorem dX0_faredWorse_8 : decode cX0_faredWorse 8 = .ok (.if_icmp .eq 22, 3) := by decide +kernel
theorem dX0_faredWorse_11 : decode cX0_faredWorse 11 = .ok (.aload_n 0, 1) := by decide +kernel
theorem dX0_faredWorse_12 : decode cX0_faredWorse 12 = .ok (.getfield 42, 3) := by decide +kernel
theorem dX0_faredWorse_15 : decode cX0_faredWorse 15 = .ok (.aload_n 1, 1) := by decide +kernel
theorem dX0_faredWorse_16 : decode cX0_faredWorse 16 = .ok (.getfield 42, 3) := by decide +kernel
theorem dX0_faredWorse_19 : decode cX0_faredWorse 19 = .ok (.if_icmp .le 7, 3) := by decide +kernel
theorem dX0_faredWorse_22 : decode cX0_faredWorse 22 = .ok (.iconst 1, 1) := by decide +kernel
theorem dX0_faredWorse_23 : decode cX0_faredWorse 23 = .ok (.goto 23, 3) := by decide +kernel
theorem dX0_faredWorse_26 : decode cX0_faredWorse 26 = .ok (.iconst 0, 1) := by decide +kernel
theorem dX0_faredWorse_27 : decode cX0_faredWorse 27 = .ok (.goto 19, 3) := by decide +kernel
theorem dX0_faredWorse_30 : decode cX0_faredWorse 30 = .ok (.aload_n 0, 1) := by decide +kernel
theorem dX0_faredWorse_31 : decode cX0_faredWorse 31 = .ok (.getfield 39, 3) := by decide +kernel
theorem dX0_faredWorse_34 : decode cX0_faredWorse 34 = .ok (.aload_n 1, 1) := by decide +kernel
theorem dX0_faredWorse_35 : decode cX0_faredWorse 35 = .ok (.getfield 39, 3) := by decide +kernel
theorem dX0_faredWorse_38 : decode cX0_faredWorse 38 = .ok (.if_icmp .ge 7, 3) := by decide +kernel
theorem dX0_faredWorse_41 : decode cX0_faredWorse 41 = .ok (.iconst 1, 1) := by decide +kernel
theorem dX0_faredWorse_42 : decode cX0_faredWorse 42 = .ok (.goto 4, 3) := by decide +kernel
theorem dX0_faredWorse_45 : decode cX0_faredWorse 45 = .ok (.iconst 0, 1) := by decide +kernel
theorem dX0_faredWorse_46 : decode cX0_faredWorse 46 = .ok (.ireturn, 1) := by decide +kernel
theorem dX0_turnBack_0 : decode cX0_turnBack 0 = .ok (.aload_n 0, 1) := by decide +kernel
theorem dX0_turnBack_1 : decode cX0_turnBack 1 = .ok (.iconst 3, 1) := by decide +kernel
theorem dX0_turnBack_2 : decode cX0_turnBack 2 = .ok (.putfield 27, 3) := by decide +kernel
theorem dX0_turnBack_5 : decode cX0_turnBack 5 = .ok (.aload_n 0, 1) := by decide +kernel
theorem dX0_turnBack_6 : decode cX0_turnBack 6 = .ok (.aload_n 0, 1) := by decide +kernel
theorem dX0_turnBack_7 : decode cX0_turnBack 7 = .ok (.getfield 18, 3) := by decide +kernel
theorem dX0_turnBack_10 : decode cX0_turnBack 10 = .ok (.putfield 30, 3) := by decide +kernel
theorem dX0_turnBack_13 : decode cX0_turnBack 13 = .ok (.return_, 1) := by decide +kernel
theorem dX1_init_0 : decode cX1_init 0 = .ok (.aload_n 0, 1) := by decide +kernel
theorem dX1_init_1 : decode cX1_init 1 = .ok (.invokespecial 3, 3) := by decide +kernel
theorem dX1_init_4 : decode cX1_init 4 = .ok (.aload_n 0, 1) := by decide +kernel
theorem dX1_init_5 : decode cX1_init 5 = .ok (.new 9, 3) := by decide +kernel
theorem dX1_init_8 : decode cX1_init 8 = .ok (.dup, 1) := by decide +kernel
theorem dX1_init_9 : decode cX1_init 9 = .ok (.bipush 96, 2) := by decide +kernel
theorem dX1_init_11 : decode cX1_init 11 = .ok (.invokespecial 11, 3) := by decide +kernel
theorem dX1_init_14 : decode cX1_init 14 = .ok (.putfield 14, 3) := by decide +kernel
theorem dX1_init_17 : decode cX1_init 17 = .ok (.aload_n 0, 1) := by decide +kernel
theorem dX1_init_18 : decode cX1_init 18 = .ok (.new 9, 3) := by decide +kernel
theorem dX1_init_21 : decode cX1_init 21 = .ok (.dup, 1) := by decide +kernel
theorem dX1_init_22 : decode cX1_init 22 = .ok (.bipush 96, 2) := by decide +kernel
theorem dX1_init_24 : decode cX1_init 24 = .ok (.invokespecial 11, 3) := by decide +kernel
theorem dX1_init_27 : decode cX1_init 27 = .ok (.putfield 20, 3) := by decide +kernel
theorem dX1_init_30 : decode cX1_init 30 = .ok (.return_, 1) := by decide +kernel
theorem dX1_reads_0 : decode cX1_reads 0 = .ok (.aload_n 0, 1) := by decide +kernel
theorem dX1_reads_1 : decode cX1_reads 1 = .ok (.getfield 20, 3) := by decide +kernel
theorem dX1_reads_4 : decode cX1_reads 4 = .ok (.iconst 0, 1) := by decide +kernel
theorem dX1_reads_5 : decode cX1_reads 5 = .ok (.putfield 23, 3) := by decide +kernel
theorem dX1_reads_8 : decode cX1_reads 8 = .ok (.aload_n 0, 1) := by decide +kernel
theorem dX1_reads_9 : decode cX1_reads 9 = .ok (.iconst 0, 1) := by decide +kernel
theorem dX1_reads_10 : decode cX1_reads 10 = .ok (.putfield 27, 3) := by decide +kernel
theorem dX1_reads_13 : decode cX1_reads 13 = .ok (.aload_n 0, 1) := by decide +kernel
theorem dX1_reads_14 : decode cX1_reads 14 = .ok (.iconst 0, 1) := by decide +kernel
theorem dX1_reads_15 : decode cX1_reads 15 = .ok (.putfield 30, 3) := by decide +kernel
theorem dX1_reads_18 : decode cX1_reads 18 = .ok (.aload_n 0, 1) := by decide +kernel
theorem dX1_reads_19 : decode cX1_reads 19 = .ok (.iconst 0, 1) := by decide +kernel
theorem dX1_reads_20 : decode cX1_reads 20 = .ok (.putfield 33, 3) := by decide +kernel
theorem dX1_reads_23 : decode cX1_reads 23 = .ok (.aload_n 0, 1) := by decide +kernel
theorem dX1_reads_24 : decode cX1_reads 24 = .ok (.invokevirtual 36, 3) := by decide +kernel
theorem dX1_reads_27 : decode cX1_reads 27 = .ok (.aload_n 0, 1) := by decide +kernel
theorem dX1_reads_28 : decode cX1_reads 28 = .ok (.aload_n 0, 1) := by decide +kernel
theorem dX1_reads_29 : decode cX1_reads 29 = .ok (.invokevirtual 39, 3) := by decide +kernel
theorem dX1_reads_32 : decode cX1_reads 32 = .ok (.putfield 43, 3) := by decide +kernel
theorem dX1_reads_35 : decode cX1_reads 35 = .ok (.aload_n 0, 1) := by decide +kernel
theorem dX1_reads_36 : decode cX1_reads 36 = .ok (.getfield 43, 3) := by decide +kernel
theorem dX1_reads_39 : decode cX1_reads 39 = .ok (.ifCond .ge 5, 3) := by decide +kernel
theorem dX1_reads_42 : decode cX1_reads 42 = .ok (.iconst 0, 1) := by decide +kernel
theorem dX1_reads_43 : decode cX1_reads 43 = .ok (.ireturn, 1) := by decide +kernel
theorem dX1_reads_44 : decode cX1_reads 44 = .ok (.aload_n 0, 1) := by decide +kernel
theorem dX1_reads_45 : decode cX1_reads 45 = .ok (.invokevirtual 36, 3) := by decide +kernel
theorem dX1_reads_48 : decode cX1_reads 48 = .ok (.aload_n 0, 1) := by decide +kernel
theorem dX1_reads_49 : decode cX1_reads 49 = .ok (.iconst 0, 1) := by decide +kernel
theorem dX1_reads_50 : decode cX1_reads 50 = .ok (.iconst 0, 1) := by decide +kernel
theorem dX1_reads_51 : decode cX1_reads 51 = .ok (.iconst 0, 1) := by decide +kernel
theorem dX1_reads_52 : decode cX1_reads 52 = .ok (.invokevirtual 46, 3) := by decide +kernel
theorem dX1_reads_55 : decode cX1_reads 55 = .ok (.ifCond .eq 14, 3) := by decide +kernel
theorem dX1_reads_58 : decode cX1_reads 58 = .ok (.aload_n 0, 1) := by decide +kernel
theorem dX1_reads_59 : decode cX1_reads 59 = .ok (.getfield 33, 3) := by decide +kernel
theorem dX1_reads_62 : decode cX1_reads 62 = .ok (.ifCond .ne 7, 3) := by decide +kernel
theorem dX1_reads_65 : decode cX1_reads 65 = .ok (.iconst 1, 1) := by decide +kernel
theorem dX1_reads_66 : decode cX1_reads 66 = .ok (.goto 4, 3) := by decide +kernel
theorem dX1_reads_69 : decode cX1_reads 69 = .ok (.iconst 0, 1) := by decide +kernel
theorem dX1_reads_70 : decode cX1_reads 70 = .ok (.ireturn, 1) := by decide +kernel
theorem dX1_written_0 : decode cX1_written 0 = .ok (.new 50, 3) := by decide +kernel
theorem dX1_written_3 : decode cX1_written 3 = .ok (.dup, 1) := by decide +kernel
theorem dX1_written_4 : decode cX1_written 4 = .ok (.aload_n 0, 1) := by decide +kernel
theorem dX1_written_5 : decode cX1_written 5 = .ok (.getfield 43, 3) := by decide +kernel
theorem dX1_written_8 : decode cX1_written 8 = .ok (.aload_n 0, 1) := by decide +kernel
theorem dX1_written_9 : decode cX1_written 9 = .ok (.getfield 27, 3) := by decide +kernel
theorem dX1_written_12 : decode cX1_written 12 = .ok (.aload_n 0, 1) := by decide +kernel
theorem dX1_written_13 : decode cX1_written 13 = .ok (.getfield 20, 3) := by decide +kernel
theorem dX1_written_16 : decode cX1_written 16 = .ok (.getfield 52, 3) := by decide +kernel
theorem dX1_written_19 : decode cX1_written 19 = .ok (.aload_n 0, 1) := by decide +kernel
theorem dX1_written_20 : decode cX1_written 20 = .ok (.getfield 20, 3) := by decide +kernel
theorem dX1_written_23 : decode cX1_written 23 = .ok (.getfield 23, 3) := by decide +kernel
theorem dX1_written_26 : decode cX1_written 26 = .ok (.invokestatic 56, 3) := by decide +kernel
theorem dX1_written_29 : decode cX1_written 29 = .ok (.invokespecial 62, 3) := by decide +kernel
theorem dX1_written_32 : decode cX1_written 32 = .ok (.areturn, 1) := by decide +kernel
theorem dX1_next_0 : decode cX1_next 0 = .ok (.aload_n 0, 1) := by decide +kernel
theorem dX1_next_1 : decode cX1_next 1 = .ok (.getfield 33, 3) := by decide +kernel
theorem dX1_next_4 : decode cX1_next 4 = .ok (.iconst 1, 1) := by decide +kernel
theorem dX1_next_5 : decode cX1_next 5 = .ok (.if_icmp .eq 11, 3) := by decide +kernel
theorem dX1_next_8 : decode cX1_next 8 = .ok (.aload_n 0, 1) := by decide +kernel
theorem dX1_next_9 : decode cX1_next 9 = .ok (.getfield 33, 3) := by decide +kernel
theorem dX1_next_12 : decode cX1_next 12 = .ok (.iconst 2, 1) := by decide +kernel
theorem dX1_next_13 : decode cX1_next 13 = .ok (.if_icmp .ne 7, 3) := by decide +kernel
theorem dX1_next_16 : decode cX1_next 16 = .ok (.iconst 1, 1) := by decide +kernel
theorem dX1_next_17 : decode cX1_next 17 = .ok (.goto 4, 3) := by decide +kernel
theorem dX1_next_20 : decode cX1_next 20 = .ok (.iconst 0, 1) := by decide +kernel
theorem dX1_next_21 : decode cX1_next 21 = .ok (.istore_n 1, 1) := by decide +kernel
theorem dX1_next_22 : decode cX1_next 22 = .ok (.aload_n 0, 1) := by decide +kernel
theorem dX1_next_23 : decode cX1_next 23 = .ok (.getfield 30, 3) := by decide +kernel
theorem dX1_next_26 : decode cX1_next 26 = .ok (.istore_n 2, 1) := by decide +kernel
theorem dX1_next_27 : decode cX1_next 27 = .ok (.aload_n 0, 1) := by decide +kernel
theorem dX1_next_28 : decode cX1_next 28 = .ok (.iload_n 2, 1) := by decide +kernel
theorem dX1_next_29 : decode cX1_next 29 = .ok (.putfield 65, 3) := by decide +kernel
theorem dX1_next_32 : decode cX1_next 32 = .ok (.aload_n 0, 1) := by decide +kernel
theorem dX1_next_33 : decode cX1_next 33 = .ok (.getfield 65, 3) := by decide +kernel
theorem dX1_next_36 : decode cX1_next 36 = .ok (.aload_n 0, 1) := by decide +kernel
theorem dX1_next_37 : decode cX1_next 37 = .ok (.getfield 14, 3) := by decide +kernel
theorem dX1_next_40 : decode cX1_next 40 = .ok (.getfield 23, 3) := by decide +kernel
theorem dX1_next_43 : decode cX1_next 43 = .ok (.if_icmp .ge 32, 3) := by decide +kernel
theorem dX1_next_46 : decode cX1_next 46 = .ok (.aload_n 0, 1) := by decide +kernel
theorem dX1_next_47 : decode cX1_next 47 = .ok (.getfield 14, 3) := by decide +kernel
theorem dX1_next_50 : decode cX1_next 50 = .ok (.aload_n 0, 1) := by decide +kernel
theorem dX1_next_51 : decode cX1_next 51 = .ok (.getfield 65, 3) := by decide +kernel
theorem dX1_next_54 : decode cX1_next 54 = .ok (.invokevirtual 68, 3) := by decide +kernel
theorem dX1_next_57 : decode cX1_next 57 = .ok (.bipush 32, 2) := by decide +kernel
theorem dX1_next_59 : decode cX1_next 59 = .ok (.if_icmp .ne 16, 3) := by decide +kernel
theorem dX1_next_62 : decode cX1_next 62 = .ok (.aload_n 0, 1) := by decide +kernel
theorem dX1_next_63 : decode cX1_next 63 = .ok (.dup, 1) := by decide +kernel
theorem dX1_next_64 : decode cX1_next 64 = .ok (.getfield 65, 3) := by decide +kernel
theorem dX1_next_67 : decode cX1_next 67 = .ok (.iconst 1, 1) := by decide +kernel
theorem dX1_next_68 : decode cX1_next 68 = .ok (.iadd, 1) := by decide +kernel
theorem dX1_next_69 : decode cX1_next 69 = .ok (.putfield 65, 3) := by decide +kernel
theorem dX1_next_72 : decode cX1_next 72 = .ok (.goto (-40), 3) := by decide +kernel
theorem dX1_next_75 : decode cX1_next 75 = .ok (.aload_n 0, 1) := by decide +kernel
theorem dX1_next_76 : decode cX1_next 76 = .ok (.aload_n 0, 1) := by decide +kernel
theorem dX1_next_77 : decode cX1_next 77 = .ok (.getfield 14, 3) := by decide +kernel
theorem dX1_next_80 : decode cX1_next 80 = .ok (.aload_n 0, 1) := by decide +kernel
theorem dX1_next_81 : decode cX1_next 81 = .ok (.getfield 65, 3) := by decide +kernel
theorem dX1_next_84 : decode cX1_next 84 = .ok (.invokevirtual 68, 3) := by decide +kernel
theorem dX1_next_87 : decode cX1_next 87 = .ok (.invokestatic 72, 3) := by decide +kernel
theorem dX1_next_90 : decode cX1_next 90 = .ok (.putfield 33, 3) := by decide +kernel
theorem dX1_next_93 : decode cX1_next 93 = .ok (.aload_n 0, 1) := by decide +kernel
theorem dX1_next_94 : decode cX1_next 94 = .ok (.aload_n 0, 1) := by decide +kernel
theorem dX1_next_95 : decode cX1_next 95 = .ok (.getfield 65, 3) := by decide +kernel
theorem dX1_next_98 : decode cX1_next 98 = .ok (.putfield 30, 3) := by decide +kernel
theorem dX1_next_101 : decode cX1_next 101 = .ok (.aload_n 0, 1) := by decide +kernel
theorem dX1_next_102 : decode cX1_next 102 = .ok (.getfield 33, 3) := by decide +kernel
theorem dX1_next_105 : decode cX1_next 105 = .ok (.ifCond .ne 4, 3) := by decide +kernel
theorem dX1_next_108 : decode cX1_next 108 = .ok (.return_, 1) := by decide +kernel
theorem dX1_next_109 : decode cX1_next 109 = .ok (.aload_n 0, 1) := by decide +kernel
theorem dX1_next_110 : decode cX1_next 110 = .ok (.dup, 1) := by decide +kernel
theorem dX1_next_111 : decode cX1_next 111 = .ok (.getfield 30, 3) := by decide +kernel
theorem dX1_next_114 : decode cX1_next 114 = .ok (.iconst 1, 1) := by decide +kernel
theorem dX1_next_115 : decode cX1_next 115 = .ok (.iadd, 1) := by decide +kernel
theorem dX1_next_116 : decode cX1_next 116 = .ok (.putfield 30, 3) := by decide +kernel
theorem dX1_next_119 : decode cX1_next 119 = .ok (.aload_n 0, 1) := by decide +kernel
theorem dX1_next_120 : decode cX1_next 120 = .ok (.getfield 33, 3) := by decide +kernel
theorem dX1_next_123 : decode cX1_next 123 = .ok (.iconst 3, 1) := by decide +kernel
theorem dX1_next_124 : decode cX1_next 124 = .ok (.if_icmp .ne 4, 3) := by decide +kernel
theorem dX1_next_127 : decode cX1_next 127 = .ok (.return_, 1) := by decide +kernel
theorem dX1_next_128 : decode cX1_next 128 = .ok (.aload_n 0, 1) := by decide +kernel
theorem dX1_next_129 : decode cX1_next 129 = .ok (.getfield 30, 3) := by decide +kernel
theorem dX1_next_132 : decode cX1_next 132 = .ok (.aload_n 0, 1) := by decide +kernel
theorem dX1_next_133 : decode cX1_next 133 = .ok (.getfield 14, 3) := by decide +kernel
theorem dX1_next_136 : decode cX1_next 136 = .ok (.getfield 23, 3) := by decide +kernel
theorem dX1_next_139 : decode cX1_next 139 = .ok (.if_icmp .ge 37, 3) := by decide +kernel
theorem dX1_next_142 : decode cX1_next 142 = .ok (.aload_n 0, 1) := by decide +kernel
theorem dX1_next_143 : decode cX1_next 143 = .ok (.getfield 14, 3) := by decide +kernel
theorem dX1_next_146 : decode cX1_next 146 = .ok (.aload_n 0, 1) := by decide +kernel
theorem dX1_next_147 : decode cX1_next 147 = .ok (.getfield 30, 3) := by decide +kernel
theorem dX1_next_150 : decode cX1_next 150 = .ok (.invokevirtual 68, 3) := by decide +kernel
theorem dX1_next_153 : decode cX1_next 153 = .ok (.invokestatic 72, 3) := by decide +kernel
theorem dX1_next_156 : decode cX1_next 156 = .ok (.aload_n 0, 1) := by decide +kernel
theorem dX1_next_157 : decode cX1_next 157 = .ok (.getfield 33, 3) := by decide +kernel
theorem dX1_next_160 : decode cX1_next 160 = .ok (.if_icmp .ne 16, 3) := by decide +kernel
theorem dX1_next_163 : decode cX1_next 163 = .ok (.aload_n 0, 1) := by decide +kernel
theorem dX1_next_164 : decode cX1_next 164 = .ok (.dup, 1) := by decide +kernel
theorem dX1_next_165 : decode cX1_next 165 = .ok (.getfield 30, 3) := by decide +kernel
theorem dX1_next_168 : decode cX1_next 168 = .ok (.iconst 1, 1) := by decide +kernel
theorem dX1_next_169 : decode cX1_next 169 = .ok (.iadd, 1) := by decide +kernel
theorem dX1_next_170 : decode cX1_next 170 = .ok (.putfield 30, 3) := by decide +kernel
theorem dX1_next_173 : decode cX1_next 173 = .ok (.goto (-45), 3) := by decide +kernel
theorem dX1_next_176 : decode cX1_next 176 = .ok (.iload_n 1, 1) := by decide +kernel
theorem dX1_next_177 : decode cX1_next 177 = .ok (.ifCond .eq 15, 3) := by decide +kernel
theorem dX1_next_180 : decode cX1_next 180 = .ok (.aload_n 0, 1) := by decide +kernel
theorem dX1_next_181 : decode cX1_next 181 = .ok (.getfield 65, 3) := by decide +kernel
theorem dX1_next_184 : decode cX1_next 184 = .ok (.iload_n 2, 1) := by decide +kernel
theorem dX1_next_185 : decode cX1_next 185 = .ok (.if_icmp .ne 7, 3) := by decide +kernel
theorem dX1_next_188 : decode cX1_next 188 = .ok (.iconst 1, 1) := by decide +kernel
theorem dX1_next_189 : decode cX1_next 189 = .ok (.goto 4, 3) := by decide +kernel
theorem dX1_next_192 : decode cX1_next 192 = .ok (.iconst 0, 1) := by decide +kernel
theorem dX1_next_193 : decode cX1_next 193 = .ok (.istore_n 3, 1) := by decide +kernel
theorem dX1_next_194 : decode cX1_next 194 = .ok (.iload_n 3, 1) := by decide +kernel
theorem dX1_next_195 : decode cX1_next 195 = .ok (.ifCond .ne 24, 3) := by decide +kernel
theorem dX1_next_198 : decode cX1_next 198 = .ok (.aload_n 0, 1) := by decide +kernel
theorem dX1_next_199 : decode cX1_next 199 = .ok (.getfield 33, 3) := by decide +kernel
theorem dX1_next_202 : decode cX1_next 202 = .ok (.iconst 2, 1) := by decide +kernel
theorem dX1_next_203 : decode cX1_next 203 = .ok (.if_icmp .ne 21, 3) := by decide +kernel
theorem dX1_next_206 : decode cX1_next 206 = .ok (.aload_n 0, 1) := by decide +kernel
theorem dX1_next_207 : decode cX1_next 207 = .ok (.getfield 30, 3) := by decide +kernel
theorem dX1_next_210 : decode cX1_next 210 = .ok (.aload_n 0, 1) := by decide +kernel
theorem dX1_next_211 : decode cX1_next 211 = .ok (.getfield 65, 3) := by decide +kernel
theorem dX1_next_214 : decode cX1_next 214 = .ok (.isub, 1) := by decide +kernel
theorem dX1_next_215 : decode cX1_next 215 = .ok (.iconst 4, 1) := by decide +kernel
theorem dX1_next_216 : decode cX1_next 216 = .ok (.if_icmp .le 8, 3) := by decide +kernel
theorem dX1_next_219 : decode cX1_next 219 = .ok (.aload_n 0, 1) := by decide +kernel
theorem dX1_next_220 : decode cX1_next 220 = .ok (.iconst 4, 1) := by decide +kernel
theorem dX1_next_221 : decode cX1_next 221 = .ok (.putfield 33, 3) := by decide +kernel
theorem dX1_next_224 : decode cX1_next 224 = .ok (.return_, 1) := by decide +kernel
theorem dX1_sortOf_0 : decode cX1_sortOf 0 = .ok (.iload_n 0, 1) := by decide +kernel
theorem dX1_sortOf_1 : decode cX1_sortOf 1 = .ok (.ifCond .ge 5, 3) := by decide +kernel
theorem dX1_sortOf_4 : decode cX1_sortOf 4 = .ok (.iconst 0, 1) := by decide +kernel
theorem dX1_sortOf_5 : decode cX1_sortOf 5 = .ok (.ireturn, 1) := by decide +kernel
theorem dX1_sortOf_6 : decode cX1_sortOf 6 = .ok (.iload_n 0, 1) := by decide +kernel
theorem dX1_sortOf_7 : decode cX1_sortOf 7 = .ok (.bipush 97, 2) := by decide +kernel
theorem dX1_sortOf_9 : decode cX1_sortOf 9 = .ok (.if_icmp .lt 11, 3) := by decide +kernel
theorem dX1_sortOf_12 : decode cX1_sortOf 12 = .ok (.iload_n 0, 1) := by decide +kernel
theorem dX1_sortOf_13 : decode cX1_sortOf 13 = .ok (.bipush 122, 2) := by decide +kernel
theorem dX1_sortOf_15 : decode cX1_sortOf 15 = .ok (.if_icmp .gt 5, 3) := by decide +kernel
theorem dX1_sortOf_18 : decode cX1_sortOf 18 = .ok (.iconst 1, 1) := by decide +kernel
theorem dX1_sortOf_19 : decode cX1_sortOf 19 = .ok (.ireturn, 1) := by decide +kernel
theorem dX1_sortOf_20 : decode cX1_sortOf 20 = .ok (.iload_n 0, 1) := by decide +kernel
theorem dX1_sortOf_21 : decode cX1_sortOf 21 = .ok (.bipush 48, 2) := by decide +kernel
theorem dX1_sortOf_23 : decode cX1_sortOf 23 = .ok (.if_icmp .lt 13, 3) := by decide +kernel
theorem dX1_sortOf_26 : decode cX1_sortOf 26 = .ok (.iload_n 0, 1) := by decide +kernel
theorem dX1_sortOf_27 : decode cX1_sortOf 27 = .ok (.bipush 57, 2) := by decide +kernel
theorem dX1_sortOf_29 : decode cX1_sortOf 29 = .ok (.if_icmp .gt 7, 3) := by decide +kernel
theorem dX1_sortOf_32 : decode cX1_sortOf 32 = .ok (.iconst 2, 1) := by decide +kernel
theorem dX1_sortOf_33 : decode cX1_sortOf 33 = .ok (.goto 4, 3) := by decide +kernel
theorem dX1_sortOf_36 : decode cX1_sortOf 36 = .ok (.iconst 3, 1) := by decide +kernel
theorem dX1_sortOf_37 : decode cX1_sortOf 37 = .ok (.ireturn, 1) := by decide +kernel
theorem dX1_keyHere_0 : decode cX1_keyHere 0 = .ok (.aload_n 0, 1) := by decide +kernel
theorem dX1_keyHere_1 : decode cX1_keyHere 1 = .ok (.ldc 75, 2) := by decide +kernel
theorem dX1_keyHere_3 : decode cX1_keyHere 3 = .ok (.invokevirtual 77, 3) := by decide +kernel
theorem dX1_keyHere_6 : decode cX1_keyHere 6 = .ok (.ifCond .eq 5, 3) := by decide +kernel
theorem dX1_keyHere_9 : decode cX1_keyHere 9 = .ok (.iconst 0, 1) := by decide +kernel
theorem dX1_keyHere_10 : decode cX1_keyHere 10 = .ok (.ireturn, 1) := by decide +kernel
theorem dX1_keyHere_11 : decode cX1_keyHere 11 = .ok (.aload_n 0, 1) := by decide +kernel
theorem dX1_keyHere_12 : decode cX1_keyHere 12 = .ok (.ldc 81, 2) := by decide +kernel
theorem dX1_keyHere_14 : decode cX1_keyHere 14 = .ok (.invokevirtual 77, 3) := by decide +kernel
theorem dX1_keyHere_17 : decode cX1_keyHere 17 = .ok (.ifCond .eq 5, 3) := by decide +kernel
theorem dX1_keyHere_20 : decode cX1_keyHere 20 = .ok (.iconst 1, 1) := by decide +kernel
theorem dX1_keyHere_21 : decode cX1_keyHere 21 = .ok (.ireturn, 1) := by decide +kernel
theorem dX1_keyHere_22 : decode cX1_keyHere 22 = .ok (.aload_n 0, 1) := by decide +kernel
theorem dX1_keyHere_23 : decode cX1_keyHere 23 = .ok (.ldc 83, 2) := by decide +kernel
theorem dX1_keyHere_25 : decode cX1_keyHere 25 = .ok (.invokevirtual 77, 3) := by decide +kernel
theorem dX1_keyHere_28 : decode cX1_keyHere 28 = .ok (.ifCond .eq 7, 3) := by decide +kernel
theorem dX1_keyHere_31 : decode cX1_keyHere 31 = .ok (.iconst 2, 1) := by decide +kernel
theorem dX1_keyHere_32 : decode cX1_keyHere 32 = .ok (.goto 4, 3) := by decide +kernel
theorem dX1_keyHere_35 : decode cX1_keyHere 35 = .ok (.iconst (-1), 1) := by decide +kernel
theorem dX1_keyHere_36 : decode cX1_keyHere 36 = .ok (.ireturn, 1) := by decide +kernel
theorem dX1_isWord_0 : decode cX1_isWord 0 = .ok (.aload_n 0, 1) := by decide +kernel
theorem dX1_isWord_1 : decode cX1_isWord 1 = .ok (.getfield 33, 3) := by decide +kernel
theorem dX1_isWord_4 : decode cX1_isWord 4 = .ok (.iconst 1, 1) := by decide +kernel
theorem dX1_isWord_5 : decode cX1_isWord 5 = .ok (.if_icmp .ne 19, 3) := by decide +kernel
theorem dX1_isWord_8 : decode cX1_isWord 8 = .ok (.aload_n 0, 1) := by decide +kernel
theorem dX1_isWord_9 : decode cX1_isWord 9 = .ok (.getfield 30, 3) := by decide +kernel
theorem dX1_isWord_12 : decode cX1_isWord 12 = .ok (.aload_n 0, 1) := by decide +kernel
theorem dX1_isWord_13 : decode cX1_isWord 13 = .ok (.getfield 65, 3) := by decide +kernel
theorem dX1_isWord_16 : decode cX1_isWord 16 = .ok (.isub, 1) := by decide +kernel
theorem dX1_isWord_17 : decode cX1_isWord 17 = .ok (.aload_n 1, 1) := by decide +kernel
theorem dX1_isWord_18 : decode cX1_isWord 18 = .ok (.invokevirtual 85, 3) := by decide +kernel
theorem dX1_isWord_21 : decode cX1_isWord 21 = .ok (.if_icmp .eq 5, 3) := by decide +kernel
theorem dX1_isWord_24 : decode cX1_isWord 24 = .ok (.iconst 0, 1) := by decide +kernel
theorem dX1_isWord_25 : decode cX1_isWord 25 = .ok (.ireturn, 1) := by decide +kernel
theorem dX1_isWord_26 : decode cX1_isWord 26 = .ok (.iconst 0, 1) := by decide +kernel
theorem dX1_isWord_27 : decode cX1_isWord 27 = .ok (.istore_n 2, 1) := by decide +kernel
theorem dX1_isWord_28 : decode cX1_isWord 28 = .ok (.iload_n 2, 1) := by decide +kernel
theorem dX1_isWord_29 : decode cX1_isWord 29 = .ok (.aload_n 1, 1) := by decide +kernel
theorem dX1_isWord_30 : decode cX1_isWord 30 = .ok (.invokevirtual 85, 3) := by decide +kernel
theorem dX1_isWord_33 : decode cX1_isWord 33 = .ok (.if_icmp .ge 32, 3) := by decide +kernel
theorem dX1_isWord_36 : decode cX1_isWord 36 = .ok (.aload_n 0, 1) := by decide +kernel
theorem dX1_isWord_37 : decode cX1_isWord 37 = .ok (.getfield 14, 3) := by decide +kernel
theorem dX1_isWord_40 : decode cX1_isWord 40 = .ok (.aload_n 0, 1) := by decide +kernel
theorem dX1_isWord_41 : decode cX1_isWord 41 = .ok (.getfield 65, 3) := by decide +kernel
theorem dX1_isWord_44 : decode cX1_isWord 44 = .ok (.iload_n 2, 1) := by decide +kernel
theorem dX1_isWord_45 : decode cX1_isWord 45 = .ok (.iadd, 1) := by decide +kernel
theorem dX1_isWord_46 : decode cX1_isWord 46 = .ok (.invokevirtual 68, 3) := by decide +kernel
theorem dX1_isWord_49 : decode cX1_isWord 49 = .ok (.aload_n 1, 1) := by decide +kernel
theorem dX1_isWord_50 : decode cX1_isWord 50 = .ok (.iload_n 2, 1) := by decide +kernel
theorem dX1_isWord_51 : decode cX1_isWord 51 = .ok (.invokevirtual 90, 3) := by decide +kernel
theorem dX1_isWord_54 : decode cX1_isWord 54 = .ok (.if_icmp .eq 5, 3) := by decide +kernel
theorem dX1_isWord_57 : decode cX1_isWord 57 = .ok (.iconst 0, 1) := by decide +kernel
theorem dX1_isWord_58 : decode cX1_isWord 58 = .ok (.ireturn, 1) := by decide +kernel
theorem dX1_isWord_59 : decode cX1_isWord 59 = .ok (.iinc 2 1, 3) := by decide +kernel
theorem dX1_isWord_62 : decode cX1_isWord 62 = .ok (.goto (-34), 3) := by decide +kernel
theorem dX1_isWord_65 : decode cX1_isWord 65 = .ok (.iconst 1, 1) := by decide +kernel
theorem dX1_isWord_66 : decode cX1_isWord 66 = .ok (.ireturn, 1) := by decide +kernel
theorem dX1_isSign_0 : decode cX1_isSign 0 = .ok (.aload_n 0, 1) := by decide +kernel
theorem dX1_isSign_1 : decode cX1_isSign 1 = .ok (.getfield 33, 3) := by decide +kernel
theorem dX1_isSign_4 : decode cX1_isSign 4 = .ok (.iconst 3, 1) := by decide +kernel
theorem dX1_isSign_5 : decode cX1_isSign 5 = .ok (.if_icmp .ne 22, 3) := by decide +kernel
theorem dX1_isSign_8 : decode cX1_isSign 8 = .ok (.aload_n 0, 1) := by decide +kernel
theorem dX1_isSign_9 : decode cX1_isSign 9 = .ok (.getfield 14, 3) := by decide +kernel
theorem dX1_isSign_12 : decode cX1_isSign 12 = .ok (.aload_n 0, 1) := by decide +kernel
theorem dX1_isSign_13 : decode cX1_isSign 13 = .ok (.getfield 65, 3) := by decide +kernel
theorem dX1_isSign_16 : decode cX1_isSign 16 = .ok (.invokevirtual 68, 3) := by decide +kernel
theorem dX1_isSign_19 : decode cX1_isSign 19 = .ok (.iload_n 1, 1) := by decide +kernel
theorem dX1_isSign_20 : decode cX1_isSign 20 = .ok (.if_icmp .ne 7, 3) := by decide +kernel
theorem dX1_isSign_23 : decode cX1_isSign 23 = .ok (.iconst 1, 1) := by decide +kernel
theorem dX1_isSign_24 : decode cX1_isSign 24 = .ok (.goto 4, 3) := by decide +kernel
theorem dX1_isSign_27 : decode cX1_isSign 27 = .ok (.iconst 0, 1) := by decide +kernel
theorem dX1_isSign_28 : decode cX1_isSign 28 = .ok (.ireturn, 1) := by decide +kernel
theorem dX1_levelHere_0 : decode cX1_levelHere 0 = .ok (.aload_n 0, 1) := by decide +kernel
theorem dX1_levelHere_1 : decode cX1_levelHere 1 = .ok (.getfield 33, 3) := by decide +kernel
theorem dX1_levelHere_4 : decode cX1_levelHere 4 = .ok (.iconst 3, 1) := by decide +kernel
theorem dX1_levelHere_5 : decode cX1_levelHere 5 = .ok (.if_icmp .eq 5, 3) := by decide +kernel
theorem dX1_levelHere_8 : decode cX1_levelHere 8 = .ok (.iconst (-1), 1) := by decide +kernel
theorem dX1_levelHere_9 : decode cX1_levelHere 9 = .ok (.ireturn, 1) := by decide +kernel
theorem dX1_levelHere_10 : decode cX1_levelHere 10 = .ok (.aload_n 0, 1) := by decide +kernel
theorem dX1_levelHere_11 : decode cX1_levelHere 11 = .ok (.getfield 14, 3) := by decide +kernel
theorem dX1_levelHere_14 : decode cX1_levelHere 14 = .ok (.aload_n 0, 1) := by decide +kernel
theorem dX1_levelHere_15 : decode cX1_levelHere 15 = .ok (.getfield 65, 3) := by decide +kernel
theorem dX1_levelHere_18 : decode cX1_levelHere 18 = .ok (.invokevirtual 68, 3) := by decide +kernel
theorem dX1_levelHere_21 : decode cX1_levelHere 21 = .ok (.lookupswitch 93 #[(38, 85), (42, 91), (43, 89), (45, 89), (47, 91), (60, 87), (61, 87), (62, 87), (124, 83)], 83) := by decide +kernel
theorem dX1_levelHere_104 : decode cX1_levelHere 104 = .ok (.iconst 0, 1) := by decide +kernel
theorem dX1_levelHere_105 : decode cX1_levelHere 105 = .ok (.ireturn, 1) := by decide +kernel
theorem dX1_levelHere_106 : decode cX1_levelHere 106 = .ok (.iconst 1, 1) := by decide +kernel
theorem dX1_levelHere_107 : decode cX1_levelHere 107 = .ok (.ireturn, 1) := by decide +kernel
theorem dX1_levelHere_108 : decode cX1_levelHere 108 = .ok (.iconst 2, 1) := by decide +kernel
theorem dX1_levelHere_109 : decode cX1_levelHere 109 = .ok (.ireturn, 1) := by decide +kernel
theorem dX1_levelHere_110 : decode cX1_levelHere 110 = .ok (.iconst 3, 1) := by decide +kernel
theorem dX1_levelHere_111 : decode cX1_levelHere 111 = .ok (.ireturn, 1) := by decide +kernel
theorem dX1_levelHere_112 : decode cX1_levelHere 112 = .ok (.iconst 4, 1) := by decide +kernel
theorem dX1_levelHere_113 : decode cX1_levelHere 113 = .ok (.ireturn, 1) := by decide +kernel
theorem dX1_levelHere_114 : decode cX1_levelHere 114 = .ok (.iconst (-1), 1) := by decide +kernel
theorem dX1_levelHere_115 : decode cX1_levelHere 115 = .ok (.ireturn, 1) := by decide +kernel
theorem dX1_readsLevel_0 : decode cX1_readsLevel 0 = .ok (.iload_n 1, 1) := by decide +kernel
theorem dX1_readsLevel_1 : decode cX1_readsLevel 1 = .ok (.iconst 5, 1) := by decide +kernel
theorem dX1_readsLevel_2 : decode cX1_readsLevel 2 = .ok (.if_icmp .lt 10, 3) := by decide +kernel
theorem dX1_readsLevel_5 : decode cX1_readsLevel 5 = .ok (.aload_n 0, 1) := by decide +kernel
theorem dX1_readsLevel_6 : decode cX1_readsLevel 6 = .ok (.iload_n 2, 1) := by decide +kernel
theorem dX1_readsLevel_7 : decode cX1_readsLevel 7 = .ok (.iload_n 3, 1) := by decide +kernel
theorem dX1_readsLevel_8 : decode cX1_readsLevel 8 = .ok (.invokevirtual 94, 3) := by decide +kernel
theorem dX1_readsLevel_11 : decode cX1_readsLevel 11 = .ok (.ireturn, 1) := by decide +kernel
theorem dX1_readsLevel_12 : decode cX1_readsLevel 12 = .ok (.aload_n 0, 1) := by decide +kernel
theorem dX1_readsLevel_13 : decode cX1_readsLevel 13 = .ok (.iload_n 1, 1) := by decide +kernel
theorem dX1_readsLevel_14 : decode cX1_readsLevel 14 = .ok (.iconst 1, 1) := by decide +kernel
theorem dX1_readsLevel_15 : decode cX1_readsLevel 15 = .ok (.iadd, 1) := by decide +kernel
theorem dX1_readsLevel_16 : decode cX1_readsLevel 16 = .ok (.iload_n 2, 1) := by decide +kernel
theorem dX1_readsLevel_17 : decode cX1_readsLevel 17 = .ok (.iload_n 3, 1) := by decide +kernel
theorem dX1_readsLevel_18 : decode cX1_readsLevel 18 = .ok (.invokevirtual 46, 3) := by decide +kernel
theorem dX1_readsLevel_21 : decode cX1_readsLevel 21 = .ok (.ifCond .ne 5, 3) := by decide +kernel
theorem dX1_readsLevel_24 : decode cX1_readsLevel 24 = .ok (.iconst 0, 1) := by decide +kernel
theorem dX1_readsLevel_25 : decode cX1_readsLevel 25 = .ok (.ireturn, 1) := by decide +kernel
theorem dX1_readsLevel_26 : decode cX1_readsLevel 26 = .ok (.iconst 0, 1) := by decide +kernel
theorem dX1_readsLevel_27 : decode cX1_readsLevel 27 = .ok (.istore 4, 2) := by decide +kernel
theorem dX1_readsLevel_29 : decode cX1_readsLevel 29 = .ok (.iload 4, 2) := by decide +kernel
theorem dX1_readsLevel_31 : decode cX1_readsLevel 31 = .ok (.bipush 96, 2) := by decide +kernel
theorem dX1_readsLevel_33 : decode cX1_readsLevel 33 = .ok (.if_icmp .ge 66, 3) := by decide +kernel
theorem dX1_readsLevel_36 : decode cX1_readsLevel 36 = .ok (.aload_n 0, 1) := by decide +kernel
theorem dX1_readsLevel_37 : decode cX1_readsLevel 37 = .ok (.invokevirtual 98, 3) := by decide +kernel
theorem dX1_readsLevel_40 : decode cX1_readsLevel 40 = .ok (.iload_n 1, 1) := by decide +kernel
theorem dX1_readsLevel_41 : decode cX1_readsLevel 41 = .ok (.if_icmp .ne 58, 3) := by decide +kernel
theorem dX1_readsLevel_44 : decode cX1_readsLevel 44 = .ok (.aload_n 0, 1) := by decide +kernel
theorem dX1_readsLevel_45 : decode cX1_readsLevel 45 = .ok (.getfield 14, 3) := by decide +kernel
theorem dX1_readsLevel_48 : decode cX1_readsLevel 48 = .ok (.aload_n 0, 1) := by decide +kernel
theorem dX1_readsLevel_49 : decode cX1_readsLevel 49 = .ok (.getfield 65, 3) := by decide +kernel
theorem dX1_readsLevel_52 : decode cX1_readsLevel 52 = .ok (.invokevirtual 68, 3) := by decide +kernel
theorem dX1_readsLevel_55 : decode cX1_readsLevel 55 = .ok (.istore 5, 2) := by decide +kernel
theorem dX1_readsLevel_57 : decode cX1_readsLevel 57 = .ok (.aload_n 0, 1) := by decide +kernel
theorem dX1_readsLevel_58 : decode cX1_readsLevel 58 = .ok (.invokevirtual 36, 3) := by decide +kernel
theorem dX1_readsLevel_61 : decode cX1_readsLevel 61 = .ok (.aload_n 0, 1) := by decide +kernel
theorem dX1_readsLevel_62 : decode cX1_readsLevel 62 = .ok (.iload_n 1, 1) := by decide +kernel
theorem dX1_readsLevel_63 : decode cX1_readsLevel 63 = .ok (.iconst 1, 1) := by decide +kernel
theorem dX1_readsLevel_64 : decode cX1_readsLevel 64 = .ok (.iadd, 1) := by decide +kernel
theorem dX1_readsLevel_65 : decode cX1_readsLevel 65 = .ok (.iload_n 2, 1) := by decide +kernel
theorem dX1_readsLevel_66 : decode cX1_readsLevel 66 = .ok (.iload_n 3, 1) := by decide +kernel
theorem dX1_readsLevel_67 : decode cX1_readsLevel 67 = .ok (.invokevirtual 46, 3) := by decide +kernel
theorem dX1_readsLevel_70 : decode cX1_readsLevel 70 = .ok (.ifCond .ne 5, 3) := by decide +kernel
theorem dX1_readsLevel_73 : decode cX1_readsLevel 73 = .ok (.iconst 0, 1) := by decide +kernel
theorem dX1_readsLevel_74 : decode cX1_readsLevel 74 = .ok (.ireturn, 1) := by decide +kernel
theorem dX1_readsLevel_75 : decode cX1_readsLevel 75 = .ok (.aload_n 0, 1) := by decide +kernel
theorem dX1_readsLevel_76 : decode cX1_readsLevel 76 = .ok (.getfield 20, 3) := by decide +kernel
theorem dX1_readsLevel_79 : decode cX1_readsLevel 79 = .ok (.iload 5, 2) := by decide +kernel
theorem dX1_readsLevel_81 : decode cX1_readsLevel 81 = .ok (.ineg, 1) := by decide +kernel
theorem dX1_readsLevel_82 : decode cX1_readsLevel 82 = .ok (.invokevirtual 101, 3) := by decide +kernel
theorem dX1_readsLevel_85 : decode cX1_readsLevel 85 = .ok (.iload_n 1, 1) := by decide +kernel
theorem dX1_readsLevel_86 : decode cX1_readsLevel 86 = .ok (.iconst 2, 1) := by decide +kernel
theorem dX1_readsLevel_87 : decode cX1_readsLevel 87 = .ok (.if_icmp .ne 6, 3) := by decide +kernel
theorem dX1_readsLevel_90 : decode cX1_readsLevel 90 = .ok (.goto 9, 3) := by decide +kernel
theorem dX1_readsLevel_93 : decode cX1_readsLevel 93 = .ok (.iinc 4 1, 3) := by decide +kernel
theorem dX1_readsLevel_96 : decode cX1_readsLevel 96 = .ok (.goto (-67), 3) := by decide +kernel
theorem dX1_readsLevel_99 : decode cX1_readsLevel 99 = .ok (.iconst 1, 1) := by decide +kernel
theorem dX1_readsLevel_100 : decode cX1_readsLevel 100 = .ok (.ireturn, 1) := by decide +kernel
theorem dX1_readsPiece_0 : decode cX1_readsPiece 0 = .ok (.aload_n 0, 1) := by decide +kernel
theorem dX1_readsPiece_1 : decode cX1_readsPiece 1 = .ok (.getfield 33, 3) := by decide +kernel
theorem dX1_readsPiece_4 : decode cX1_readsPiece 4 = .ok (.iconst 2, 1) := by decide +kernel
theorem dX1_readsPiece_5 : decode cX1_readsPiece 5 = .ok (.if_icmp .ne 8, 3) := by decide +kernel
theorem dX1_readsPiece_8 : decode cX1_readsPiece 8 = .ok (.aload_n 0, 1) := by decide +kernel
theorem dX1_readsPiece_9 : decode cX1_readsPiece 9 = .ok (.invokevirtual 104, 3) := by decide +kernel
theorem dX1_readsPiece_12 : decode cX1_readsPiece 12 = .ok (.ireturn, 1) := by decide +kernel
theorem dX1_readsPiece_13 : decode cX1_readsPiece 13 = .ok (.aload_n 0, 1) := by decide +kernel
theorem dX1_readsPiece_14 : decode cX1_readsPiece 14 = .ok (.getfield 33, 3) := by decide +kernel
theorem dX1_readsPiece_17 : decode cX1_readsPiece 17 = .ok (.iconst 1, 1) := by decide +kernel
theorem dX1_readsPiece_18 : decode cX1_readsPiece 18 = .ok (.if_icmp .ne 8, 3) := by decide +kernel
theorem dX1_readsPiece_21 : decode cX1_readsPiece 21 = .ok (.aload_n 0, 1) := by decide +kernel
theorem dX1_readsPiece_22 : decode cX1_readsPiece 22 = .ok (.invokevirtual 108, 3) := by decide +kernel
theorem dX1_readsPiece_25 : decode cX1_readsPiece 25 = .ok (.ireturn, 1) := by decide +kernel
theorem dX1_readsPiece_26 : decode cX1_readsPiece 26 = .ok (.aload_n 0, 1) := by decide +kernel
theorem dX1_readsPiece_27 : decode cX1_readsPiece 27 = .ok (.bipush 33, 2) := by decide +kernel
theorem dX1_readsPiece_29 : decode cX1_readsPiece 29 = .ok (.invokevirtual 111, 3) := by decide +kernel
theorem dX1_readsPiece_32 : decode cX1_readsPiece 32 = .ok (.ifCond .eq 39, 3) := by decide +kernel
theorem dX1_readsPiece_35 : decode cX1_readsPiece 35 = .ok (.iload_n 2, 1) := by decide +kernel
theorem dX1_readsPiece_36 : decode cX1_readsPiece 36 = .ok (.bipush 8, 2) := by decide +kernel
theorem dX1_readsPiece_38 : decode cX1_readsPiece 38 = .ok (.if_icmp .lt 5, 3) := by decide +kernel
theorem dX1_readsPiece_41 : decode cX1_readsPiece 41 = .ok (.iconst 0, 1) := by decide +kernel
theorem dX1_readsPiece_42 : decode cX1_readsPiece 42 = .ok (.ireturn, 1) := by decide +kernel
theorem dX1_readsPiece_43 : decode cX1_readsPiece 43 = .ok (.aload_n 0, 1) := by decide +kernel
theorem dX1_readsPiece_44 : decode cX1_readsPiece 44 = .ok (.invokevirtual 36, 3) := by decide +kernel
theorem dX1_readsPiece_47 : decode cX1_readsPiece 47 = .ok (.aload_n 0, 1) := by decide +kernel
theorem dX1_readsPiece_48 : decode cX1_readsPiece 48 = .ok (.iload_n 1, 1) := by decide +kernel
theorem dX1_readsPiece_49 : decode cX1_readsPiece 49 = .ok (.iload_n 2, 1) := by decide +kernel
theorem dX1_readsPiece_50 : decode cX1_readsPiece 50 = .ok (.iconst 1, 1) := by decide +kernel
theorem dX1_readsPiece_51 : decode cX1_readsPiece 51 = .ok (.iadd, 1) := by decide +kernel
theorem dX1_readsPiece_52 : decode cX1_readsPiece 52 = .ok (.invokevirtual 94, 3) := by decide +kernel
theorem dX1_readsPiece_55 : decode cX1_readsPiece 55 = .ok (.ifCond .ne 5, 3) := by decide +kernel
theorem dX1_readsPiece_58 : decode cX1_readsPiece 58 = .ok (.iconst 0, 1) := by decide +kernel
theorem dX1_readsPiece_59 : decode cX1_readsPiece 59 = .ok (.ireturn, 1) := by decide +kernel
theorem dX1_readsPiece_60 : decode cX1_readsPiece 60 = .ok (.aload_n 0, 1) := by decide +kernel
theorem dX1_readsPiece_61 : decode cX1_readsPiece 61 = .ok (.getfield 20, 3) := by decide +kernel
theorem dX1_readsPiece_64 : decode cX1_readsPiece 64 = .ok (.bipush (-33), 2) := by decide +kernel
theorem dX1_readsPiece_66 : decode cX1_readsPiece 66 = .ok (.invokevirtual 101, 3) := by decide +kernel
theorem dX1_readsPiece_69 : decode cX1_readsPiece 69 = .ok (.iconst 1, 1) := by decide +kernel
theorem dX1_readsPiece_70 : decode cX1_readsPiece 70 = .ok (.ireturn, 1) := by decide +kernel
theorem dX1_readsPiece_71 : decode cX1_readsPiece 71 = .ok (.aload_n 0, 1) := by decide +kernel
theorem dX1_readsPiece_72 : decode cX1_readsPiece 72 = .ok (.bipush 40, 2) := by decide +kernel
theorem dX1_readsPiece_74 : decode cX1_readsPiece 74 = .ok (.invokevirtual 111, 3) := by decide +kernel
theorem dX1_readsPiece_77 : decode cX1_readsPiece 77 = .ok (.ifCond .eq 9, 3) := by decide +kernel
theorem dX1_readsPiece_80 : decode cX1_readsPiece 80 = .ok (.iload_n 1, 1) := by decide +kernel
theorem dX1_readsPiece_81 : decode cX1_readsPiece 81 = .ok (.bipush 8, 2) := by decide +kernel
theorem dX1_readsPiece_83 : decode cX1_readsPiece 83 = .ok (.if_icmp .lt 5, 3) := by decide +kernel
theorem dX1_readsPiece_86 : decode cX1_readsPiece 86 = .ok (.iconst 0, 1) := by decide +kernel
theorem dX1_readsPiece_87 : decode cX1_readsPiece 87 = .ok (.ireturn, 1) := by decide +kernel
theorem dX1_readsPiece_88 : decode cX1_readsPiece 88 = .ok (.aload_n 0, 1) := by decide +kernel
theorem dX1_readsPiece_89 : decode cX1_readsPiece 89 = .ok (.invokevirtual 36, 3) := by decide +kernel
theorem dX1_readsPiece_92 : decode cX1_readsPiece 92 = .ok (.aload_n 0, 1) := by decide +kernel
theorem dX1_readsPiece_93 : decode cX1_readsPiece 93 = .ok (.iconst 0, 1) := by decide +kernel
theorem dX1_readsPiece_94 : decode cX1_readsPiece 94 = .ok (.iload_n 1, 1) := by decide +kernel
theorem dX1_readsPiece_95 : decode cX1_readsPiece 95 = .ok (.iconst 1, 1) := by decide +kernel
theorem dX1_readsPiece_96 : decode cX1_readsPiece 96 = .ok (.iadd, 1) := by decide +kernel
theorem dX1_readsPiece_97 : decode cX1_readsPiece 97 = .ok (.iload_n 2, 1) := by decide +kernel
theorem dX1_readsPiece_98 : decode cX1_readsPiece 98 = .ok (.invokevirtual 46, 3) := by decide +kernel
theorem dX1_readsPiece_101 : decode cX1_readsPiece 101 = .ok (.ifCond .eq 12, 3) := by decide +kernel
theorem dX1_readsPiece_104 : decode cX1_readsPiece 104 = .ok (.aload_n 0, 1) := by decide +kernel
theorem dX1_readsPiece_105 : decode cX1_readsPiece 105 = .ok (.bipush 41, 2) := by decide +kernel
theorem dX1_readsPiece_107 : decode cX1_readsPiece 107 = .ok (.invokevirtual 111, 3) := by decide +kernel
theorem dX1_readsPiece_110 : decode cX1_readsPiece 110 = .ok (.ifCond .ne 5, 3) := by decide +kernel
theorem dX1_readsPiece_113 : decode cX1_readsPiece 113 = .ok (.iconst 0, 1) := by decide +kernel
theorem dX1_readsPiece_114 : decode cX1_readsPiece 114 = .ok (.ireturn, 1) := by decide +kernel
theorem dX1_readsPiece_115 : decode cX1_readsPiece 115 = .ok (.aload_n 0, 1) := by decide +kernel
theorem dX1_readsPiece_116 : decode cX1_readsPiece 116 = .ok (.invokevirtual 36, 3) := by decide +kernel
theorem dX1_readsPiece_119 : decode cX1_readsPiece 119 = .ok (.iconst 1, 1) := by decide +kernel
theorem dX1_readsPiece_120 : decode cX1_readsPiece 120 = .ok (.ireturn, 1) := by decide +kernel
theorem dX1_readsNumber_0 : decode cX1_readsNumber 0 = .ok (.iconst 0, 1) := by decide +kernel
theorem dX1_readsNumber_1 : decode cX1_readsNumber 1 = .ok (.istore_n 1, 1) := by decide +kernel
theorem dX1_readsNumber_2 : decode cX1_readsNumber 2 = .ok (.aload_n 0, 1) := by decide +kernel
theorem dX1_readsNumber_3 : decode cX1_readsNumber 3 = .ok (.getfield 65, 3) := by decide +kernel
theorem dX1_readsNumber_6 : decode cX1_readsNumber 6 = .ok (.istore_n 2, 1) := by decide +kernel
theorem dX1_readsNumber_7 : decode cX1_readsNumber 7 = .ok (.iload_n 2, 1) := by decide +kernel
theorem dX1_readsNumber_8 : decode cX1_readsNumber 8 = .ok (.aload_n 0, 1) := by decide +kernel
theorem dX1_readsNumber_9 : decode cX1_readsNumber 9 = .ok (.getfield 30, 3) := by decide +kernel
theorem dX1_readsNumber_12 : decode cX1_readsNumber 12 = .ok (.if_icmp .ge 26, 3) := by decide +kernel
theorem dX1_readsNumber_15 : decode cX1_readsNumber 15 = .ok (.iload_n 1, 1) := by decide +kernel
theorem dX1_readsNumber_16 : decode cX1_readsNumber 16 = .ok (.bipush 10, 2) := by decide +kernel
theorem dX1_readsNumber_18 : decode cX1_readsNumber 18 = .ok (.imul, 1) := by decide +kernel
theorem dX1_readsNumber_19 : decode cX1_readsNumber 19 = .ok (.aload_n 0, 1) := by decide +kernel
theorem dX1_readsNumber_20 : decode cX1_readsNumber 20 = .ok (.getfield 14, 3) := by decide +kernel
theorem dX1_readsNumber_23 : decode cX1_readsNumber 23 = .ok (.iload_n 2, 1) := by decide +kernel
theorem dX1_readsNumber_24 : decode cX1_readsNumber 24 = .ok (.invokevirtual 68, 3) := by decide +kernel
theorem dX1_readsNumber_27 : decode cX1_readsNumber 27 = .ok (.iadd, 1) := by decide +kernel
theorem dX1_readsNumber_28 : decode cX1_readsNumber 28 = .ok (.bipush 48, 2) := by decide +kernel
theorem dX1_readsNumber_30 : decode cX1_readsNumber 30 = .ok (.isub, 1) := by decide +kernel
theorem dX1_readsNumber_31 : decode cX1_readsNumber 31 = .ok (.istore_n 1, 1) := by decide +kernel
theorem dX1_readsNumber_32 : decode cX1_readsNumber 32 = .ok (.iinc 2 1, 3) := by decide +kernel
theorem dX1_readsNumber_35 : decode cX1_readsNumber 35 = .ok (.goto (-28), 3) := by decide +kernel
theorem dX1_readsNumber_38 : decode cX1_readsNumber 38 = .ok (.aload_n 0, 1) := by decide +kernel
theorem dX1_readsNumber_39 : decode cX1_readsNumber 39 = .ok (.iload_n 1, 1) := by decide +kernel
theorem dX1_readsNumber_40 : decode cX1_readsNumber 40 = .ok (.invokevirtual 115, 3) := by decide +kernel
theorem dX1_readsNumber_43 : decode cX1_readsNumber 43 = .ok (.iconst 1, 1) := by decide +kernel
theorem dX1_readsNumber_44 : decode cX1_readsNumber 44 = .ok (.ireturn, 1) := by decide +kernel
theorem dX1_readsName_0 : decode cX1_readsName 0 = .ok (.aload_n 0, 1) := by decide +kernel
theorem dX1_readsName_1 : decode cX1_readsName 1 = .ok (.getfield 30, 3) := by decide +kernel
theorem dX1_readsName_4 : decode cX1_readsName 4 = .ok (.aload_n 0, 1) := by decide +kernel
theorem dX1_readsName_5 : decode cX1_readsName 5 = .ok (.getfield 65, 3) := by decide +kernel
theorem dX1_readsName_8 : decode cX1_readsName 8 = .ok (.isub, 1) := by decide +kernel
theorem dX1_readsName_9 : decode cX1_readsName 9 = .ok (.iconst 1, 1) := by decide +kernel
theorem dX1_readsName_10 : decode cX1_readsName 10 = .ok (.if_icmp .ne 28, 3) := by decide +kernel
theorem dX1_readsName_13 : decode cX1_readsName 13 = .ok (.aload_n 0, 1) := by decide +kernel
theorem dX1_readsName_14 : decode cX1_readsName 14 = .ok (.getfield 43, 3) := by decide +kernel
theorem dX1_readsName_17 : decode cX1_readsName 17 = .ok (.invokestatic 118, 3) := by decide +kernel
theorem dX1_readsName_20 : decode cX1_readsName 20 = .ok (.aload_n 0, 1) := by decide +kernel
theorem dX1_readsName_21 : decode cX1_readsName 21 = .ok (.getfield 14, 3) := by decide +kernel
theorem dX1_readsName_24 : decode cX1_readsName 24 = .ok (.aload_n 0, 1) := by decide +kernel
theorem dX1_readsName_25 : decode cX1_readsName 25 = .ok (.getfield 65, 3) := by decide +kernel
theorem dX1_readsName_28 : decode cX1_readsName 28 = .ok (.invokevirtual 68, 3) := by decide +kernel
theorem dX1_readsName_31 : decode cX1_readsName 31 = .ok (.i2c, 1) := by decide +kernel
theorem dX1_readsName_32 : decode cX1_readsName 32 = .ok (.invokevirtual 122, 3) := by decide +kernel
theorem dX1_readsName_35 : decode cX1_readsName 35 = .ok (.goto 4, 3) := by decide +kernel
theorem dX1_readsName_38 : decode cX1_readsName 38 = .ok (.iconst (-1), 1) := by decide +kernel
theorem dX1_readsName_39 : decode cX1_readsName 39 = .ok (.istore_n 1, 1) := by decide +kernel
theorem dX1_readsName_40 : decode cX1_readsName 40 = .ok (.iload_n 1, 1) := by decide +kernel
theorem dX1_readsName_41 : decode cX1_readsName 41 = .ok (.ifCond .ge 5, 3) := by decide +kernel
theorem dX1_readsName_44 : decode cX1_readsName 44 = .ok (.iconst 0, 1) := by decide +kernel
theorem dX1_readsName_45 : decode cX1_readsName 45 = .ok (.ireturn, 1) := by decide +kernel
theorem dX1_readsName_46 : decode cX1_readsName 46 = .ok (.aload_n 0, 1) := by decide +kernel
theorem dX1_readsName_47 : decode cX1_readsName 47 = .ok (.iconst (-1), 1) := by decide +kernel
theorem dX1_readsName_48 : decode cX1_readsName 48 = .ok (.iload_n 1, 1) := by decide +kernel
theorem dX1_readsName_49 : decode cX1_readsName 49 = .ok (.isub, 1) := by decide +kernel
theorem dX1_readsName_50 : decode cX1_readsName 50 = .ok (.invokevirtual 115, 3) := by decide +kernel
theorem dX1_readsName_53 : decode cX1_readsName 53 = .ok (.iconst 1, 1) := by decide +kernel
theorem dX1_readsName_54 : decode cX1_readsName 54 = .ok (.ireturn, 1) := by decide +kernel
theorem dX1_addPiece_0 : decode cX1_addPiece 0 = .ok (.aload_n 0, 1) := by decide +kernel
theorem dX1_addPiece_1 : decode cX1_addPiece 1 = .ok (.getfield 20, 3) := by decide +kernel
theorem dX1_addPiece_4 : decode cX1_addPiece 4 = .ok (.iload_n 1, 1) := by decide +kernel
theorem dX1_addPiece_5 : decode cX1_addPiece 5 = .ok (.invokevirtual 101, 3) := by decide +kernel
theorem dX1_addPiece_8 : decode cX1_addPiece 8 = .ok (.aload_n 0, 1) := by decide +kernel
theorem dX1_addPiece_9 : decode cX1_addPiece 9 = .ok (.dup, 1) := by decide +kernel
theorem dX1_addPiece_10 : decode cX1_addPiece 10 = .ok (.getfield 27, 3) := by decide +kernel
theorem dX1_addPiece_13 : decode cX1_addPiece 13 = .ok (.iconst 1, 1) := by decide +kernel
theorem dX1_addPiece_14 : decode cX1_addPiece 14 = .ok (.iadd, 1) := by decide +kernel
theorem dX1_addPiece_15 : decode cX1_addPiece 15 = .ok (.putfield 27, 3) := by decide +kernel
theorem dX1_addPiece_18 : decode cX1_addPiece 18 = .ok (.aload_n 0, 1) := by decide +kernel
theorem dX1_addPiece_19 : decode cX1_addPiece 19 = .ok (.invokevirtual 36, 3) := by decide +kernel
theorem dX1_addPiece_22 : decode cX1_addPiece 22 = .ok (.return_, 1) := by decide +kernel
theorem dX1_namesOf_0 : decode cX1_namesOf 0 = .ok (.iload_n 0, 1) := by decide +kernel
theorem dX1_namesOf_1 : decode cX1_namesOf 1 = .ok (.lookupswitch 33 #[(0, 27), (1, 30)], 27) := by decide +kernel
theorem dX1_namesOf_28 : decode cX1_namesOf 28 = .ok (.ldc 125, 2) := by decide +kernel
theorem dX1_namesOf_30 : decode cX1_namesOf 30 = .ok (.areturn, 1) := by decide +kernel
theorem dX1_namesOf_31 : decode cX1_namesOf 31 = .ok (.ldc 127, 2) := by decide +kernel
theorem dX1_namesOf_33 : decode cX1_namesOf 33 = .ok (.areturn, 1) := by decide +kernel
theorem dX1_namesOf_34 : decode cX1_namesOf 34 = .ok (.ldc 129, 2) := by decide +kernel
theorem dX1_namesOf_36 : decode cX1_namesOf 36 = .ok (.areturn, 1) := by decide +kernel
theorem dX2_init_0 : decode cX2_init 0 = .ok (.aload_n 0, 1) := by decide +kernel
theorem dX2_init_1 : decode cX2_init 1 = .ok (.invokespecial 1, 3) := by decide +kernel
theorem dX2_init_4 : decode cX2_init 4 = .ok (.aload_n 0, 1) := by decide +kernel
theorem dX2_init_5 : decode cX2_init 5 = .ok (.iconst 0, 1) := by decide +kernel
theorem dX2_init_6 : decode cX2_init 6 = .ok (.putfield 7, 3) := by decide +kernel
theorem dX2_init_9 : decode cX2_init 9 = .ok (.aload_n 0, 1) := by decide +kernel
theorem dX2_init_10 : decode cX2_init 10 = .ok (.iconst 0, 1) := by decide +kernel
theorem dX2_init_11 : decode cX2_init 11 = .ok (.iload_n 1, 1) := by decide +kernel
theorem dX2_init_12 : decode cX2_init 12 = .ok (.invokestatic 13, 3) := by decide +kernel
theorem dX2_init_15 : decode cX2_init 15 = .ok (.newarray .int, 2) := by decide +kernel
theorem dX2_init_17 : decode cX2_init 17 = .ok (.putfield 19, 3) := by decide +kernel
theorem dX2_init_20 : decode cX2_init 20 = .ok (.return_, 1) := by decide +kernel
theorem dX2_add_0 : decode cX2_add 0 = .ok (.aload_n 0, 1) := by decide +kernel
theorem dX2_add_1 : decode cX2_add 1 = .ok (.getfield 7, 3) := by decide +kernel
theorem dX2_add_4 : decode cX2_add 4 = .ok (.aload_n 0, 1) := by decide +kernel
theorem dX2_add_5 : decode cX2_add 5 = .ok (.getfield 19, 3) := by decide +kernel
theorem dX2_add_8 : decode cX2_add 8 = .ok (.arraylength, 1) := by decide +kernel
theorem dX2_add_9 : decode cX2_add 9 = .ok (.if_icmp .ge 23, 3) := by decide +kernel
theorem dX2_add_12 : decode cX2_add 12 = .ok (.aload_n 0, 1) := by decide +kernel
theorem dX2_add_13 : decode cX2_add 13 = .ok (.getfield 19, 3) := by decide +kernel
theorem dX2_add_16 : decode cX2_add 16 = .ok (.aload_n 0, 1) := by decide +kernel
theorem dX2_add_17 : decode cX2_add 17 = .ok (.getfield 7, 3) := by decide +kernel
theorem dX2_add_20 : decode cX2_add 20 = .ok (.iload_n 1, 1) := by decide +kernel
theorem dX2_add_21 : decode cX2_add 21 = .ok (.iastore, 1) := by decide +kernel
theorem dX2_add_22 : decode cX2_add 22 = .ok (.aload_n 0, 1) := by decide +kernel
theorem dX2_add_23 : decode cX2_add 23 = .ok (.dup, 1) := by decide +kernel
theorem dX2_add_24 : decode cX2_add 24 = .ok (.getfield 7, 3) := by decide +kernel
theorem dX2_add_27 : decode cX2_add 27 = .ok (.iconst 1, 1) := by decide +kernel
theorem dX2_add_28 : decode cX2_add 28 = .ok (.iadd, 1) := by decide +kernel
theorem dX2_add_29 : decode cX2_add 29 = .ok (.putfield 7, 3) := by decide +kernel
theorem dX2_add_32 : decode cX2_add 32 = .ok (.return_, 1) := by decide +kernel
theorem dX2_at_0 : decode cX2_at 0 = .ok (.iload_n 1, 1) := by decide +kernel
theorem dX2_at_1 : decode cX2_at 1 = .ok (.ifCond .lt 29, 3) := by decide +kernel
theorem dX2_at_4 : decode cX2_at 4 = .ok (.iload_n 1, 1) := by decide +kernel
theorem dX2_at_5 : decode cX2_at 5 = .ok (.aload_n 0, 1) := by decide +kernel
theorem dX2_at_6 : decode cX2_at 6 = .ok (.getfield 7, 3) := by decide +kernel
theorem dX2_at_9 : decode cX2_at 9 = .ok (.if_icmp .ge 21, 3) := by decide +kernel
theorem dX2_at_12 : decode cX2_at 12 = .ok (.iload_n 1, 1) := by decide +kernel
theorem dX2_at_13 : decode cX2_at 13 = .ok (.aload_n 0, 1) := by decide +kernel
theorem dX2_at_14 : decode cX2_at 14 = .ok (.getfield 19, 3) := by decide +kernel
theorem dX2_at_17 : decode cX2_at 17 = .ok (.arraylength, 1) := by decide +kernel
theorem dX2_at_18 : decode cX2_at 18 = .ok (.if_icmp .ge 12, 3) := by decide +kernel
theorem dX2_at_21 : decode cX2_at 21 = .ok (.aload_n 0, 1) := by decide +kernel
theorem dX2_at_22 : decode cX2_at 22 = .ok (.getfield 19, 3) := by decide +kernel
theorem dX2_at_25 : decode cX2_at 25 = .ok (.iload_n 1, 1) := by decide +kernel
theorem dX2_at_26 : decode cX2_at 26 = .ok (.iaload, 1) := by decide +kernel
theorem dX2_at_27 : decode cX2_at 27 = .ok (.goto 4, 3) := by decide +kernel
theorem dX2_at_30 : decode cX2_at 30 = .ok (.iconst (-1), 1) := by decide +kernel
theorem dX2_at_31 : decode cX2_at 31 = .ok (.ireturn, 1) := by decide +kernel
theorem dX3_init_0 : decode cX3_init 0 = .ok (.aload_n 0, 1) := by decide +kernel
theorem dX3_init_1 : decode cX3_init 1 = .ok (.invokespecial 3, 3) := by decide +kernel
theorem dX3_init_4 : decode cX3_init 4 = .ok (.aload_n 0, 1) := by decide +kernel
theorem dX3_init_5 : decode cX3_init 5 = .ok (.bipush 14, 2) := by decide +kernel
theorem dX3_init_7 : decode cX3_init 7 = .ok (.anewarray 9, 3) := by decide +kernel
theorem dX3_init_10 : decode cX3_init 10 = .ok (.putfield 11, 3) := by decide +kernel
theorem dX3_init_13 : decode cX3_init 13 = .ok (.aload_n 0, 1) := by decide +kernel
theorem dX3_init_14 : decode cX3_init 14 = .ok (.iconst 3, 1) := by decide +kernel
theorem dX3_init_15 : decode cX3_init 15 = .ok (.newarray .int, 2) := by decide +kernel
theorem dX3_init_17 : decode cX3_init 17 = .ok (.dup, 1) := by decide +kernel
theorem dX3_init_18 : decode cX3_init 18 = .ok (.iconst 0, 1) := by decide +kernel
theorem dX3_init_19 : decode cX3_init 19 = .ok (.iconst (-1), 1) := by decide +kernel
theorem dX3_init_20 : decode cX3_init 20 = .ok (.iastore, 1) := by decide +kernel
theorem dX3_init_21 : decode cX3_init 21 = .ok (.dup, 1) := by decide +kernel
theorem dX3_init_22 : decode cX3_init 22 = .ok (.iconst 1, 1) := by decide +kernel
theorem dX3_init_23 : decode cX3_init 23 = .ok (.iconst (-1), 1) := by decide +kernel
theorem dX3_init_24 : decode cX3_init 24 = .ok (.iastore, 1) := by decide +kernel
theorem dX3_init_25 : decode cX3_init 25 = .ok (.dup, 1) := by decide +kernel
theorem dX3_init_26 : decode cX3_init 26 = .ok (.iconst 2, 1) := by decide +kernel
theorem dX3_init_27 : decode cX3_init 27 = .ok (.iconst (-1), 1) := by decide +kernel
theorem dX3_init_28 : decode cX3_init 28 = .ok (.iastore, 1) := by decide +kernel
theorem dX3_init_29 : decode cX3_init 29 = .ok (.putfield 17, 3) := by decide +kernel
theorem dX3_init_32 : decode cX3_init 32 = .ok (.aload_n 0, 1) := by decide +kernel
theorem dX3_init_33 : decode cX3_init 33 = .ok (.iconst 0, 1) := by decide +kernel
theorem dX3_init_34 : decode cX3_init 34 = .ok (.putfield 21, 3) := by decide +kernel
theorem dX3_init_37 : decode cX3_init 37 = .ok (.aload_n 0, 1) := by decide +kernel
theorem dX3_init_38 : decode cX3_init 38 = .ok (.bipush 8, 2) := by decide +kernel
theorem dX3_init_40 : decode cX3_init 40 = .ok (.anewarray 25, 3) := by decide +kernel
theorem dX3_init_43 : decode cX3_init 43 = .ok (.putfield 27, 3) := by decide +kernel
theorem dX3_init_46 : decode cX3_init 46 = .ok (.aload_n 0, 1) := by decide +kernel
theorem dX3_init_47 : decode cX3_init 47 = .ok (.iconst 0, 1) := by decide +kernel
theorem dX3_init_48 : decode cX3_init 48 = .ok (.putfield 31, 3) := by decide +kernel
theorem dX3_init_51 : decode cX3_init 51 = .ok (.aload_n 0, 1) := by decide +kernel
theorem dX3_init_52 : decode cX3_init 52 = .ok (.bipush 15, 2) := by decide +kernel
theorem dX3_init_54 : decode cX3_init 54 = .ok (.putfield 34, 3) := by decide +kernel
theorem dX3_init_57 : decode cX3_init 57 = .ok (.aload_n 0, 1) := by decide +kernel
theorem dX3_init_58 : decode cX3_init 58 = .ok (.bipush 9, 2) := by decide +kernel
theorem dX3_init_60 : decode cX3_init 60 = .ok (.putfield 37, 3) := by decide +kernel
theorem dX3_init_63 : decode cX3_init 63 = .ok (.aload_n 0, 1) := by decide +kernel
theorem dX3_init_64 : decode cX3_init 64 = .ok (.iconst 3, 1) := by decide +kernel
theorem dX3_init_65 : decode cX3_init 65 = .ok (.putfield 40, 3) := by decide +kernel
theorem dX3_init_68 : decode cX3_init 68 = .ok (.aload_n 0, 1) := by decide +kernel
theorem dX3_init_69 : decode cX3_init 69 = .ok (.iconst 1, 1) := by decide +kernel
theorem dX3_init_70 : decode cX3_init 70 = .ok (.putfield 43, 3) := by decide +kernel
theorem dX3_init_73 : decode cX3_init 73 = .ok (.aload_n 0, 1) := by decide +kernel
theorem dX3_init_74 : decode cX3_init 74 = .ok (.iconst 0, 1) := by decide +kernel
theorem dX3_init_75 : decode cX3_init 75 = .ok (.putfield 46, 3) := by decide +kernel
theorem dX3_init_78 : decode cX3_init 78 = .ok (.aload_n 0, 1) := by decide +kernel
theorem dX3_init_79 : decode cX3_init 79 = .ok (.iconst 0, 1) := by decide +kernel
theorem dX3_init_80 : decode cX3_init 80 = .ok (.putfield 49, 3) := by decide +kernel
theorem dX3_init_83 : decode cX3_init 83 = .ok (.aload_n 0, 1) := by decide +kernel
theorem dX3_init_84 : decode cX3_init 84 = .ok (.iconst 0, 1) := by decide +kernel
theorem dX3_init_85 : decode cX3_init 85 = .ok (.putfield 52, 3) := by decide +kernel
theorem dX3_init_88 : decode cX3_init 88 = .ok (.aload_n 0, 1) := by decide +kernel
theorem dX3_init_89 : decode cX3_init 89 = .ok (.iconst 0, 1) := by decide +kernel
theorem dX3_init_90 : decode cX3_init 90 = .ok (.putfield 55, 3) := by decide +kernel
theorem dX3_init_93 : decode cX3_init 93 = .ok (.aload_n 0, 1) := by decide +kernel
theorem dX3_init_94 : decode cX3_init 94 = .ok (.iconst 1, 1) := by decide +kernel
theorem dX3_init_95 : decode cX3_init 95 = .ok (.putfield 58, 3) := by decide +kernel
theorem dX3_init_98 : decode cX3_init 98 = .ok (.iconst 0, 1) := by decide +kernel
theorem dX3_init_99 : decode cX3_init 99 = .ok (.istore_n 1, 1) := by decide +kernel
theorem dX3_init_100 : decode cX3_init 100 = .ok (.iload_n 1, 1) := by decide +kernel
theorem dX3_init_101 : decode cX3_init 101 = .ok (.aload_n 0, 1) := by decide +kernel
theorem dX3_init_102 : decode cX3_init 102 = .ok (.getfield 27, 3) := by decide +kernel
theorem dX3_init_105 : decode cX3_init 105 = .ok (.arraylength, 1) := by decide +kernel
theorem dX3_init_106 : decode cX3_init 106 = .ok (.if_icmp .ge 22, 3) := by decide +kernel
theorem dX3_init_109 : decode cX3_init 109 = .ok (.aload_n 0, 1) := by decide +kernel
theorem dX3_init_110 : decode cX3_init 110 = .ok (.getfield 27, 3) := by decide +kernel
theorem dX3_init_113 : decode cX3_init 113 = .ok (.iload_n 1, 1) := by decide +kernel
theorem dX3_init_114 : decode cX3_init 114 = .ok (.new 25, 3) := by decide +kernel
theorem dX3_init_117 : decode cX3_init 117 = .ok (.dup, 1) := by decide +kernel
theorem dX3_init_118 : decode cX3_init 118 = .ok (.invokespecial 61, 3) := by decide +kernel
theorem dX3_init_121 : decode cX3_init 121 = .ok (.aastore, 1) := by decide +kernel
theorem dX3_init_122 : decode cX3_init 122 = .ok (.iinc 1 1, 3) := by decide +kernel
theorem dX3_init_125 : decode cX3_init 125 = .ok (.goto (-25), 3) := by decide +kernel
theorem dX3_init_128 : decode cX3_init 128 = .ok (.return_, 1) := by decide +kernel
theorem dX3_become_0 : decode cX3_become 0 = .ok (.aload_n 1, 1) := by decide +kernel
theorem dX3_become_1 : decode cX3_become 1 = .ok (.getfield 17, 3) := by decide +kernel
theorem dX3_become_4 : decode cX3_become 4 = .ok (.iconst 0, 1) := by decide +kernel
theorem dX3_become_5 : decode cX3_become 5 = .ok (.aload_n 0, 1) := by decide +kernel
theorem dX3_become_6 : decode cX3_become 6 = .ok (.getfield 17, 3) := by decide +kernel
theorem dX3_become_9 : decode cX3_become 9 = .ok (.iconst 0, 1) := by decide +kernel
theorem dX3_become_10 : decode cX3_become 10 = .ok (.iconst 3, 1) := by decide +kernel
theorem dX3_become_11 : decode cX3_become 11 = .ok (.invokestatic 62, 3) := by decide +kernel
theorem dX3_become_14 : decode cX3_become 14 = .ok (.aload_n 0, 1) := by decide +kernel
theorem dX3_become_15 : decode cX3_become 15 = .ok (.aload_n 1, 1) := by decide +kernel
theorem dX3_become_16 : decode cX3_become 16 = .ok (.getfield 21, 3) := by decide +kernel
theorem dX3_become_19 : decode cX3_become 19 = .ok (.putfield 21, 3) := by decide +kernel
theorem dX3_become_22 : decode cX3_become 22 = .ok (.iconst 0, 1) := by decide +kernel
theorem dX3_become_23 : decode cX3_become 23 = .ok (.istore_n 2, 1) := by decide +kernel
theorem dX3_become_24 : decode cX3_become 24 = .ok (.iload_n 2, 1) := by decide +kernel
theorem dX3_become_25 : decode cX3_become 25 = .ok (.aload_n 0, 1) := by decide +kernel
theorem dX3_become_26 : decode cX3_become 26 = .ok (.getfield 21, 3) := by decide +kernel
theorem dX3_become_29 : decode cX3_become 29 = .ok (.if_icmp .ge 21, 3) := by decide +kernel
theorem dX3_become_32 : decode cX3_become 32 = .ok (.aload_n 0, 1) := by decide +kernel
theorem dX3_become_33 : decode cX3_become 33 = .ok (.getfield 11, 3) := by decide +kernel
theorem dX3_become_36 : decode cX3_become 36 = .ok (.iload_n 2, 1) := by decide +kernel
theorem dX3_become_37 : decode cX3_become 37 = .ok (.aload_n 1, 1) := by decide +kernel
theorem dX3_become_38 : decode cX3_become 38 = .ok (.getfield 11, 3) := by decide +kernel
theorem dX3_become_41 : decode cX3_become 41 = .ok (.iload_n 2, 1) := by decide +kernel
theorem dX3_become_42 : decode cX3_become 42 = .ok (.aaload, 1) := by decide +kernel
theorem dX3_become_43 : decode cX3_become 43 = .ok (.aastore, 1) := by decide +kernel
theorem dX3_become_44 : decode cX3_become 44 = .ok (.iinc 2 1, 3) := by decide +kernel
theorem dX3_become_47 : decode cX3_become 47 = .ok (.goto (-23), 3) := by decide +kernel
theorem dX3_become_50 : decode cX3_become 50 = .ok (.aload_n 0, 1) := by decide +kernel
theorem dX3_become_51 : decode cX3_become 51 = .ok (.aload_n 1, 1) := by decide +kernel
theorem dX3_become_52 : decode cX3_become 52 = .ok (.getfield 31, 3) := by decide +kernel
theorem dX3_become_55 : decode cX3_become 55 = .ok (.putfield 31, 3) := by decide +kernel
theorem dX3_become_58 : decode cX3_become 58 = .ok (.iconst 0, 1) := by decide +kernel
theorem dX3_become_59 : decode cX3_become 59 = .ok (.istore_n 2, 1) := by decide +kernel
theorem dX3_become_60 : decode cX3_become 60 = .ok (.iload_n 2, 1) := by decide +kernel
theorem dX3_become_61 : decode cX3_become 61 = .ok (.aload_n 0, 1) := by decide +kernel
theorem dX3_become_62 : decode cX3_become 62 = .ok (.getfield 31, 3) := by decide +kernel
theorem dX3_become_65 : decode cX3_become 65 = .ok (.if_icmp .ge 24, 3) := by decide +kernel
theorem dX3_become_68 : decode cX3_become 68 = .ok (.aload_n 0, 1) := by decide +kernel
theorem dX3_become_69 : decode cX3_become 69 = .ok (.getfield 27, 3) := by decide +kernel
theorem dX3_become_72 : decode cX3_become 72 = .ok (.iload_n 2, 1) := by decide +kernel
theorem dX3_become_73 : decode cX3_become 73 = .ok (.aaload, 1) := by decide +kernel
theorem dX3_become_74 : decode cX3_become 74 = .ok (.aload_n 1, 1) := by decide +kernel
theorem dX3_become_75 : decode cX3_become 75 = .ok (.getfield 27, 3) := by decide +kernel
theorem dX3_become_78 : decode cX3_become 78 = .ok (.iload_n 2, 1) := by decide +kernel
theorem dX3_become_79 : decode cX3_become 79 = .ok (.aaload, 1) := by decide +kernel
theorem dX3_become_80 : decode cX3_become 80 = .ok (.invokevirtual 68, 3) := by decide +kernel
theorem dX3_become_83 : decode cX3_become 83 = .ok (.iinc 2 1, 3) := by decide +kernel
theorem dX3_become_86 : decode cX3_become 86 = .ok (.goto (-26), 3) := by decide +kernel
theorem dX3_become_89 : decode cX3_become 89 = .ok (.aload_n 0, 1) := by decide +kernel
theorem dX3_become_90 : decode cX3_become 90 = .ok (.aload_n 1, 1) := by decide +kernel
theorem dX3_become_91 : decode cX3_become 91 = .ok (.getfield 34, 3) := by decide +kernel
theorem dX3_become_94 : decode cX3_become 94 = .ok (.putfield 34, 3) := by decide +kernel
theorem dX3_become_97 : decode cX3_become 97 = .ok (.aload_n 0, 1) := by decide +kernel
theorem dX3_become_98 : decode cX3_become 98 = .ok (.aload_n 1, 1) := by decide +kernel
theorem dX3_become_99 : decode cX3_become 99 = .ok (.getfield 37, 3) := by decide +kernel
theorem dX3_become_102 : decode cX3_become 102 = .ok (.putfield 37, 3) := by decide +kernel
theorem dX3_become_105 : decode cX3_become 105 = .ok (.aload_n 0, 1) := by decide +kernel
theorem dX3_become_106 : decode cX3_become 106 = .ok (.aload_n 1, 1) := by decide +kernel
theorem dX3_become_107 : decode cX3_become 107 = .ok (.getfield 40, 3) := by decide +kernel
theorem dX3_become_110 : decode cX3_become 110 = .ok (.putfield 40, 3) := by decide +kernel
theorem dX3_become_113 : decode cX3_become 113 = .ok (.aload_n 0, 1) := by decide +kernel
theorem dX3_become_114 : decode cX3_become 114 = .ok (.aload_n 1, 1) := by decide +kernel
theorem dX3_become_115 : decode cX3_become 115 = .ok (.getfield 43, 3) := by decide +kernel
theorem dX3_become_118 : decode cX3_become 118 = .ok (.putfield 43, 3) := by decide +kernel
theorem dX3_become_121 : decode cX3_become 121 = .ok (.aload_n 0, 1) := by decide +kernel
theorem dX3_become_122 : decode cX3_become 122 = .ok (.aload_n 1, 1) := by decide +kernel
theorem dX3_become_123 : decode cX3_become 123 = .ok (.getfield 46, 3) := by decide +kernel
theorem dX3_become_126 : decode cX3_become 126 = .ok (.putfield 46, 3) := by decide +kernel
theorem dX3_become_129 : decode cX3_become 129 = .ok (.aload_n 0, 1) := by decide +kernel
theorem dX3_become_130 : decode cX3_become 130 = .ok (.aload_n 1, 1) := by decide +kernel
theorem dX3_become_131 : decode cX3_become 131 = .ok (.getfield 49, 3) := by decide +kernel
theorem dX3_become_134 : decode cX3_become 134 = .ok (.putfield 49, 3) := by decide +kernel
theorem dX3_become_137 : decode cX3_become 137 = .ok (.aload_n 0, 1) := by decide +kernel
theorem dX3_become_138 : decode cX3_become 138 = .ok (.aload_n 1, 1) := by decide +kernel
theorem dX3_become_139 : decode cX3_become 139 = .ok (.getfield 52, 3) := by decide +kernel
theorem dX3_become_142 : decode cX3_become 142 = .ok (.putfield 52, 3) := by decide +kernel
theorem dX3_become_145 : decode cX3_become 145 = .ok (.aload_n 0, 1) := by decide +kernel
theorem dX3_become_146 : decode cX3_become 146 = .ok (.aload_n 1, 1) := by decide +kernel
theorem dX3_become_147 : decode cX3_become 147 = .ok (.getfield 55, 3) := by decide +kernel
theorem dX3_become_150 : decode cX3_become 150 = .ok (.putfield 55, 3) := by decide +kernel
theorem dX3_become_153 : decode cX3_become 153 = .ok (.aload_n 0, 1) := by decide +kernel
theorem dX3_become_154 : decode cX3_become 154 = .ok (.aload_n 1, 1) := by decide +kernel
theorem dX3_become_155 : decode cX3_become 155 = .ok (.getfield 58, 3) := by decide +kernel
theorem dX3_become_158 : decode cX3_become 158 = .ok (.putfield 58, 3) := by decide +kernel
theorem dX3_become_161 : decode cX3_become 161 = .ok (.return_, 1) := by decide +kernel
theorem dX3_comerAt_0 : decode cX3_comerAt 0 = .ok (.iload_n 1, 1) := by decide +kernel
theorem dX3_comerAt_1 : decode cX3_comerAt 1 = .ok (.iconst 0, 1) := by decide +kernel
theorem dX3_comerAt_2 : decode cX3_comerAt 2 = .ok (.aload_n 0, 1) := by decide +kernel
theorem dX3_comerAt_3 : decode cX3_comerAt 3 = .ok (.getfield 31, 3) := by decide +kernel
theorem dX3_comerAt_6 : decode cX3_comerAt 6 = .ok (.iconst 1, 1) := by decide +kernel
theorem dX3_comerAt_7 : decode cX3_comerAt 7 = .ok (.isub, 1) := by decide +kernel
theorem dX3_comerAt_8 : decode cX3_comerAt 8 = .ok (.invokestatic 72, 3) := by decide +kernel
theorem dX3_comerAt_11 : decode cX3_comerAt 11 = .ok (.ifCond .eq 12, 3) := by decide +kernel
theorem dX3_comerAt_14 : decode cX3_comerAt 14 = .ok (.aload_n 0, 1) := by decide +kernel
theorem dX3_comerAt_15 : decode cX3_comerAt 15 = .ok (.getfield 27, 3) := by decide +kernel
theorem dX3_comerAt_18 : decode cX3_comerAt 18 = .ok (.iload_n 1, 1) := by decide +kernel
theorem dX3_comerAt_19 : decode cX3_comerAt 19 = .ok (.aaload, 1) := by decide +kernel
theorem dX3_comerAt_20 : decode cX3_comerAt 20 = .ok (.goto 4, 3) := by decide +kernel
theorem dX3_comerAt_23 : decode cX3_comerAt 23 = .ok (.aconst_null, 1) := by decide +kernel
theorem dX3_comerAt_24 : decode cX3_comerAt 24 = .ok (.areturn, 1) := by decide +kernel
theorem dX3_admit_0 : decode cX3_admit 0 = .ok (.aload_n 0, 1) := by decide +kernel
theorem dX3_admit_1 : decode cX3_admit 1 = .ok (.getfield 31, 3) := by decide +kernel
theorem dX3_admit_4 : decode cX3_admit 4 = .ok (.aload_n 0, 1) := by decide +kernel
theorem dX3_admit_5 : decode cX3_admit 5 = .ok (.getfield 27, 3) := by decide +kernel
theorem dX3_admit_8 : decode cX3_admit 8 = .ok (.arraylength, 1) := by decide +kernel
theorem dX3_admit_9 : decode cX3_admit 9 = .ok (.if_icmp .lt 4, 3) := by decide +kernel
theorem dX3_admit_12 : decode cX3_admit 12 = .ok (.return_, 1) := by decide +kernel
theorem dX3_admit_13 : decode cX3_admit 13 = .ok (.aload_n 0, 1) := by decide +kernel
theorem dX3_admit_14 : decode cX3_admit 14 = .ok (.getfield 27, 3) := by decide +kernel
theorem dX3_admit_17 : decode cX3_admit 17 = .ok (.aload_n 0, 1) := by decide +kernel
theorem dX3_admit_18 : decode cX3_admit 18 = .ok (.getfield 31, 3) := by decide +kernel
theorem dX3_admit_21 : decode cX3_admit 21 = .ok (.aaload, 1) := by decide +kernel
theorem dX3_admit_22 : decode cX3_admit 22 = .ok (.iload_n 1, 1) := by decide +kernel
theorem dX3_admit_23 : decode cX3_admit 23 = .ok (.iload_n 2, 1) := by decide +kernel
theorem dX3_admit_24 : decode cX3_admit 24 = .ok (.iload_n 3, 1) := by decide +kernel
theorem dX3_admit_25 : decode cX3_admit 25 = .ok (.iload 4, 2) := by decide +kernel
theorem dX3_admit_27 : decode cX3_admit 27 = .ok (.invokevirtual 76, 3) := by decide +kernel
theorem dX3_admit_30 : decode cX3_admit 30 = .ok (.aload_n 0, 1) := by decide +kernel
theorem dX3_admit_31 : decode cX3_admit 31 = .ok (.dup, 1) := by decide +kernel
theorem dX3_admit_32 : decode cX3_admit 32 = .ok (.getfield 31, 3) := by decide +kernel
theorem dX3_admit_35 : decode cX3_admit 35 = .ok (.iconst 1, 1) := by decide +kernel
theorem dX3_admit_36 : decode cX3_admit 36 = .ok (.iadd, 1) := by decide +kernel
theorem dX3_admit_37 : decode cX3_admit 37 = .ok (.putfield 31, 3) := by decide +kernel
theorem dX3_admit_40 : decode cX3_admit 40 = .ok (.return_, 1) := by decide +kernel
theorem dX3_change_0 : decode cX3_change 0 = .ok (.iload_n 1, 1) := by decide +kernel
theorem dX3_change_1 : decode cX3_change 1 = .ok (.tableswitch 83 0 3 #[31, 44, 57, 70], 31) := by decide +kernel
theorem dX3_change_32 : decode cX3_change 32 = .ok (.aload_n 0, 1) := by decide +kernel
theorem dX3_change_33 : decode cX3_change 33 = .ok (.getfield 34, 3) := by decide +kernel
theorem dX3_change_36 : decode cX3_change 36 = .ok (.istore_n 3, 1) := by decide +kernel
theorem dX3_change_37 : decode cX3_change 37 = .ok (.aload_n 0, 1) := by decide +kernel
theorem dX3_change_38 : decode cX3_change 38 = .ok (.iload_n 2, 1) := by decide +kernel
theorem dX3_change_39 : decode cX3_change 39 = .ok (.putfield 34, 3) := by decide +kernel
theorem dX3_change_42 : decode cX3_change 42 = .ok (.goto 52, 3) := by decide +kernel
theorem dX3_change_45 : decode cX3_change 45 = .ok (.aload_n 0, 1) := by decide +kernel
theorem dX3_change_46 : decode cX3_change 46 = .ok (.getfield 37, 3) := by decide +kernel
theorem dX3_change_49 : decode cX3_change 49 = .ok (.istore_n 3, 1) := by decide +kernel
theorem dX3_change_50 : decode cX3_change 50 = .ok (.aload_n 0, 1) := by decide +kernel
theorem dX3_change_51 : decode cX3_change 51 = .ok (.iload_n 2, 1) := by decide +kernel
theorem dX3_change_52 : decode cX3_change 52 = .ok (.putfield 37, 3) := by decide +kernel
theorem dX3_change_55 : decode cX3_change 55 = .ok (.goto 39, 3) := by decide +kernel
theorem dX3_change_58 : decode cX3_change 58 = .ok (.aload_n 0, 1) := by decide +kernel
theorem dX3_change_59 : decode cX3_change 59 = .ok (.getfield 40, 3) := by decide +kernel
theorem dX3_change_62 : decode cX3_change 62 = .ok (.istore_n 3, 1) := by decide +kernel
theorem dX3_change_63 : decode cX3_change 63 = .ok (.aload_n 0, 1) := by decide +kernel
theorem dX3_change_64 : decode cX3_change 64 = .ok (.iload_n 2, 1) := by decide +kernel
theorem dX3_change_65 : decode cX3_change 65 = .ok (.putfield 40, 3) := by decide +kernel
theorem dX3_change_68 : decode cX3_change 68 = .ok (.goto 26, 3) := by decide +kernel
theorem dX3_change_71 : decode cX3_change 71 = .ok (.aload_n 0, 1) := by decide +kernel
theorem dX3_change_72 : decode cX3_change 72 = .ok (.getfield 43, 3) := by decide +kernel
theorem dX3_change_75 : decode cX3_change 75 = .ok (.istore_n 3, 1) := by decide +kernel
theorem dX3_change_76 : decode cX3_change 76 = .ok (.aload_n 0, 1) := by decide +kernel
theorem dX3_change_77 : decode cX3_change 77 = .ok (.iload_n 2, 1) := by decide +kernel
theorem dX3_change_78 : decode cX3_change 78 = .ok (.putfield 43, 3) := by decide +kernel
theorem dX3_change_81 : decode cX3_change 81 = .ok (.goto 13, 3) := by decide +kernel
theorem dX3_change_84 : decode cX3_change 84 = .ok (.aload_n 0, 1) := by decide +kernel
theorem dX3_change_85 : decode cX3_change 85 = .ok (.getfield 46, 3) := by decide +kernel
theorem dX3_change_88 : decode cX3_change 88 = .ok (.istore_n 3, 1) := by decide +kernel
theorem dX3_change_89 : decode cX3_change 89 = .ok (.aload_n 0, 1) := by decide +kernel
theorem dX3_change_90 : decode cX3_change 90 = .ok (.iload_n 2, 1) := by decide +kernel
theorem dX3_change_91 : decode cX3_change 91 = .ok (.putfield 46, 3) := by decide +kernel
theorem dX3_change_94 : decode cX3_change 94 = .ok (.iload_n 3, 1) := by decide +kernel
theorem dX3_change_95 : decode cX3_change 95 = .ok (.ireturn, 1) := by decide +kernel
theorem dX3_draw_0 : decode cX3_draw 0 = .ok (.aload_n 0, 1) := by decide +kernel
theorem dX3_draw_1 : decode cX3_draw 1 = .ok (.aload_n 0, 1) := by decide +kernel
theorem dX3_draw_2 : decode cX3_draw 2 = .ok (.getfield 58, 3) := by decide +kernel
theorem dX3_draw_5 : decode cX3_draw 5 = .ok (.ldc 80, 2) := by decide +kernel
theorem dX3_draw_7 : decode cX3_draw 7 = .ok (.imul, 1) := by decide +kernel
theorem dX3_draw_8 : decode cX3_draw 8 = .ok (.sipush 12345, 3) := by decide +kernel
theorem dX3_draw_11 : decode cX3_draw 11 = .ok (.iadd, 1) := by decide +kernel
theorem dX3_draw_12 : decode cX3_draw 12 = .ok (.putfield 58, 3) := by decide +kernel
theorem dX3_draw_15 : decode cX3_draw 15 = .ok (.aload_n 0, 1) := by decide +kernel
theorem dX3_draw_16 : decode cX3_draw 16 = .ok (.getfield 58, 3) := by decide +kernel
theorem dX3_draw_19 : decode cX3_draw 19 = .ok (.bipush 8, 2) := by decide +kernel
theorem dX3_draw_21 : decode cX3_draw 21 = .ok (.iushr, 1) := by decide +kernel
theorem dX3_draw_22 : decode cX3_draw 22 = .ok (.ireturn, 1) := by decide +kernel
theorem dX3_addLaw_0 : decode cX3_addLaw 0 = .ok (.aload_n 0, 1) := by decide +kernel
theorem dX3_addLaw_1 : decode cX3_addLaw 1 = .ok (.getfield 21, 3) := by decide +kernel
theorem dX3_addLaw_4 : decode cX3_addLaw 4 = .ok (.aload_n 0, 1) := by decide +kernel
theorem dX3_addLaw_5 : decode cX3_addLaw 5 = .ok (.getfield 11, 3) := by decide +kernel
theorem dX3_addLaw_8 : decode cX3_addLaw 8 = .ok (.arraylength, 1) := by decide +kernel
theorem dX3_addLaw_9 : decode cX3_addLaw 9 = .ok (.if_icmp .ge 15, 3) := by decide +kernel
theorem dX3_addLaw_12 : decode cX3_addLaw 12 = .ok (.aload_n 1, 1) := by decide +kernel
theorem dX3_addLaw_13 : decode cX3_addLaw 13 = .ok (.getfield 81, 3) := by decide +kernel
theorem dX3_addLaw_16 : decode cX3_addLaw 16 = .ok (.iconst 0, 1) := by decide +kernel
theorem dX3_addLaw_17 : decode cX3_addLaw 17 = .ok (.iconst 2, 1) := by decide +kernel
theorem dX3_addLaw_18 : decode cX3_addLaw 18 = .ok (.invokestatic 72, 3) := by decide +kernel
theorem dX3_addLaw_21 : decode cX3_addLaw 21 = .ok (.ifCond .ne 4, 3) := by decide +kernel
theorem dX3_addLaw_24 : decode cX3_addLaw 24 = .ok (.return_, 1) := by decide +kernel
theorem dX3_addLaw_25 : decode cX3_addLaw 25 = .ok (.aload_n 0, 1) := by decide +kernel
theorem dX3_addLaw_26 : decode cX3_addLaw 26 = .ok (.getfield 11, 3) := by decide +kernel
theorem dX3_addLaw_29 : decode cX3_addLaw 29 = .ok (.aload_n 0, 1) := by decide +kernel
theorem dX3_addLaw_30 : decode cX3_addLaw 30 = .ok (.getfield 21, 3) := by decide +kernel
theorem dX3_addLaw_33 : decode cX3_addLaw 33 = .ok (.aload_n 1, 1) := by decide +kernel
theorem dX3_addLaw_34 : decode cX3_addLaw 34 = .ok (.aastore, 1) := by decide +kernel
theorem dX3_addLaw_35 : decode cX3_addLaw 35 = .ok (.aload_n 0, 1) := by decide +kernel
theorem dX3_addLaw_36 : decode cX3_addLaw 36 = .ok (.getfield 17, 3) := by decide +kernel
theorem dX3_addLaw_39 : decode cX3_addLaw 39 = .ok (.aload_n 1, 1) := by decide +kernel
theorem dX3_addLaw_40 : decode cX3_addLaw 40 = .ok (.getfield 81, 3) := by decide +kernel
theorem dX3_addLaw_43 : decode cX3_addLaw 43 = .ok (.aload_n 0, 1) := by decide +kernel
theorem dX3_addLaw_44 : decode cX3_addLaw 44 = .ok (.getfield 21, 3) := by decide +kernel
theorem dX3_addLaw_47 : decode cX3_addLaw 47 = .ok (.iastore, 1) := by decide +kernel
theorem dX3_addLaw_48 : decode cX3_addLaw 48 = .ok (.aload_n 0, 1) := by decide +kernel
theorem dX3_addLaw_49 : decode cX3_addLaw 49 = .ok (.dup, 1) := by decide +kernel
theorem dX3_addLaw_50 : decode cX3_addLaw 50 = .ok (.getfield 21, 3) := by decide +kernel
theorem dX3_addLaw_53 : decode cX3_addLaw 53 = .ok (.iconst 1, 1) := by decide +kernel
theorem dX3_addLaw_54 : decode cX3_addLaw 54 = .ok (.iadd, 1) := by decide +kernel
theorem dX3_addLaw_55 : decode cX3_addLaw 55 = .ok (.putfield 21, 3) := by decide +kernel
theorem dX3_addLaw_58 : decode cX3_addLaw 58 = .ok (.return_, 1) := by decide +kernel
theorem dX3_lawAt_0 : decode cX3_lawAt 0 = .ok (.iload_n 1, 1) := by decide +kernel
theorem dX3_lawAt_1 : decode cX3_lawAt 1 = .ok (.iconst 0, 1) := by decide +kernel
theorem dX3_lawAt_2 : decode cX3_lawAt 2 = .ok (.aload_n 0, 1) := by decide +kernel
theorem dX3_lawAt_3 : decode cX3_lawAt 3 = .ok (.getfield 21, 3) := by decide +kernel
theorem dX3_lawAt_6 : decode cX3_lawAt 6 = .ok (.iconst 1, 1) := by decide +kernel
theorem dX3_lawAt_7 : decode cX3_lawAt 7 = .ok (.isub, 1) := by decide +kernel
theorem dX3_lawAt_8 : decode cX3_lawAt 8 = .ok (.invokestatic 72, 3) := by decide +kernel
theorem dX3_lawAt_11 : decode cX3_lawAt 11 = .ok (.ifCond .eq 12, 3) := by decide +kernel
theorem dX3_lawAt_14 : decode cX3_lawAt 14 = .ok (.aload_n 0, 1) := by decide +kernel
theorem dX3_lawAt_15 : decode cX3_lawAt 15 = .ok (.getfield 11, 3) := by decide +kernel
theorem dX3_lawAt_18 : decode cX3_lawAt 18 = .ok (.iload_n 1, 1) := by decide +kernel
theorem dX3_lawAt_19 : decode cX3_lawAt 19 = .ok (.aaload, 1) := by decide +kernel
theorem dX3_lawAt_20 : decode cX3_lawAt 20 = .ok (.goto 4, 3) := by decide +kernel
theorem dX3_lawAt_23 : decode cX3_lawAt 23 = .ok (.aconst_null, 1) := by decide +kernel
theorem dX3_lawAt_24 : decode cX3_lawAt 24 = .ok (.areturn, 1) := by decide +kernel
theorem dX3_lawOf_0 : decode cX3_lawOf 0 = .ok (.iload_n 1, 1) := by decide +kernel
theorem dX3_lawOf_1 : decode cX3_lawOf 1 = .ok (.iconst 0, 1) := by decide +kernel
theorem dX3_lawOf_2 : decode cX3_lawOf 2 = .ok (.iconst 2, 1) := by decide +kernel
theorem dX3_lawOf_3 : decode cX3_lawOf 3 = .ok (.invokestatic 72, 3) := by decide +kernel
theorem dX3_lawOf_6 : decode cX3_lawOf 6 = .ok (.ifCond .eq 16, 3) := by decide +kernel
theorem dX3_lawOf_9 : decode cX3_lawOf 9 = .ok (.aload_n 0, 1) := by decide +kernel
theorem dX3_lawOf_10 : decode cX3_lawOf 10 = .ok (.aload_n 0, 1) := by decide +kernel
theorem dX3_lawOf_11 : decode cX3_lawOf 11 = .ok (.getfield 17, 3) := by decide +kernel
theorem dX3_lawOf_14 : decode cX3_lawOf 14 = .ok (.iload_n 1, 1) := by decide +kernel
theorem dX3_lawOf_15 : decode cX3_lawOf 15 = .ok (.iaload, 1) := by decide +kernel
theorem dX3_lawOf_16 : decode cX3_lawOf 16 = .ok (.invokevirtual 84, 3) := by decide +kernel
theorem dX3_lawOf_19 : decode cX3_lawOf 19 = .ok (.goto 4, 3) := by decide +kernel
theorem dX3_lawOf_22 : decode cX3_lawOf 22 = .ok (.aconst_null, 1) := by decide +kernel
theorem dX3_lawOf_23 : decode cX3_lawOf 23 = .ok (.areturn, 1) := by decide +kernel
theorem dX3_standing_0 : decode cX3_standing 0 = .ok (.iconst 0, 1) := by decide +kernel
theorem dX3_standing_1 : decode cX3_standing 1 = .ok (.istore_n 1, 1) := by decide +kernel
theorem dX3_standing_2 : decode cX3_standing 2 = .ok (.iconst 0, 1) := by decide +kernel
theorem dX3_standing_3 : decode cX3_standing 3 = .ok (.istore_n 2, 1) := by decide +kernel
theorem dX3_standing_4 : decode cX3_standing 4 = .ok (.iload_n 2, 1) := by decide +kernel
theorem dX3_standing_5 : decode cX3_standing 5 = .ok (.aload_n 0, 1) := by decide +kernel
theorem dX3_standing_6 : decode cX3_standing 6 = .ok (.getfield 31, 3) := by decide +kernel
theorem dX3_standing_9 : decode cX3_standing 9 = .ok (.if_icmp .ge 25, 3) := by decide +kernel
theorem dX3_standing_12 : decode cX3_standing 12 = .ok (.aload_n 0, 1) := by decide +kernel
theorem dX3_standing_13 : decode cX3_standing 13 = .ok (.getfield 27, 3) := by decide +kernel
theorem dX3_standing_16 : decode cX3_standing 16 = .ok (.iload_n 2, 1) := by decide +kernel
theorem dX3_standing_17 : decode cX3_standing 17 = .ok (.aaload, 1) := by decide +kernel
theorem dX3_standing_18 : decode cX3_standing 18 = .ok (.getfield 88, 3) := by decide +kernel
theorem dX3_standing_21 : decode cX3_standing 21 = .ok (.iconst 2, 1) := by decide +kernel
theorem dX3_standing_22 : decode cX3_standing 22 = .ok (.if_icmp .ne 6, 3) := by decide +kernel
theorem dX3_standing_25 : decode cX3_standing 25 = .ok (.iinc 1 1, 3) := by decide +kernel
theorem dX3_standing_28 : decode cX3_standing 28 = .ok (.iinc 2 1, 3) := by decide +kernel
theorem dX3_standing_31 : decode cX3_standing 31 = .ok (.goto (-27), 3) := by decide +kernel
theorem dX3_standing_34 : decode cX3_standing 34 = .ok (.iload_n 1, 1) := by decide +kernel
theorem dX3_standing_35 : decode cX3_standing 35 = .ok (.ireturn, 1) := by decide +kernel
theorem dX3_gotOfAll_0 : decode cX3_gotOfAll 0 = .ok (.iconst 0, 1) := by decide +kernel
theorem dX3_gotOfAll_1 : decode cX3_gotOfAll 1 = .ok (.istore_n 1, 1) := by decide +kernel
theorem dX3_gotOfAll_2 : decode cX3_gotOfAll 2 = .ok (.iconst 0, 1) := by decide +kernel
theorem dX3_gotOfAll_3 : decode cX3_gotOfAll 3 = .ok (.istore_n 2, 1) := by decide +kernel
theorem dX3_gotOfAll_4 : decode cX3_gotOfAll 4 = .ok (.iload_n 2, 1) := by decide +kernel
theorem dX3_gotOfAll_5 : decode cX3_gotOfAll 5 = .ok (.aload_n 0, 1) := by decide +kernel
theorem dX3_gotOfAll_6 : decode cX3_gotOfAll 6 = .ok (.getfield 31, 3) := by decide +kernel
theorem dX3_gotOfAll_9 : decode cX3_gotOfAll 9 = .ok (.if_icmp .ge 21, 3) := by decide +kernel
theorem dX3_gotOfAll_12 : decode cX3_gotOfAll 12 = .ok (.iload_n 1, 1) := by decide +kernel
theorem dX3_gotOfAll_13 : decode cX3_gotOfAll 13 = .ok (.aload_n 0, 1) := by decide +kernel
theorem dX3_gotOfAll_14 : decode cX3_gotOfAll 14 = .ok (.getfield 27, 3) := by decide +kernel
theorem dX3_gotOfAll_17 : decode cX3_gotOfAll 17 = .ok (.iload_n 2, 1) := by decide +kernel
theorem dX3_gotOfAll_18 : decode cX3_gotOfAll 18 = .ok (.aaload, 1) := by decide +kernel
theorem dX3_gotOfAll_19 : decode cX3_gotOfAll 19 = .ok (.getfield 91, 3) := by decide +kernel
theorem dX3_gotOfAll_22 : decode cX3_gotOfAll 22 = .ok (.iadd, 1) := by decide +kernel
theorem dX3_gotOfAll_23 : decode cX3_gotOfAll 23 = .ok (.istore_n 1, 1) := by decide +kernel
theorem dX3_gotOfAll_24 : decode cX3_gotOfAll 24 = .ok (.iinc 2 1, 3) := by decide +kernel
theorem dX3_gotOfAll_27 : decode cX3_gotOfAll 27 = .ok (.goto (-23), 3) := by decide +kernel
theorem dX3_gotOfAll_30 : decode cX3_gotOfAll 30 = .ok (.iload_n 1, 1) := by decide +kernel
theorem dX3_gotOfAll_31 : decode cX3_gotOfAll 31 = .ok (.ireturn, 1) := by decide +kernel
theorem dX3_emptyOfAll_0 : decode cX3_emptyOfAll 0 = .ok (.iconst 0, 1) := by decide +kernel
theorem dX3_emptyOfAll_1 : decode cX3_emptyOfAll 1 = .ok (.istore_n 1, 1) := by decide +kernel
theorem dX3_emptyOfAll_2 : decode cX3_emptyOfAll 2 = .ok (.iconst 0, 1) := by decide +kernel
theorem dX3_emptyOfAll_3 : decode cX3_emptyOfAll 3 = .ok (.istore_n 2, 1) := by decide +kernel
theorem dX3_emptyOfAll_4 : decode cX3_emptyOfAll 4 = .ok (.iload_n 2, 1) := by decide +kernel
theorem dX3_emptyOfAll_5 : decode cX3_emptyOfAll 5 = .ok (.aload_n 0, 1) := by decide +kernel
theorem dX3_emptyOfAll_6 : decode cX3_emptyOfAll 6 = .ok (.getfield 31, 3) := by decide +kernel
theorem dX3_emptyOfAll_9 : decode cX3_emptyOfAll 9 = .ok (.if_icmp .ge 21, 3) := by decide +kernel
theorem dX3_emptyOfAll_12 : decode cX3_emptyOfAll 12 = .ok (.iload_n 1, 1) := by decide +kernel
theorem dX3_emptyOfAll_13 : decode cX3_emptyOfAll 13 = .ok (.aload_n 0, 1) := by decide +kernel
theorem dX3_emptyOfAll_14 : decode cX3_emptyOfAll 14 = .ok (.getfield 27, 3) := by decide +kernel
theorem dX3_emptyOfAll_17 : decode cX3_emptyOfAll 17 = .ok (.iload_n 2, 1) := by decide +kernel
theorem dX3_emptyOfAll_18 : decode cX3_emptyOfAll 18 = .ok (.aaload, 1) := by decide +kernel
theorem dX3_emptyOfAll_19 : decode cX3_emptyOfAll 19 = .ok (.getfield 94, 3) := by decide +kernel
theorem dX3_emptyOfAll_22 : decode cX3_emptyOfAll 22 = .ok (.iadd, 1) := by decide +kernel
theorem dX3_emptyOfAll_23 : decode cX3_emptyOfAll 23 = .ok (.istore_n 1, 1) := by decide +kernel
theorem dX3_emptyOfAll_24 : decode cX3_emptyOfAll 24 = .ok (.iinc 2 1, 3) := by decide +kernel
theorem dX3_emptyOfAll_27 : decode cX3_emptyOfAll 27 = .ok (.goto (-23), 3) := by decide +kernel
theorem dX3_emptyOfAll_30 : decode cX3_emptyOfAll 30 = .ok (.iload_n 1, 1) := by decide +kernel
theorem dX3_emptyOfAll_31 : decode cX3_emptyOfAll 31 = .ok (.ireturn, 1) := by decide +kernel
theorem dX3_visitsOfAll_0 : decode cX3_visitsOfAll 0 = .ok (.iconst 0, 1) := by decide +kernel
theorem dX3_visitsOfAll_1 : decode cX3_visitsOfAll 1 = .ok (.istore_n 1, 1) := by decide +kernel
theorem dX3_visitsOfAll_2 : decode cX3_visitsOfAll 2 = .ok (.iconst 0, 1) := by decide +kernel
theorem dX3_visitsOfAll_3 : decode cX3_visitsOfAll 3 = .ok (.istore_n 2, 1) := by decide +kernel
theorem dX3_visitsOfAll_4 : decode cX3_visitsOfAll 4 = .ok (.iload_n 2, 1) := by decide +kernel
theorem dX3_visitsOfAll_5 : decode cX3_visitsOfAll 5 = .ok (.aload_n 0, 1) := by decide +kernel
theorem dX3_visitsOfAll_6 : decode cX3_visitsOfAll 6 = .ok (.getfield 31, 3) := by decide +kernel
theorem dX3_visitsOfAll_9 : decode cX3_visitsOfAll 9 = .ok (.if_icmp .ge 21, 3) := by decide +kernel
theorem dX3_visitsOfAll_12 : decode cX3_visitsOfAll 12 = .ok (.iload_n 1, 1) := by decide +kernel
theorem dX3_visitsOfAll_13 : decode cX3_visitsOfAll 13 = .ok (.aload_n 0, 1) := by decide +kernel
theorem dX3_visitsOfAll_14 : decode cX3_visitsOfAll 14 = .ok (.getfield 27, 3) := by decide +kernel
theorem dX3_visitsOfAll_17 : decode cX3_visitsOfAll 17 = .ok (.iload_n 2, 1) := by decide +kernel
theorem dX3_visitsOfAll_18 : decode cX3_visitsOfAll 18 = .ok (.aaload, 1) := by decide +kernel
theorem dX3_visitsOfAll_19 : decode cX3_visitsOfAll 19 = .ok (.getfield 97, 3) := by decide +kernel
theorem dX3_visitsOfAll_22 : decode cX3_visitsOfAll 22 = .ok (.iadd, 1) := by decide +kernel
theorem dX3_visitsOfAll_23 : decode cX3_visitsOfAll 23 = .ok (.istore_n 1, 1) := by decide +kernel
theorem dX3_visitsOfAll_24 : decode cX3_visitsOfAll 24 = .ok (.iinc 2 1, 3) := by decide +kernel
theorem dX3_visitsOfAll_27 : decode cX3_visitsOfAll 27 = .ok (.goto (-23), 3) := by decide +kernel
theorem dX3_visitsOfAll_30 : decode cX3_visitsOfAll 30 = .ok (.iload_n 1, 1) := by decide +kernel
theorem dX3_visitsOfAll_31 : decode cX3_visitsOfAll 31 = .ok (.ireturn, 1) := by decide +kernel
theorem dX3_leaveHolds_0 : decode cX3_leaveHolds 0 = .ok (.aload_n 0, 1) := by decide +kernel
theorem dX3_leaveHolds_1 : decode cX3_leaveHolds 1 = .ok (.iconst 0, 1) := by decide +kernel
theorem dX3_leaveHolds_2 : decode cX3_leaveHolds 2 = .ok (.invokevirtual 100, 3) := by decide +kernel
theorem dX3_leaveHolds_5 : decode cX3_leaveHolds 5 = .ok (.astore_n 2, 1) := by decide +kernel
theorem dX3_leaveHolds_6 : decode cX3_leaveHolds 6 = .ok (.aload_n 2, 1) := by decide +kernel
theorem dX3_leaveHolds_7 : decode cX3_leaveHolds 7 = .ok (.ifnonnull 23, 3) := by decide +kernel
theorem dX3_leaveHolds_10 : decode cX3_leaveHolds 10 = .ok (.aload_n 0, 1) := by decide +kernel
theorem dX3_leaveHolds_11 : decode cX3_leaveHolds 11 = .ok (.getfield 52, 3) := by decide +kernel
theorem dX3_leaveHolds_14 : decode cX3_leaveHolds 14 = .ok (.bipush 60, 2) := by decide +kernel
theorem dX3_leaveHolds_16 : decode cX3_leaveHolds 16 = .ok (.irem, 1) := by decide +kernel
theorem dX3_leaveHolds_17 : decode cX3_leaveHolds 17 = .ok (.aload_n 1, 1) := by decide +kernel
theorem dX3_leaveHolds_18 : decode cX3_leaveHolds 18 = .ok (.getfield 103, 3) := by decide +kernel
theorem dX3_leaveHolds_21 : decode cX3_leaveHolds 21 = .ok (.if_icmp .ne 7, 3) := by decide +kernel
theorem dX3_leaveHolds_24 : decode cX3_leaveHolds 24 = .ok (.iconst 1, 1) := by decide +kernel
theorem dX3_leaveHolds_25 : decode cX3_leaveHolds 25 = .ok (.goto 4, 3) := by decide +kernel
theorem dX3_leaveHolds_28 : decode cX3_leaveHolds 28 = .ok (.iconst 0, 1) := by decide +kernel
theorem dX3_leaveHolds_29 : decode cX3_leaveHolds 29 = .ok (.ireturn, 1) := by decide +kernel
theorem dX3_leaveHolds_30 : decode cX3_leaveHolds 30 = .ok (.aload_n 2, 1) := by decide +kernel
theorem dX3_leaveHolds_31 : decode cX3_leaveHolds 31 = .ok (.aload_n 0, 1) := by decide +kernel
theorem dX3_leaveHolds_32 : decode cX3_leaveHolds 32 = .ok (.getfield 52, 3) := by decide +kernel
theorem dX3_leaveHolds_35 : decode cX3_leaveHolds 35 = .ok (.sipush 1440, 3) := by decide +kernel
theorem dX3_leaveHolds_38 : decode cX3_leaveHolds 38 = .ok (.irem, 1) := by decide +kernel
theorem dX3_leaveHolds_39 : decode cX3_leaveHolds 39 = .ok (.aload_n 1, 1) := by decide +kernel
theorem dX3_leaveHolds_40 : decode cX3_leaveHolds 40 = .ok (.getfield 106, 3) := by decide +kernel
theorem dX3_leaveHolds_43 : decode cX3_leaveHolds 43 = .ok (.aload_n 1, 1) := by decide +kernel
theorem dX3_leaveHolds_44 : decode cX3_leaveHolds 44 = .ok (.getfield 103, 3) := by decide +kernel
theorem dX3_leaveHolds_47 : decode cX3_leaveHolds 47 = .ok (.invokevirtual 109, 3) := by decide +kernel
theorem dX3_leaveHolds_50 : decode cX3_leaveHolds 50 = .ok (.ifCond .eq 7, 3) := by decide +kernel
theorem dX3_leaveHolds_53 : decode cX3_leaveHolds 53 = .ok (.iconst 1, 1) := by decide +kernel
theorem dX3_leaveHolds_54 : decode cX3_leaveHolds 54 = .ok (.goto 4, 3) := by decide +kernel
theorem dX3_leaveHolds_57 : decode cX3_leaveHolds 57 = .ok (.iconst 0, 1) := by decide +kernel
theorem dX3_leaveHolds_58 : decode cX3_leaveHolds 58 = .ok (.ireturn, 1) := by decide +kernel
theorem dX3_wouldLeave_0 : decode cX3_wouldLeave 0 = .ok (.aload_n 1, 1) := by decide +kernel
theorem dX3_wouldLeave_1 : decode cX3_wouldLeave 1 = .ok (.getfield 113, 3) := by decide +kernel
theorem dX3_wouldLeave_4 : decode cX3_wouldLeave 4 = .ok (.tableswitch 98 1 5 #[36, 98, 53, 98, 77], 36) := by decide +kernel
theorem dX3_wouldLeave_40 : decode cX3_wouldLeave 40 = .ok (.aload_n 1, 1) := by decide +kernel
theorem dX3_wouldLeave_41 : decode cX3_wouldLeave 41 = .ok (.getfield 106, 3) := by decide +kernel
theorem dX3_wouldLeave_44 : decode cX3_wouldLeave 44 = .ok (.aload_n 1, 1) := by decide +kernel
theorem dX3_wouldLeave_45 : decode cX3_wouldLeave 45 = .ok (.getfield 103, 3) := by decide +kernel
theorem dX3_wouldLeave_48 : decode cX3_wouldLeave 48 = .ok (.if_icmp .lt 7, 3) := by decide +kernel
theorem dX3_wouldLeave_51 : decode cX3_wouldLeave 51 = .ok (.iconst 1, 1) := by decide +kernel
theorem dX3_wouldLeave_52 : decode cX3_wouldLeave 52 = .ok (.goto 4, 3) := by decide +kernel
theorem dX3_wouldLeave_55 : decode cX3_wouldLeave 55 = .ok (.iconst 0, 1) := by decide +kernel
theorem dX3_wouldLeave_56 : decode cX3_wouldLeave 56 = .ok (.ireturn, 1) := by decide +kernel
theorem dX3_wouldLeave_57 : decode cX3_wouldLeave 57 = .ok (.aload_n 1, 1) := by decide +kernel
theorem dX3_wouldLeave_58 : decode cX3_wouldLeave 58 = .ok (.getfield 106, 3) := by decide +kernel
theorem dX3_wouldLeave_61 : decode cX3_wouldLeave 61 = .ok (.aload_n 1, 1) := by decide +kernel
theorem dX3_wouldLeave_62 : decode cX3_wouldLeave 62 = .ok (.getfield 103, 3) := by decide +kernel
theorem dX3_wouldLeave_65 : decode cX3_wouldLeave 65 = .ok (.if_icmp .lt 14, 3) := by decide +kernel
theorem dX3_wouldLeave_68 : decode cX3_wouldLeave 68 = .ok (.aload_n 0, 1) := by decide +kernel
theorem dX3_wouldLeave_69 : decode cX3_wouldLeave 69 = .ok (.getfield 40, 3) := by decide +kernel
theorem dX3_wouldLeave_72 : decode cX3_wouldLeave 72 = .ok (.ifCond .le 7, 3) := by decide +kernel
theorem dX3_wouldLeave_75 : decode cX3_wouldLeave 75 = .ok (.iconst 1, 1) := by decide +kernel
theorem dX3_wouldLeave_76 : decode cX3_wouldLeave 76 = .ok (.goto 4, 3) := by decide +kernel
theorem dX3_wouldLeave_79 : decode cX3_wouldLeave 79 = .ok (.iconst 0, 1) := by decide +kernel
theorem dX3_wouldLeave_80 : decode cX3_wouldLeave 80 = .ok (.ireturn, 1) := by decide +kernel
theorem dX3_wouldLeave_81 : decode cX3_wouldLeave 81 = .ok (.aload_n 0, 1) := by decide +kernel
theorem dX3_wouldLeave_82 : decode cX3_wouldLeave 82 = .ok (.invokevirtual 116, 3) := by decide +kernel
theorem dX3_wouldLeave_85 : decode cX3_wouldLeave 85 = .ok (.ifCond .ne 15, 3) := by decide +kernel
theorem dX3_wouldLeave_88 : decode cX3_wouldLeave 88 = .ok (.aload_n 0, 1) := by decide +kernel
theorem dX3_wouldLeave_89 : decode cX3_wouldLeave 89 = .ok (.aload_n 1, 1) := by decide +kernel
theorem dX3_wouldLeave_90 : decode cX3_wouldLeave 90 = .ok (.invokevirtual 120, 3) := by decide +kernel
theorem dX3_wouldLeave_93 : decode cX3_wouldLeave 93 = .ok (.ifCond .eq 7, 3) := by decide +kernel
theorem dX3_wouldLeave_96 : decode cX3_wouldLeave 96 = .ok (.iconst 1, 1) := by decide +kernel
theorem dX3_wouldLeave_97 : decode cX3_wouldLeave 97 = .ok (.goto 4, 3) := by decide +kernel
theorem dX3_wouldLeave_100 : decode cX3_wouldLeave 100 = .ok (.iconst 0, 1) := by decide +kernel
theorem dX3_wouldLeave_101 : decode cX3_wouldLeave 101 = .ok (.ireturn, 1) := by decide +kernel
theorem dX3_wouldLeave_102 : decode cX3_wouldLeave 102 = .ok (.aload_n 0, 1) := by decide +kernel
theorem dX3_wouldLeave_103 : decode cX3_wouldLeave 103 = .ok (.aload_n 1, 1) := by decide +kernel
theorem dX3_wouldLeave_104 : decode cX3_wouldLeave 104 = .ok (.invokevirtual 120, 3) := by decide +kernel
theorem dX3_wouldLeave_107 : decode cX3_wouldLeave 107 = .ok (.ireturn, 1) := by decide +kernel
theorem dX3_stayGives_0 : decode cX3_stayGives 0 = .ok (.aload_n 0, 1) := by decide +kernel
theorem dX3_stayGives_1 : decode cX3_stayGives 1 = .ok (.iconst 1, 1) := by decide +kernel
theorem dX3_stayGives_2 : decode cX3_stayGives 2 = .ok (.invokevirtual 100, 3) := by decide +kernel
theorem dX3_stayGives_5 : decode cX3_stayGives 5 = .ok (.astore_n 2, 1) := by decide +kernel
theorem dX3_stayGives_6 : decode cX3_stayGives 6 = .ok (.aload_n 2, 1) := by decide +kernel
theorem dX3_stayGives_7 : decode cX3_stayGives 7 = .ok (.ifnonnull 7, 3) := by decide +kernel
theorem dX3_stayGives_10 : decode cX3_stayGives 10 = .ok (.iconst 0, 1) := by decide +kernel
theorem dX3_stayGives_11 : decode cX3_stayGives 11 = .ok (.goto 25, 3) := by decide +kernel
theorem dX3_stayGives_14 : decode cX3_stayGives 14 = .ok (.aload_n 2, 1) := by decide +kernel
theorem dX3_stayGives_15 : decode cX3_stayGives 15 = .ok (.aload_n 1, 1) := by decide +kernel
theorem dX3_stayGives_16 : decode cX3_stayGives 16 = .ok (.getfield 103, 3) := by decide +kernel
theorem dX3_stayGives_19 : decode cX3_stayGives 19 = .ok (.aload_n 0, 1) := by decide +kernel
theorem dX3_stayGives_20 : decode cX3_stayGives 20 = .ok (.getfield 40, 3) := by decide +kernel
theorem dX3_stayGives_23 : decode cX3_stayGives 23 = .ok (.aload_n 0, 1) := by decide +kernel
theorem dX3_stayGives_24 : decode cX3_stayGives 24 = .ok (.invokevirtual 116, 3) := by decide +kernel
theorem dX3_stayGives_27 : decode cX3_stayGives 27 = .ok (.invokevirtual 109, 3) := by decide +kernel
theorem dX3_stayGives_30 : decode cX3_stayGives 30 = .ok (.iconst 0, 1) := by decide +kernel
theorem dX3_stayGives_31 : decode cX3_stayGives 31 = .ok (.bipush 99, 2) := by decide +kernel
theorem dX3_stayGives_33 : decode cX3_stayGives 33 = .ok (.invokestatic 124, 3) := by decide +kernel
theorem dX3_stayGives_36 : decode cX3_stayGives 36 = .ok (.ireturn, 1) := by decide +kernel
theorem dX3_staysOf_0 : decode cX3_staysOf 0 = .ok (.aload_n 1, 1) := by decide +kernel
theorem dX3_staysOf_1 : decode cX3_staysOf 1 = .ok (.getfield 113, 3) := by decide +kernel
theorem dX3_staysOf_4 : decode cX3_staysOf 4 = .ok (.lookupswitch 52 #[(2, 28), (4, 39)], 28) := by decide +kernel
theorem dX3_staysOf_32 : decode cX3_staysOf 32 = .ok (.aload_n 0, 1) := by decide +kernel
theorem dX3_staysOf_33 : decode cX3_staysOf 33 = .ok (.aload_n 1, 1) := by decide +kernel
theorem dX3_staysOf_34 : decode cX3_staysOf 34 = .ok (.invokevirtual 127, 3) := by decide +kernel
theorem dX3_staysOf_37 : decode cX3_staysOf 37 = .ok (.aload_n 1, 1) := by decide +kernel
theorem dX3_staysOf_38 : decode cX3_staysOf 38 = .ok (.getfield 103, 3) := by decide +kernel
theorem dX3_staysOf_41 : decode cX3_staysOf 41 = .ok (.iadd, 1) := by decide +kernel
theorem dX3_staysOf_42 : decode cX3_staysOf 42 = .ok (.ireturn, 1) := by decide +kernel
theorem dX3_staysOf_43 : decode cX3_staysOf 43 = .ok (.iconst 2, 1) := by decide +kernel
theorem dX3_staysOf_44 : decode cX3_staysOf 44 = .ok (.aload_n 0, 1) := by decide +kernel
theorem dX3_staysOf_45 : decode cX3_staysOf 45 = .ok (.aload_n 1, 1) := by decide +kernel
theorem dX3_staysOf_46 : decode cX3_staysOf 46 = .ok (.invokevirtual 127, 3) := by decide +kernel
theorem dX3_staysOf_49 : decode cX3_staysOf 49 = .ok (.aload_n 1, 1) := by decide +kernel
theorem dX3_staysOf_50 : decode cX3_staysOf 50 = .ok (.getfield 103, 3) := by decide +kernel
theorem dX3_staysOf_53 : decode cX3_staysOf 53 = .ok (.iadd, 1) := by decide +kernel
theorem dX3_staysOf_54 : decode cX3_staysOf 54 = .ok (.imul, 1) := by decide +kernel
theorem dX3_staysOf_55 : decode cX3_staysOf 55 = .ok (.ireturn, 1) := by decide +kernel
theorem dX3_staysOf_56 : decode cX3_staysOf 56 = .ok (.aload_n 0, 1) := by decide +kernel
theorem dX3_staysOf_57 : decode cX3_staysOf 57 = .ok (.aload_n 1, 1) := by decide +kernel
theorem dX3_staysOf_58 : decode cX3_staysOf 58 = .ok (.invokevirtual 127, 3) := by decide +kernel
theorem dX3_staysOf_61 : decode cX3_staysOf 61 = .ok (.ireturn, 1) := by decide +kernel
theorem dX3_advance_0 : decode cX3_advance 0 = .ok (.iconst 0, 1) := by decide +kernel
theorem dX3_advance_1 : decode cX3_advance 1 = .ok (.istore_n 2, 1) := by decide +kernel
theorem dX3_advance_2 : decode cX3_advance 2 = .ok (.iconst 0, 1) := by decide +kernel
theorem dX3_advance_3 : decode cX3_advance 3 = .ok (.istore_n 3, 1) := by decide +kernel
theorem dX3_advance_4 : decode cX3_advance 4 = .ok (.iload_n 3, 1) := by decide +kernel
theorem dX3_advance_5 : decode cX3_advance 5 = .ok (.iload_n 1, 1) := by decide +kernel
theorem dX3_advance_6 : decode cX3_advance 6 = .ok (.if_icmp .ge 119, 3) := by decide +kernel
theorem dX3_advance_9 : decode cX3_advance 9 = .ok (.aload_n 0, 1) := by decide +kernel
theorem dX3_advance_10 : decode cX3_advance 10 = .ok (.getfield 52, 3) := by decide +kernel
theorem dX3_advance_13 : decode cX3_advance 13 = .ok (.ldc 131, 2) := by decide +kernel
theorem dX3_advance_15 : decode cX3_advance 15 = .ok (.if_icmp .ge 110, 3) := by decide +kernel
theorem dX3_advance_18 : decode cX3_advance 18 = .ok (.iconst 0, 1) := by decide +kernel
theorem dX3_advance_19 : decode cX3_advance 19 = .ok (.istore 4, 2) := by decide +kernel
theorem dX3_advance_21 : decode cX3_advance 21 = .ok (.iload 4, 2) := by decide +kernel
theorem dX3_advance_23 : decode cX3_advance 23 = .ok (.aload_n 0, 1) := by decide +kernel
theorem dX3_advance_24 : decode cX3_advance 24 = .ok (.getfield 31, 3) := by decide +kernel
theorem dX3_advance_27 : decode cX3_advance 27 = .ok (.if_icmp .ge 29, 3) := by decide +kernel
theorem dX3_advance_30 : decode cX3_advance 30 = .ok (.aload_n 0, 1) := by decide +kernel
theorem dX3_advance_31 : decode cX3_advance 31 = .ok (.getfield 27, 3) := by decide +kernel
theorem dX3_advance_34 : decode cX3_advance 34 = .ok (.iload 4, 2) := by decide +kernel
theorem dX3_advance_36 : decode cX3_advance 36 = .ok (.aaload, 1) := by decide +kernel
theorem dX3_advance_37 : decode cX3_advance 37 = .ok (.aload_n 0, 1) := by decide +kernel
theorem dX3_advance_38 : decode cX3_advance 38 = .ok (.getfield 27, 3) := by decide +kernel
theorem dX3_advance_41 : decode cX3_advance 41 = .ok (.iload 4, 2) := by decide +kernel
theorem dX3_advance_43 : decode cX3_advance 43 = .ok (.aaload, 1) := by decide +kernel
theorem dX3_advance_44 : decode cX3_advance 44 = .ok (.getfield 88, 3) := by decide +kernel
theorem dX3_advance_47 : decode cX3_advance 47 = .ok (.putfield 132, 3) := by decide +kernel
theorem dX3_advance_50 : decode cX3_advance 50 = .ok (.iinc 4 1, 3) := by decide +kernel
theorem dX3_advance_53 : decode cX3_advance 53 = .ok (.goto (-32), 3) := by decide +kernel
theorem dX3_advance_56 : decode cX3_advance 56 = .ok (.aload_n 0, 1) := by decide +kernel
theorem dX3_advance_57 : decode cX3_advance 57 = .ok (.invokevirtual 135, 3) := by decide +kernel
theorem dX3_advance_60 : decode cX3_advance 60 = .ok (.aload_n 0, 1) := by decide +kernel
theorem dX3_advance_61 : decode cX3_advance 61 = .ok (.invokevirtual 138, 3) := by decide +kernel
theorem dX3_advance_64 : decode cX3_advance 64 = .ok (.istore 4, 2) := by decide +kernel
theorem dX3_advance_66 : decode cX3_advance 66 = .ok (.aload_n 0, 1) := by decide +kernel
theorem dX3_advance_67 : decode cX3_advance 67 = .ok (.invokevirtual 142, 3) := by decide +kernel
theorem dX3_advance_70 : decode cX3_advance 70 = .ok (.aload_n 0, 1) := by decide +kernel
theorem dX3_advance_71 : decode cX3_advance 71 = .ok (.invokevirtual 145, 3) := by decide +kernel
theorem dX3_advance_74 : decode cX3_advance 74 = .ok (.aload_n 0, 1) := by decide +kernel
theorem dX3_advance_75 : decode cX3_advance 75 = .ok (.invokevirtual 116, 3) := by decide +kernel
theorem dX3_advance_78 : decode cX3_advance 78 = .ok (.ifCond .le 7, 3) := by decide +kernel
theorem dX3_advance_81 : decode cX3_advance 81 = .ok (.iconst 1, 1) := by decide +kernel
theorem dX3_advance_82 : decode cX3_advance 82 = .ok (.goto 4, 3) := by decide +kernel
theorem dX3_advance_85 : decode cX3_advance 85 = .ok (.iconst 0, 1) := by decide +kernel
theorem dX3_advance_86 : decode cX3_advance 86 = .ok (.istore 5, 2) := by decide +kernel
theorem dX3_advance_88 : decode cX3_advance 88 = .ok (.iload 5, 2) := by decide +kernel
theorem dX3_advance_90 : decode cX3_advance 90 = .ok (.ifCond .eq 6, 3) := by decide +kernel
theorem dX3_advance_93 : decode cX3_advance 93 = .ok (.iinc 2 1, 3) := by decide +kernel
theorem dX3_advance_96 : decode cX3_advance 96 = .ok (.aload_n 0, 1) := by decide +kernel
theorem dX3_advance_97 : decode cX3_advance 97 = .ok (.iload 5, 2) := by decide +kernel
theorem dX3_advance_99 : decode cX3_advance 99 = .ok (.ifCond .ne 12, 3) := by decide +kernel
theorem dX3_advance_102 : decode cX3_advance 102 = .ok (.iload 4, 2) := by decide +kernel
theorem dX3_advance_104 : decode cX3_advance 104 = .ok (.ifCond .ne 7, 3) := by decide +kernel
theorem dX3_advance_107 : decode cX3_advance 107 = .ok (.iconst 1, 1) := by decide +kernel
theorem dX3_advance_108 : decode cX3_advance 108 = .ok (.goto 4, 3) := by decide +kernel
theorem dX3_advance_111 : decode cX3_advance 111 = .ok (.iconst 0, 1) := by decide +kernel
theorem dX3_advance_112 : decode cX3_advance 112 = .ok (.invokevirtual 148, 3) := by decide +kernel
theorem dX3_advance_115 : decode cX3_advance 115 = .ok (.aload_n 0, 1) := by decide +kernel
theorem dX3_advance_116 : decode cX3_advance 116 = .ok (.invokevirtual 152, 3) := by decide +kernel
theorem dX3_advance_119 : decode cX3_advance 119 = .ok (.iinc 3 1, 3) := by decide +kernel
theorem dX3_advance_122 : decode cX3_advance 122 = .ok (.goto (-118), 3) := by decide +kernel
theorem dX3_advance_125 : decode cX3_advance 125 = .ok (.iload_n 2, 1) := by decide +kernel
theorem dX3_advance_126 : decode cX3_advance 126 = .ok (.ireturn, 1) := by decide +kernel
theorem dX3_letLeave_0 : decode cX3_letLeave 0 = .ok (.iconst 0, 1) := by decide +kernel
theorem dX3_letLeave_1 : decode cX3_letLeave 1 = .ok (.istore_n 1, 1) := by decide +kernel
theorem dX3_letLeave_2 : decode cX3_letLeave 2 = .ok (.iload_n 1, 1) := by decide +kernel
theorem dX3_letLeave_3 : decode cX3_letLeave 3 = .ok (.aload_n 0, 1) := by decide +kernel
theorem dX3_letLeave_4 : decode cX3_letLeave 4 = .ok (.getfield 31, 3) := by decide +kernel
theorem dX3_letLeave_7 : decode cX3_letLeave 7 = .ok (.if_icmp .ge 81, 3) := by decide +kernel
theorem dX3_letLeave_10 : decode cX3_letLeave 10 = .ok (.aload_n 0, 1) := by decide +kernel
theorem dX3_letLeave_11 : decode cX3_letLeave 11 = .ok (.getfield 27, 3) := by decide +kernel
theorem dX3_letLeave_14 : decode cX3_letLeave 14 = .ok (.iload_n 1, 1) := by decide +kernel
theorem dX3_letLeave_15 : decode cX3_letLeave 15 = .ok (.aaload, 1) := by decide +kernel
theorem dX3_letLeave_16 : decode cX3_letLeave 16 = .ok (.astore_n 2, 1) := by decide +kernel
theorem dX3_letLeave_17 : decode cX3_letLeave 17 = .ok (.aload_n 2, 1) := by decide +kernel
theorem dX3_letLeave_18 : decode cX3_letLeave 18 = .ok (.getfield 88, 3) := by decide +kernel
theorem dX3_letLeave_21 : decode cX3_letLeave 21 = .ok (.ifCond .eq 6, 3) := by decide +kernel
theorem dX3_letLeave_24 : decode cX3_letLeave 24 = .ok (.goto 58, 3) := by decide +kernel
theorem dX3_letLeave_27 : decode cX3_letLeave 27 = .ok (.aload_n 2, 1) := by decide +kernel
theorem dX3_letLeave_28 : decode cX3_letLeave 28 = .ok (.getfield 155, 3) := by decide +kernel
theorem dX3_letLeave_31 : decode cX3_letLeave 31 = .ok (.ifCond .le 41, 3) := by decide +kernel
theorem dX3_letLeave_34 : decode cX3_letLeave 34 = .ok (.aload_n 0, 1) := by decide +kernel
theorem dX3_letLeave_35 : decode cX3_letLeave 35 = .ok (.aload_n 2, 1) := by decide +kernel
theorem dX3_letLeave_36 : decode cX3_letLeave 36 = .ok (.invokevirtual 158, 3) := by decide +kernel
theorem dX3_letLeave_39 : decode cX3_letLeave 39 = .ok (.ifCond .eq 33, 3) := by decide +kernel
theorem dX3_letLeave_42 : decode cX3_letLeave 42 = .ok (.aload_n 0, 1) := by decide +kernel
theorem dX3_letLeave_43 : decode cX3_letLeave 43 = .ok (.invokevirtual 161, 3) := by decide +kernel
theorem dX3_letLeave_46 : decode cX3_letLeave 46 = .ok (.bipush 100, 2) := by decide +kernel
theorem dX3_letLeave_48 : decode cX3_letLeave 48 = .ok (.irem, 1) := by decide +kernel
theorem dX3_letLeave_49 : decode cX3_letLeave 49 = .ok (.aload_n 0, 1) := by decide +kernel
theorem dX3_letLeave_50 : decode cX3_letLeave 50 = .ok (.getfield 46, 3) := by decide +kernel
theorem dX3_letLeave_53 : decode cX3_letLeave 53 = .ok (.if_icmp .lt 19, 3) := by decide +kernel
theorem dX3_letLeave_56 : decode cX3_letLeave 56 = .ok (.aload_n 2, 1) := by decide +kernel
theorem dX3_letLeave_57 : decode cX3_letLeave 57 = .ok (.iconst 1, 1) := by decide +kernel
theorem dX3_letLeave_58 : decode cX3_letLeave 58 = .ok (.putfield 88, 3) := by decide +kernel
theorem dX3_letLeave_61 : decode cX3_letLeave 61 = .ok (.aload_n 2, 1) := by decide +kernel
theorem dX3_letLeave_62 : decode cX3_letLeave 62 = .ok (.aload_n 2, 1) := by decide +kernel
theorem dX3_letLeave_63 : decode cX3_letLeave 63 = .ok (.getfield 164, 3) := by decide +kernel
theorem dX3_letLeave_66 : decode cX3_letLeave 66 = .ok (.putfield 167, 3) := by decide +kernel
theorem dX3_letLeave_69 : decode cX3_letLeave 69 = .ok (.goto 13, 3) := by decide +kernel
theorem dX3_letLeave_72 : decode cX3_letLeave 72 = .ok (.aload_n 2, 1) := by decide +kernel
theorem dX3_letLeave_73 : decode cX3_letLeave 73 = .ok (.dup, 1) := by decide +kernel
theorem dX3_letLeave_74 : decode cX3_letLeave 74 = .ok (.getfield 106, 3) := by decide +kernel
theorem dX3_letLeave_77 : decode cX3_letLeave 77 = .ok (.iconst 1, 1) := by decide +kernel
theorem dX3_letLeave_78 : decode cX3_letLeave 78 = .ok (.iadd, 1) := by decide +kernel
theorem dX3_letLeave_79 : decode cX3_letLeave 79 = .ok (.putfield 106, 3) := by decide +kernel
theorem dX3_letLeave_82 : decode cX3_letLeave 82 = .ok (.iinc 1 1, 3) := by decide +kernel
theorem dX3_letLeave_85 : decode cX3_letLeave 85 = .ok (.goto (-83), 3) := by decide +kernel
theorem dX3_letLeave_88 : decode cX3_letLeave 88 = .ok (.return_, 1) := by decide +kernel
theorem dX3_letCome_0 : decode cX3_letCome 0 = .ok (.iconst 0, 1) := by decide +kernel
theorem dX3_letCome_1 : decode cX3_letCome 1 = .ok (.istore_n 1, 1) := by decide +kernel
theorem dX3_letCome_2 : decode cX3_letCome 2 = .ok (.iconst 0, 1) := by decide +kernel
theorem dX3_letCome_3 : decode cX3_letCome 3 = .ok (.istore_n 2, 1) := by decide +kernel
theorem dX3_letCome_4 : decode cX3_letCome 4 = .ok (.iload_n 2, 1) := by decide +kernel
theorem dX3_letCome_5 : decode cX3_letCome 5 = .ok (.aload_n 0, 1) := by decide +kernel
theorem dX3_letCome_6 : decode cX3_letCome 6 = .ok (.getfield 31, 3) := by decide +kernel
theorem dX3_letCome_9 : decode cX3_letCome 9 = .ok (.if_icmp .ge 51, 3) := by decide +kernel
theorem dX3_letCome_12 : decode cX3_letCome 12 = .ok (.aload_n 0, 1) := by decide +kernel
theorem dX3_letCome_13 : decode cX3_letCome 13 = .ok (.getfield 27, 3) := by decide +kernel
theorem dX3_letCome_16 : decode cX3_letCome 16 = .ok (.iload_n 2, 1) := by decide +kernel
theorem dX3_letCome_17 : decode cX3_letCome 17 = .ok (.aaload, 1) := by decide +kernel
theorem dX3_letCome_18 : decode cX3_letCome 18 = .ok (.astore_n 3, 1) := by decide +kernel
theorem dX3_letCome_19 : decode cX3_letCome 19 = .ok (.aload_n 3, 1) := by decide +kernel
theorem dX3_letCome_20 : decode cX3_letCome 20 = .ok (.getfield 88, 3) := by decide +kernel
theorem dX3_letCome_23 : decode cX3_letCome 23 = .ok (.iconst 1, 1) := by decide +kernel
theorem dX3_letCome_24 : decode cX3_letCome 24 = .ok (.if_icmp .eq 6, 3) := by decide +kernel
theorem dX3_letCome_27 : decode cX3_letCome 27 = .ok (.goto 27, 3) := by decide +kernel
theorem dX3_letCome_30 : decode cX3_letCome 30 = .ok (.aload_n 3, 1) := by decide +kernel
theorem dX3_letCome_31 : decode cX3_letCome 31 = .ok (.dup, 1) := by decide +kernel
theorem dX3_letCome_32 : decode cX3_letCome 32 = .ok (.getfield 167, 3) := by decide +kernel
theorem dX3_letCome_35 : decode cX3_letCome 35 = .ok (.iconst 1, 1) := by decide +kernel
theorem dX3_letCome_36 : decode cX3_letCome 36 = .ok (.isub, 1) := by decide +kernel
theorem dX3_letCome_37 : decode cX3_letCome 37 = .ok (.putfield 167, 3) := by decide +kernel
theorem dX3_letCome_40 : decode cX3_letCome 40 = .ok (.aload_n 3, 1) := by decide +kernel
theorem dX3_letCome_41 : decode cX3_letCome 41 = .ok (.getfield 167, 3) := by decide +kernel
theorem dX3_letCome_44 : decode cX3_letCome 44 = .ok (.ifCond .ne 10, 3) := by decide +kernel
theorem dX3_letCome_47 : decode cX3_letCome 47 = .ok (.iconst 1, 1) := by decide +kernel
theorem dX3_letCome_48 : decode cX3_letCome 48 = .ok (.istore_n 1, 1) := by decide +kernel
theorem dX3_letCome_49 : decode cX3_letCome 49 = .ok (.aload_n 0, 1) := by decide +kernel
theorem dX3_letCome_50 : decode cX3_letCome 50 = .ok (.aload_n 3, 1) := by decide +kernel
theorem dX3_letCome_51 : decode cX3_letCome 51 = .ok (.invokevirtual 170, 3) := by decide +kernel
theorem dX3_letCome_54 : decode cX3_letCome 54 = .ok (.iinc 2 1, 3) := by decide +kernel
theorem dX3_letCome_57 : decode cX3_letCome 57 = .ok (.goto (-53), 3) := by decide +kernel
theorem dX3_letCome_60 : decode cX3_letCome 60 = .ok (.iload_n 1, 1) := by decide +kernel
theorem dX3_letCome_61 : decode cX3_letCome 61 = .ok (.ireturn, 1) := by decide +kernel
theorem dX3_arrive_0 : decode cX3_arrive 0 = .ok (.aload_n 1, 1) := by decide +kernel
theorem dX3_arrive_1 : decode cX3_arrive 1 = .ok (.dup, 1) := by decide +kernel
theorem dX3_arrive_2 : decode cX3_arrive 2 = .ok (.getfield 97, 3) := by decide +kernel
theorem dX3_arrive_5 : decode cX3_arrive 5 = .ok (.iconst 1, 1) := by decide +kernel
theorem dX3_arrive_6 : decode cX3_arrive 6 = .ok (.iadd, 1) := by decide +kernel
theorem dX3_arrive_7 : decode cX3_arrive 7 = .ok (.putfield 97, 3) := by decide +kernel
theorem dX3_arrive_10 : decode cX3_arrive 10 = .ok (.aload_n 0, 1) := by decide +kernel
theorem dX3_arrive_11 : decode cX3_arrive 11 = .ok (.getfield 40, 3) := by decide +kernel
theorem dX3_arrive_14 : decode cX3_arrive 14 = .ok (.ifCond .le 66, 3) := by decide +kernel
theorem dX3_arrive_17 : decode cX3_arrive 17 = .ok (.aload_n 0, 1) := by decide +kernel
theorem dX3_arrive_18 : decode cX3_arrive 18 = .ok (.invokevirtual 116, 3) := by decide +kernel
theorem dX3_arrive_21 : decode cX3_arrive 21 = .ok (.ifCond .ne 59, 3) := by decide +kernel
theorem dX3_arrive_24 : decode cX3_arrive 24 = .ok (.aload_n 0, 1) := by decide +kernel
theorem dX3_arrive_25 : decode cX3_arrive 25 = .ok (.getfield 43, 3) := by decide +kernel
theorem dX3_arrive_28 : decode cX3_arrive 28 = .ok (.aload_n 1, 1) := by decide +kernel
theorem dX3_arrive_29 : decode cX3_arrive 29 = .ok (.getfield 155, 3) := by decide +kernel
theorem dX3_arrive_32 : decode cX3_arrive 32 = .ok (.aload_n 0, 1) := by decide +kernel
theorem dX3_arrive_33 : decode cX3_arrive 33 = .ok (.getfield 40, 3) := by decide +kernel
theorem dX3_arrive_36 : decode cX3_arrive 36 = .ok (.invokestatic 173, 3) := by decide +kernel
theorem dX3_arrive_39 : decode cX3_arrive 39 = .ok (.invokestatic 173, 3) := by decide +kernel
theorem dX3_arrive_42 : decode cX3_arrive 42 = .ok (.istore_n 2, 1) := by decide +kernel
theorem dX3_arrive_43 : decode cX3_arrive 43 = .ok (.aload_n 0, 1) := by decide +kernel
theorem dX3_arrive_44 : decode cX3_arrive 44 = .ok (.dup, 1) := by decide +kernel
theorem dX3_arrive_45 : decode cX3_arrive 45 = .ok (.getfield 40, 3) := by decide +kernel
theorem dX3_arrive_48 : decode cX3_arrive 48 = .ok (.iload_n 2, 1) := by decide +kernel
theorem dX3_arrive_49 : decode cX3_arrive 49 = .ok (.isub, 1) := by decide +kernel
theorem dX3_arrive_50 : decode cX3_arrive 50 = .ok (.putfield 40, 3) := by decide +kernel
theorem dX3_arrive_53 : decode cX3_arrive 53 = .ok (.aload_n 1, 1) := by decide +kernel
theorem dX3_arrive_54 : decode cX3_arrive 54 = .ok (.dup, 1) := by decide +kernel
theorem dX3_arrive_55 : decode cX3_arrive 55 = .ok (.getfield 155, 3) := by decide +kernel
theorem dX3_arrive_58 : decode cX3_arrive 58 = .ok (.iload_n 2, 1) := by decide +kernel
theorem dX3_arrive_59 : decode cX3_arrive 59 = .ok (.isub, 1) := by decide +kernel
theorem dX3_arrive_60 : decode cX3_arrive 60 = .ok (.putfield 155, 3) := by decide +kernel
theorem dX3_arrive_63 : decode cX3_arrive 63 = .ok (.aload_n 1, 1) := by decide +kernel
theorem dX3_arrive_64 : decode cX3_arrive 64 = .ok (.dup, 1) := by decide +kernel
theorem dX3_arrive_65 : decode cX3_arrive 65 = .ok (.getfield 91, 3) := by decide +kernel
theorem dX3_arrive_68 : decode cX3_arrive 68 = .ok (.iload_n 2, 1) := by decide +kernel
theorem dX3_arrive_69 : decode cX3_arrive 69 = .ok (.iadd, 1) := by decide +kernel
theorem dX3_arrive_70 : decode cX3_arrive 70 = .ok (.putfield 91, 3) := by decide +kernel
theorem dX3_arrive_73 : decode cX3_arrive 73 = .ok (.aload_n 1, 1) := by decide +kernel
theorem dX3_arrive_74 : decode cX3_arrive 74 = .ok (.invokevirtual 179, 3) := by decide +kernel
theorem dX3_arrive_77 : decode cX3_arrive 77 = .ok (.goto 38, 3) := by decide +kernel
theorem dX3_arrive_80 : decode cX3_arrive 80 = .ok (.aload_n 0, 1) := by decide +kernel
theorem dX3_arrive_81 : decode cX3_arrive 81 = .ok (.aload_n 1, 1) := by decide +kernel
theorem dX3_arrive_82 : decode cX3_arrive 82 = .ok (.invokevirtual 182, 3) := by decide +kernel
theorem dX3_arrive_85 : decode cX3_arrive 85 = .ok (.ifCond .le 16, 3) := by decide +kernel
theorem dX3_arrive_88 : decode cX3_arrive 88 = .ok (.aload_n 1, 1) := by decide +kernel
theorem dX3_arrive_89 : decode cX3_arrive 89 = .ok (.iconst 2, 1) := by decide +kernel
theorem dX3_arrive_90 : decode cX3_arrive 90 = .ok (.putfield 88, 3) := by decide +kernel
theorem dX3_arrive_93 : decode cX3_arrive 93 = .ok (.aload_n 1, 1) := by decide +kernel
theorem dX3_arrive_94 : decode cX3_arrive 94 = .ok (.iconst 0, 1) := by decide +kernel
theorem dX3_arrive_95 : decode cX3_arrive 95 = .ok (.putfield 185, 3) := by decide +kernel
theorem dX3_arrive_98 : decode cX3_arrive 98 = .ok (.goto 17, 3) := by decide +kernel
theorem dX3_arrive_101 : decode cX3_arrive 101 = .ok (.aload_n 1, 1) := by decide +kernel
theorem dX3_arrive_102 : decode cX3_arrive 102 = .ok (.dup, 1) := by decide +kernel
theorem dX3_arrive_103 : decode cX3_arrive 103 = .ok (.getfield 94, 3) := by decide +kernel
theorem dX3_arrive_106 : decode cX3_arrive 106 = .ok (.iconst 1, 1) := by decide +kernel
theorem dX3_arrive_107 : decode cX3_arrive 107 = .ok (.iadd, 1) := by decide +kernel
theorem dX3_arrive_108 : decode cX3_arrive 108 = .ok (.putfield 94, 3) := by decide +kernel
theorem dX3_arrive_111 : decode cX3_arrive 111 = .ok (.aload_n 1, 1) := by decide +kernel
theorem dX3_arrive_112 : decode cX3_arrive 112 = .ok (.invokevirtual 179, 3) := by decide +kernel
theorem dX3_arrive_115 : decode cX3_arrive 115 = .ok (.return_, 1) := by decide +kernel
theorem dX3_letWait_0 : decode cX3_letWait 0 = .ok (.iconst 0, 1) := by decide +kernel
theorem dX3_letWait_1 : decode cX3_letWait 1 = .ok (.istore_n 1, 1) := by decide +kernel
theorem dX3_letWait_2 : decode cX3_letWait 2 = .ok (.iload_n 1, 1) := by decide +kernel
theorem dX3_letWait_3 : decode cX3_letWait 3 = .ok (.aload_n 0, 1) := by decide +kernel
theorem dX3_letWait_4 : decode cX3_letWait 4 = .ok (.getfield 31, 3) := by decide +kernel
theorem dX3_letWait_7 : decode cX3_letWait 7 = .ok (.if_icmp .ge 73, 3) := by decide +kernel
theorem dX3_letWait_10 : decode cX3_letWait 10 = .ok (.aload_n 0, 1) := by decide +kernel
theorem dX3_letWait_11 : decode cX3_letWait 11 = .ok (.getfield 27, 3) := by decide +kernel
theorem dX3_letWait_14 : decode cX3_letWait 14 = .ok (.iload_n 1, 1) := by decide +kernel
theorem dX3_letWait_15 : decode cX3_letWait 15 = .ok (.aaload, 1) := by decide +kernel
theorem dX3_letWait_16 : decode cX3_letWait 16 = .ok (.astore_n 2, 1) := by decide +kernel
theorem dX3_letWait_17 : decode cX3_letWait 17 = .ok (.aload_n 2, 1) := by decide +kernel
theorem dX3_letWait_18 : decode cX3_letWait 18 = .ok (.getfield 132, 3) := by decide +kernel
theorem dX3_letWait_21 : decode cX3_letWait 21 = .ok (.iconst 2, 1) := by decide +kernel
theorem dX3_letWait_22 : decode cX3_letWait 22 = .ok (.if_icmp .eq 6, 3) := by decide +kernel
theorem dX3_letWait_25 : decode cX3_letWait 25 = .ok (.goto 49, 3) := by decide +kernel
theorem dX3_letWait_28 : decode cX3_letWait 28 = .ok (.aload_n 2, 1) := by decide +kernel
theorem dX3_letWait_29 : decode cX3_letWait 29 = .ok (.dup, 1) := by decide +kernel
theorem dX3_letWait_30 : decode cX3_letWait 30 = .ok (.getfield 185, 3) := by decide +kernel
theorem dX3_letWait_33 : decode cX3_letWait 33 = .ok (.iconst 1, 1) := by decide +kernel
theorem dX3_letWait_34 : decode cX3_letWait 34 = .ok (.iadd, 1) := by decide +kernel
theorem dX3_letWait_35 : decode cX3_letWait 35 = .ok (.putfield 185, 3) := by decide +kernel
theorem dX3_letWait_38 : decode cX3_letWait 38 = .ok (.aload_n 0, 1) := by decide +kernel
theorem dX3_letWait_39 : decode cX3_letWait 39 = .ok (.dup, 1) := by decide +kernel
theorem dX3_letWait_40 : decode cX3_letWait 40 = .ok (.getfield 55, 3) := by decide +kernel
theorem dX3_letWait_43 : decode cX3_letWait 43 = .ok (.iconst 1, 1) := by decide +kernel
theorem dX3_letWait_44 : decode cX3_letWait 44 = .ok (.iadd, 1) := by decide +kernel
theorem dX3_letWait_45 : decode cX3_letWait 45 = .ok (.putfield 55, 3) := by decide +kernel
theorem dX3_letWait_48 : decode cX3_letWait 48 = .ok (.aload_n 2, 1) := by decide +kernel
theorem dX3_letWait_49 : decode cX3_letWait 49 = .ok (.getfield 185, 3) := by decide +kernel
theorem dX3_letWait_52 : decode cX3_letWait 52 = .ok (.aload_n 0, 1) := by decide +kernel
theorem dX3_letWait_53 : decode cX3_letWait 53 = .ok (.aload_n 2, 1) := by decide +kernel
theorem dX3_letWait_54 : decode cX3_letWait 54 = .ok (.invokevirtual 182, 3) := by decide +kernel
theorem dX3_letWait_57 : decode cX3_letWait 57 = .ok (.if_icmp .lt 17, 3) := by decide +kernel
theorem dX3_letWait_60 : decode cX3_letWait 60 = .ok (.aload_n 2, 1) := by decide +kernel
theorem dX3_letWait_61 : decode cX3_letWait 61 = .ok (.dup, 1) := by decide +kernel
theorem dX3_letWait_62 : decode cX3_letWait 62 = .ok (.getfield 94, 3) := by decide +kernel
theorem dX3_letWait_65 : decode cX3_letWait 65 = .ok (.iconst 1, 1) := by decide +kernel
theorem dX3_letWait_66 : decode cX3_letWait 66 = .ok (.iadd, 1) := by decide +kernel
theorem dX3_letWait_67 : decode cX3_letWait 67 = .ok (.putfield 94, 3) := by decide +kernel
theorem dX3_letWait_70 : decode cX3_letWait 70 = .ok (.aload_n 2, 1) := by decide +kernel
theorem dX3_letWait_71 : decode cX3_letWait 71 = .ok (.invokevirtual 179, 3) := by decide +kernel
theorem dX3_letWait_74 : decode cX3_letWait 74 = .ok (.iinc 1 1, 3) := by decide +kernel
theorem dX3_letWait_77 : decode cX3_letWait 77 = .ok (.goto (-75), 3) := by decide +kernel
theorem dX3_letWait_80 : decode cX3_letWait 80 = .ok (.return_, 1) := by decide +kernel
theorem dX3_letReachHome_0 : decode cX3_letReachHome 0 = .ok (.iconst 0, 1) := by decide +kernel
theorem dX3_letReachHome_1 : decode cX3_letReachHome 1 = .ok (.istore_n 1, 1) := by decide +kernel
theorem dX3_letReachHome_2 : decode cX3_letReachHome 2 = .ok (.iload_n 1, 1) := by decide +kernel
theorem dX3_letReachHome_3 : decode cX3_letReachHome 3 = .ok (.aload_n 0, 1) := by decide +kernel
theorem dX3_letReachHome_4 : decode cX3_letReachHome 4 = .ok (.getfield 31, 3) := by decide +kernel
theorem dX3_letReachHome_7 : decode cX3_letReachHome 7 = .ok (.if_icmp .ge 54, 3) := by decide +kernel
theorem dX3_letReachHome_10 : decode cX3_letReachHome 10 = .ok (.aload_n 0, 1) := by decide +kernel
theorem dX3_letReachHome_11 : decode cX3_letReachHome 11 = .ok (.getfield 27, 3) := by decide +kernel
theorem dX3_letReachHome_14 : decode cX3_letReachHome 14 = .ok (.iload_n 1, 1) := by decide +kernel
theorem dX3_letReachHome_15 : decode cX3_letReachHome 15 = .ok (.aaload, 1) := by decide +kernel
theorem dX3_letReachHome_16 : decode cX3_letReachHome 16 = .ok (.astore_n 2, 1) := by decide +kernel
theorem dX3_letReachHome_17 : decode cX3_letReachHome 17 = .ok (.aload_n 2, 1) := by decide +kernel
theorem dX3_letReachHome_18 : decode cX3_letReachHome 18 = .ok (.getfield 132, 3) := by decide +kernel
theorem dX3_letReachHome_21 : decode cX3_letReachHome 21 = .ok (.iconst 3, 1) := by decide +kernel
theorem dX3_letReachHome_22 : decode cX3_letReachHome 22 = .ok (.if_icmp .eq 6, 3) := by decide +kernel
theorem dX3_letReachHome_25 : decode cX3_letReachHome 25 = .ok (.goto 30, 3) := by decide +kernel
theorem dX3_letReachHome_28 : decode cX3_letReachHome 28 = .ok (.aload_n 2, 1) := by decide +kernel
theorem dX3_letReachHome_29 : decode cX3_letReachHome 29 = .ok (.dup, 1) := by decide +kernel
theorem dX3_letReachHome_30 : decode cX3_letReachHome 30 = .ok (.getfield 167, 3) := by decide +kernel
theorem dX3_letReachHome_33 : decode cX3_letReachHome 33 = .ok (.iconst 1, 1) := by decide +kernel
theorem dX3_letReachHome_34 : decode cX3_letReachHome 34 = .ok (.isub, 1) := by decide +kernel
theorem dX3_letReachHome_35 : decode cX3_letReachHome 35 = .ok (.putfield 167, 3) := by decide +kernel
theorem dX3_letReachHome_38 : decode cX3_letReachHome 38 = .ok (.aload_n 2, 1) := by decide +kernel
theorem dX3_letReachHome_39 : decode cX3_letReachHome 39 = .ok (.getfield 167, 3) := by decide +kernel
theorem dX3_letReachHome_42 : decode cX3_letReachHome 42 = .ok (.ifCond .ne 13, 3) := by decide +kernel
theorem dX3_letReachHome_45 : decode cX3_letReachHome 45 = .ok (.aload_n 2, 1) := by decide +kernel
theorem dX3_letReachHome_46 : decode cX3_letReachHome 46 = .ok (.iconst 0, 1) := by decide +kernel
theorem dX3_letReachHome_47 : decode cX3_letReachHome 47 = .ok (.putfield 88, 3) := by decide +kernel
theorem dX3_letReachHome_50 : decode cX3_letReachHome 50 = .ok (.aload_n 2, 1) := by decide +kernel
theorem dX3_letReachHome_51 : decode cX3_letReachHome 51 = .ok (.iconst 0, 1) := by decide +kernel
theorem dX3_letReachHome_52 : decode cX3_letReachHome 52 = .ok (.putfield 106, 3) := by decide +kernel
theorem dX3_letReachHome_55 : decode cX3_letReachHome 55 = .ok (.iinc 1 1, 3) := by decide +kernel
theorem dX3_letReachHome_58 : decode cX3_letReachHome 58 = .ok (.goto (-56), 3) := by decide +kernel
theorem dX3_letReachHome_61 : decode cX3_letReachHome 61 = .ok (.return_, 1) := by decide +kernel
theorem dX3_fill_0 : decode cX3_fill 0 = .ok (.iload_n 1, 1) := by decide +kernel
theorem dX3_fill_1 : decode cX3_fill 1 = .ok (.ifCond .ne 9, 3) := by decide +kernel
theorem dX3_fill_4 : decode cX3_fill 4 = .ok (.aload_n 0, 1) := by decide +kernel
theorem dX3_fill_5 : decode cX3_fill 5 = .ok (.iconst 0, 1) := by decide +kernel
theorem dX3_fill_6 : decode cX3_fill 6 = .ok (.putfield 49, 3) := by decide +kernel
theorem dX3_fill_9 : decode cX3_fill 9 = .ok (.return_, 1) := by decide +kernel
theorem dX3_fill_10 : decode cX3_fill 10 = .ok (.aload_n 0, 1) := by decide +kernel
theorem dX3_fill_11 : decode cX3_fill 11 = .ok (.dup, 1) := by decide +kernel
theorem dX3_fill_12 : decode cX3_fill 12 = .ok (.getfield 49, 3) := by decide +kernel
theorem dX3_fill_15 : decode cX3_fill 15 = .ok (.iconst 1, 1) := by decide +kernel
theorem dX3_fill_16 : decode cX3_fill 16 = .ok (.iadd, 1) := by decide +kernel
theorem dX3_fill_17 : decode cX3_fill 17 = .ok (.putfield 49, 3) := by decide +kernel
theorem dX3_fill_20 : decode cX3_fill 20 = .ok (.aload_n 0, 1) := by decide +kernel
theorem dX3_fill_21 : decode cX3_fill 21 = .ok (.getfield 49, 3) := by decide +kernel
theorem dX3_fill_24 : decode cX3_fill 24 = .ok (.aload_n 0, 1) := by decide +kernel
theorem dX3_fill_25 : decode cX3_fill 25 = .ok (.getfield 34, 3) := by decide +kernel
theorem dX3_fill_28 : decode cX3_fill 28 = .ok (.if_icmp .lt 29, 3) := by decide +kernel
theorem dX3_fill_31 : decode cX3_fill 31 = .ok (.aload_n 0, 1) := by decide +kernel
theorem dX3_fill_32 : decode cX3_fill 32 = .ok (.iconst 0, 1) := by decide +kernel
theorem dX3_fill_33 : decode cX3_fill 33 = .ok (.putfield 49, 3) := by decide +kernel
theorem dX3_fill_36 : decode cX3_fill 36 = .ok (.aload_n 0, 1) := by decide +kernel
theorem dX3_fill_37 : decode cX3_fill 37 = .ok (.getfield 40, 3) := by decide +kernel
theorem dX3_fill_40 : decode cX3_fill 40 = .ok (.aload_n 0, 1) := by decide +kernel
theorem dX3_fill_41 : decode cX3_fill 41 = .ok (.getfield 37, 3) := by decide +kernel
theorem dX3_fill_44 : decode cX3_fill 44 = .ok (.if_icmp .ge 13, 3) := by decide +kernel
theorem dX3_fill_47 : decode cX3_fill 47 = .ok (.aload_n 0, 1) := by decide +kernel
theorem dX3_fill_48 : decode cX3_fill 48 = .ok (.dup, 1) := by decide +kernel
theorem dX3_fill_49 : decode cX3_fill 49 = .ok (.getfield 40, 3) := by decide +kernel
theorem dX3_fill_52 : decode cX3_fill 52 = .ok (.iconst 1, 1) := by decide +kernel
theorem dX3_fill_53 : decode cX3_fill 53 = .ok (.iadd, 1) := by decide +kernel
theorem dX3_fill_54 : decode cX3_fill 54 = .ok (.putfield 40, 3) := by decide +kernel
theorem dX3_fill_57 : decode cX3_fill 57 = .ok (.return_, 1) := by decide +kernel
theorem dX3_endMinute_0 : decode cX3_endMinute 0 = .ok (.aload_n 0, 1) := by decide +kernel
theorem dX3_endMinute_1 : decode cX3_endMinute 1 = .ok (.dup, 1) := by decide +kernel
theorem dX3_endMinute_2 : decode cX3_endMinute 2 = .ok (.getfield 52, 3) := by decide +kernel
theorem dX3_endMinute_5 : decode cX3_endMinute 5 = .ok (.iconst 1, 1) := by decide +kernel
theorem dX3_endMinute_6 : decode cX3_endMinute 6 = .ok (.iadd, 1) := by decide +kernel
theorem dX3_endMinute_7 : decode cX3_endMinute 7 = .ok (.putfield 52, 3) := by decide +kernel
theorem dX3_endMinute_10 : decode cX3_endMinute 10 = .ok (.aload_n 0, 1) := by decide +kernel
theorem dX3_endMinute_11 : decode cX3_endMinute 11 = .ok (.getfield 52, 3) := by decide +kernel
theorem dX3_endMinute_14 : decode cX3_endMinute 14 = .ok (.sipush 1440, 3) := by decide +kernel
theorem dX3_endMinute_17 : decode cX3_endMinute 17 = .ok (.irem, 1) := by decide +kernel
theorem dX3_endMinute_18 : decode cX3_endMinute 18 = .ok (.ifCond .eq 4, 3) := by decide +kernel
theorem dX3_endMinute_21 : decode cX3_endMinute 21 = .ok (.return_, 1) := by decide +kernel
theorem dX3_endMinute_22 : decode cX3_endMinute 22 = .ok (.iconst 0, 1) := by decide +kernel
theorem dX3_endMinute_23 : decode cX3_endMinute 23 = .ok (.istore_n 1, 1) := by decide +kernel
theorem dX3_endMinute_24 : decode cX3_endMinute 24 = .ok (.iload_n 1, 1) := by decide +kernel
theorem dX3_endMinute_25 : decode cX3_endMinute 25 = .ok (.aload_n 0, 1) := by decide +kernel
theorem dX3_endMinute_26 : decode cX3_endMinute 26 = .ok (.getfield 31, 3) := by decide +kernel
theorem dX3_endMinute_29 : decode cX3_endMinute 29 = .ok (.if_icmp .ge 27, 3) := by decide +kernel
theorem dX3_endMinute_32 : decode cX3_endMinute 32 = .ok (.aload_n 0, 1) := by decide +kernel
theorem dX3_endMinute_33 : decode cX3_endMinute 33 = .ok (.getfield 27, 3) := by decide +kernel
theorem dX3_endMinute_36 : decode cX3_endMinute 36 = .ok (.iload_n 1, 1) := by decide +kernel
theorem dX3_endMinute_37 : decode cX3_endMinute 37 = .ok (.aaload, 1) := by decide +kernel
theorem dX3_endMinute_38 : decode cX3_endMinute 38 = .ok (.aload_n 0, 1) := by decide +kernel
theorem dX3_endMinute_39 : decode cX3_endMinute 39 = .ok (.getfield 27, 3) := by decide +kernel
theorem dX3_endMinute_42 : decode cX3_endMinute 42 = .ok (.iload_n 1, 1) := by decide +kernel
theorem dX3_endMinute_43 : decode cX3_endMinute 43 = .ok (.aaload, 1) := by decide +kernel
theorem dX3_endMinute_44 : decode cX3_endMinute 44 = .ok (.getfield 188, 3) := by decide +kernel
theorem dX3_endMinute_47 : decode cX3_endMinute 47 = .ok (.putfield 155, 3) := by decide +kernel
theorem dX3_endMinute_50 : decode cX3_endMinute 50 = .ok (.iinc 1 1, 3) := by decide +kernel
theorem dX3_endMinute_53 : decode cX3_endMinute 53 = .ok (.goto (-29), 3) := by decide +kernel
theorem dX3_endMinute_56 : decode cX3_endMinute 56 = .ok (.return_, 1) := by decide +kernel
theorem dX3_keepOthersHome_0 : decode cX3_keepOthersHome 0 = .ok (.iconst 0, 1) := by decide +kernel
theorem dX3_keepOthersHome_1 : decode cX3_keepOthersHome 1 = .ok (.istore_n 2, 1) := by decide +kernel
theorem dX3_keepOthersHome_2 : decode cX3_keepOthersHome 2 = .ok (.iload_n 2, 1) := by decide +kernel
theorem dX3_keepOthersHome_3 : decode cX3_keepOthersHome 3 = .ok (.aload_n 0, 1) := by decide +kernel
theorem dX3_keepOthersHome_4 : decode cX3_keepOthersHome 4 = .ok (.getfield 31, 3) := by decide +kernel
theorem dX3_keepOthersHome_7 : decode cX3_keepOthersHome 7 = .ok (.if_icmp .ge 47, 3) := by decide +kernel
theorem dX3_keepOthersHome_10 : decode cX3_keepOthersHome 10 = .ok (.iload_n 2, 1) := by decide +kernel
theorem dX3_keepOthersHome_11 : decode cX3_keepOthersHome 11 = .ok (.iload_n 1, 1) := by decide +kernel
theorem dX3_keepOthersHome_12 : decode cX3_keepOthersHome 12 = .ok (.if_icmp .ne 6, 3) := by decide +kernel
theorem dX3_keepOthersHome_15 : decode cX3_keepOthersHome 15 = .ok (.goto 33, 3) := by decide +kernel
theorem dX3_keepOthersHome_18 : decode cX3_keepOthersHome 18 = .ok (.aload_n 0, 1) := by decide +kernel
theorem dX3_keepOthersHome_19 : decode cX3_keepOthersHome 19 = .ok (.getfield 27, 3) := by decide +kernel
theorem dX3_keepOthersHome_22 : decode cX3_keepOthersHome 22 = .ok (.iload_n 2, 1) := by decide +kernel
theorem dX3_keepOthersHome_23 : decode cX3_keepOthersHome 23 = .ok (.aaload, 1) := by decide +kernel
theorem dX3_keepOthersHome_24 : decode cX3_keepOthersHome 24 = .ok (.iconst 0, 1) := by decide +kernel
theorem dX3_keepOthersHome_25 : decode cX3_keepOthersHome 25 = .ok (.putfield 88, 3) := by decide +kernel
theorem dX3_keepOthersHome_28 : decode cX3_keepOthersHome 28 = .ok (.aload_n 0, 1) := by decide +kernel
theorem dX3_keepOthersHome_29 : decode cX3_keepOthersHome 29 = .ok (.getfield 27, 3) := by decide +kernel
theorem dX3_keepOthersHome_32 : decode cX3_keepOthersHome 32 = .ok (.iload_n 2, 1) := by decide +kernel
theorem dX3_keepOthersHome_33 : decode cX3_keepOthersHome 33 = .ok (.aaload, 1) := by decide +kernel
theorem dX3_keepOthersHome_34 : decode cX3_keepOthersHome 34 = .ok (.iconst 0, 1) := by decide +kernel
theorem dX3_keepOthersHome_35 : decode cX3_keepOthersHome 35 = .ok (.putfield 155, 3) := by decide +kernel
theorem dX3_keepOthersHome_38 : decode cX3_keepOthersHome 38 = .ok (.aload_n 0, 1) := by decide +kernel
theorem dX3_keepOthersHome_39 : decode cX3_keepOthersHome 39 = .ok (.getfield 27, 3) := by decide +kernel
theorem dX3_keepOthersHome_42 : decode cX3_keepOthersHome 42 = .ok (.iload_n 2, 1) := by decide +kernel
theorem dX3_keepOthersHome_43 : decode cX3_keepOthersHome 43 = .ok (.aaload, 1) := by decide +kernel
theorem dX3_keepOthersHome_44 : decode cX3_keepOthersHome 44 = .ok (.iconst 0, 1) := by decide +kernel
theorem dX3_keepOthersHome_45 : decode cX3_keepOthersHome 45 = .ok (.putfield 188, 3) := by decide +kernel
theorem dX3_keepOthersHome_48 : decode cX3_keepOthersHome 48 = .ok (.iinc 2 1, 3) := by decide +kernel
theorem dX3_keepOthersHome_51 : decode cX3_keepOthersHome 51 = .ok (.goto (-49), 3) := by decide +kernel
theorem dX3_keepOthersHome_54 : decode cX3_keepOthersHome 54 = .ok (.return_, 1) := by decide +kernel
theorem dX3_differences_0 : decode cX3_differences 0 = .ok (.iload_n 2, 1) := by decide +kernel
theorem dX3_differences_1 : decode cX3_differences 1 = .ok (.ifCond .gt 5, 3) := by decide +kernel
theorem dX3_differences_4 : decode cX3_differences 4 = .ok (.iconst 0, 1) := by decide +kernel
theorem dX3_differences_5 : decode cX3_differences 5 = .ok (.ireturn, 1) := by decide +kernel
theorem dX3_differences_6 : decode cX3_differences 6 = .ok (.iconst 0, 1) := by decide +kernel
theorem dX3_differences_7 : decode cX3_differences 7 = .ok (.istore_n 3, 1) := by decide +kernel
theorem dX3_differences_8 : decode cX3_differences 8 = .ok (.iconst 0, 1) := by decide +kernel
theorem dX3_differences_9 : decode cX3_differences 9 = .ok (.istore 4, 2) := by decide +kernel
theorem dX3_differences_11 : decode cX3_differences 11 = .ok (.iload 4, 2) := by decide +kernel
theorem dX3_differences_13 : decode cX3_differences 13 = .ok (.aload_n 1, 1) := by decide +kernel
theorem dX3_differences_14 : decode cX3_differences 14 = .ok (.getfield 191, 3) := by decide +kernel
theorem dX3_differences_17 : decode cX3_differences 17 = .ok (.if_icmp .ge 83, 3) := by decide +kernel
theorem dX3_differences_20 : decode cX3_differences 20 = .ok (.iload 4, 2) := by decide +kernel
theorem dX3_differences_22 : decode cX3_differences 22 = .ok (.aload_n 1, 1) := by decide +kernel
theorem dX3_differences_23 : decode cX3_differences 23 = .ok (.getfield 194, 3) := by decide +kernel
theorem dX3_differences_26 : decode cX3_differences 26 = .ok (.arraylength, 1) := by decide +kernel
theorem dX3_differences_27 : decode cX3_differences 27 = .ok (.if_icmp .ge 73, 3) := by decide +kernel
theorem dX3_differences_30 : decode cX3_differences 30 = .ok (.aload_n 1, 1) := by decide +kernel
theorem dX3_differences_31 : decode cX3_differences 31 = .ok (.getfield 194, 3) := by decide +kernel
theorem dX3_differences_34 : decode cX3_differences 34 = .ok (.iload 4, 2) := by decide +kernel
theorem dX3_differences_36 : decode cX3_differences 36 = .ok (.iaload, 1) := by decide +kernel
theorem dX3_differences_37 : decode cX3_differences 37 = .ok (.ldc 197, 2) := by decide +kernel
theorem dX3_differences_39 : decode cX3_differences 39 = .ok (.if_icmp .ne 6, 3) := by decide +kernel
theorem dX3_differences_42 : decode cX3_differences 42 = .ok (.goto 52, 3) := by decide +kernel
theorem dX3_differences_45 : decode cX3_differences 45 = .ok (.aload_n 0, 1) := by decide +kernel
theorem dX3_differences_46 : decode cX3_differences 46 = .ok (.getfield 37, 3) := by decide +kernel
theorem dX3_differences_49 : decode cX3_differences 49 = .ok (.aload_n 0, 1) := by decide +kernel
theorem dX3_differences_50 : decode cX3_differences 50 = .ok (.getfield 40, 3) := by decide +kernel
theorem dX3_differences_53 : decode cX3_differences 53 = .ok (.aload_n 0, 1) := by decide +kernel
theorem dX3_differences_54 : decode cX3_differences 54 = .ok (.getfield 49, 3) := by decide +kernel
theorem dX3_differences_57 : decode cX3_differences 57 = .ok (.bipush 10, 2) := by decide +kernel
theorem dX3_differences_59 : decode cX3_differences 59 = .ok (.iload 4, 2) := by decide +kernel
theorem dX3_differences_61 : decode cX3_differences 61 = .ok (.imul, 1) := by decide +kernel
theorem dX3_differences_62 : decode cX3_differences 62 = .ok (.iadd, 1) := by decide +kernel
theorem dX3_differences_63 : decode cX3_differences 63 = .ok (.iload_n 2, 1) := by decide +kernel
theorem dX3_differences_64 : decode cX3_differences 64 = .ok (.idiv, 1) := by decide +kernel
theorem dX3_differences_65 : decode cX3_differences 65 = .ok (.iadd, 1) := by decide +kernel
theorem dX3_differences_66 : decode cX3_differences 66 = .ok (.invokestatic 173, 3) := by decide +kernel
theorem dX3_differences_69 : decode cX3_differences 69 = .ok (.istore 5, 2) := by decide +kernel
theorem dX3_differences_71 : decode cX3_differences 71 = .ok (.iload_n 3, 1) := by decide +kernel
theorem dX3_differences_72 : decode cX3_differences 72 = .ok (.aload_n 0, 1) := by decide +kernel
theorem dX3_differences_73 : decode cX3_differences 73 = .ok (.getfield 40, 3) := by decide +kernel
theorem dX3_differences_76 : decode cX3_differences 76 = .ok (.iload 5, 2) := by decide +kernel
theorem dX3_differences_78 : decode cX3_differences 78 = .ok (.invokestatic 198, 3) := by decide +kernel
theorem dX3_differences_81 : decode cX3_differences 81 = .ok (.aload_n 1, 1) := by decide +kernel
theorem dX3_differences_82 : decode cX3_differences 82 = .ok (.getfield 194, 3) := by decide +kernel
theorem dX3_differences_85 : decode cX3_differences 85 = .ok (.iload 4, 2) := by decide +kernel
theorem dX3_differences_87 : decode cX3_differences 87 = .ok (.iaload, 1) := by decide +kernel
theorem dX3_differences_88 : decode cX3_differences 88 = .ok (.isub, 1) := by decide +kernel
theorem dX3_differences_89 : decode cX3_differences 89 = .ok (.invokestatic 201, 3) := by decide +kernel
theorem dX3_differences_92 : decode cX3_differences 92 = .ok (.iadd, 1) := by decide +kernel
theorem dX3_differences_93 : decode cX3_differences 93 = .ok (.istore_n 3, 1) := by decide +kernel
theorem dX3_differences_94 : decode cX3_differences 94 = .ok (.iinc 4 1, 3) := by decide +kernel
theorem dX3_differences_97 : decode cX3_differences 97 = .ok (.goto (-86), 3) := by decide +kernel
theorem dX3_differences_100 : decode cX3_differences 100 = .ok (.iload_n 3, 1) := by decide +kernel
theorem dX3_differences_101 : decode cX3_differences 101 = .ok (.ireturn, 1) := by decide +kernel
theorem dX4_init_0 : decode cX4_init 0 = .ok (.aload_n 0, 1) := by decide +kernel
theorem dX4_init_1 : decode cX4_init 1 = .ok (.invokespecial 3, 3) := by decide +kernel
theorem dX4_init_4 : decode cX4_init 4 = .ok (.aload_n 0, 1) := by decide +kernel
theorem dX4_init_5 : decode cX4_init 5 = .ok (.bipush 24, 2) := by decide +kernel
theorem dX4_init_7 : decode cX4_init 7 = .ok (.newarray .int, 2) := by decide +kernel
theorem dX4_init_9 : decode cX4_init 9 = .ok (.putfield 9, 3) := by decide +kernel
theorem dX4_init_12 : decode cX4_init 12 = .ok (.aload_n 0, 1) := by decide +kernel
theorem dX4_init_13 : decode cX4_init 13 = .ok (.iconst (-1), 1) := by decide +kernel
theorem dX4_init_14 : decode cX4_init 14 = .ok (.putfield 15, 3) := by decide +kernel
theorem dX4_init_17 : decode cX4_init 17 = .ok (.aload_n 0, 1) := by decide +kernel
theorem dX4_init_18 : decode cX4_init 18 = .ok (.iconst 0, 1) := by decide +kernel
theorem dX4_init_19 : decode cX4_init 19 = .ok (.putfield 19, 3) := by decide +kernel
theorem dX4_init_22 : decode cX4_init 22 = .ok (.return_, 1) := by decide +kernel
theorem dX4_start_0 : decode cX4_start 0 = .ok (.aload_n 0, 1) := by decide +kernel
theorem dX4_start_1 : decode cX4_start 1 = .ok (.iload_n 1, 1) := by decide +kernel
theorem dX4_start_2 : decode cX4_start 2 = .ok (.putfield 15, 3) := by decide +kernel
theorem dX4_start_5 : decode cX4_start 5 = .ok (.aload_n 0, 1) := by decide +kernel
theorem dX4_start_6 : decode cX4_start 6 = .ok (.iload_n 2, 1) := by decide +kernel
theorem dX4_start_7 : decode cX4_start 7 = .ok (.iconst 0, 1) := by decide +kernel
theorem dX4_start_8 : decode cX4_start 8 = .ok (.aload_n 0, 1) := by decide +kernel
theorem dX4_start_9 : decode cX4_start 9 = .ok (.getfield 9, 3) := by decide +kernel
theorem dX4_start_12 : decode cX4_start 12 = .ok (.arraylength, 1) := by decide +kernel
theorem dX4_start_13 : decode cX4_start 13 = .ok (.invokestatic 22, 3) := by decide +kernel
theorem dX4_start_16 : decode cX4_start 16 = .ok (.putfield 19, 3) := by decide +kernel
theorem dX4_start_19 : decode cX4_start 19 = .ok (.aload_n 0, 1) := by decide +kernel
theorem dX4_start_20 : decode cX4_start 20 = .ok (.getfield 9, 3) := by decide +kernel
theorem dX4_start_23 : decode cX4_start 23 = .ok (.iconst 0, 1) := by decide +kernel
theorem dX4_start_24 : decode cX4_start 24 = .ok (.invokestatic 26, 3) := by decide +kernel
theorem dX4_start_27 : decode cX4_start 27 = .ok (.return_, 1) := by decide +kernel
theorem dX4_become_0 : decode cX4_become 0 = .ok (.aload_n 0, 1) := by decide +kernel
theorem dX4_become_1 : decode cX4_become 1 = .ok (.aload_n 1, 1) := by decide +kernel
theorem dX4_become_2 : decode cX4_become 2 = .ok (.getfield 15, 3) := by decide +kernel
theorem dX4_become_5 : decode cX4_become 5 = .ok (.putfield 15, 3) := by decide +kernel
theorem dX4_become_8 : decode cX4_become 8 = .ok (.aload_n 0, 1) := by decide +kernel
theorem dX4_become_9 : decode cX4_become 9 = .ok (.aload_n 1, 1) := by decide +kernel
theorem dX4_become_10 : decode cX4_become 10 = .ok (.getfield 19, 3) := by decide +kernel
theorem dX4_become_13 : decode cX4_become 13 = .ok (.putfield 19, 3) := by decide +kernel
theorem dX4_become_16 : decode cX4_become 16 = .ok (.aload_n 1, 1) := by decide +kernel
theorem dX4_become_17 : decode cX4_become 17 = .ok (.getfield 9, 3) := by decide +kernel
theorem dX4_become_20 : decode cX4_become 20 = .ok (.iconst 0, 1) := by decide +kernel
theorem dX4_become_21 : decode cX4_become 21 = .ok (.aload_n 0, 1) := by decide +kernel
theorem dX4_become_22 : decode cX4_become 22 = .ok (.getfield 9, 3) := by decide +kernel
theorem dX4_become_25 : decode cX4_become 25 = .ok (.iconst 0, 1) := by decide +kernel
theorem dX4_become_26 : decode cX4_become 26 = .ok (.bipush 24, 2) := by decide +kernel
theorem dX4_become_28 : decode cX4_become 28 = .ok (.invokestatic 32, 3) := by decide +kernel
theorem dX4_become_31 : decode cX4_become 31 = .ok (.return_, 1) := by decide +kernel
theorem dX4_hasPlaces_0 : decode cX4_hasPlaces 0 = .ok (.iload_n 1, 1) := by decide +kernel
theorem dX4_hasPlaces_1 : decode cX4_hasPlaces 1 = .ok (.ifCond .lt 29, 3) := by decide +kernel
theorem dX4_hasPlaces_4 : decode cX4_hasPlaces 4 = .ok (.iload_n 2, 1) := by decide +kernel
theorem dX4_hasPlaces_5 : decode cX4_hasPlaces 5 = .ok (.ifCond .lt 25, 3) := by decide +kernel
theorem dX4_hasPlaces_8 : decode cX4_hasPlaces 8 = .ok (.iload_n 2, 1) := by decide +kernel
theorem dX4_hasPlaces_9 : decode cX4_hasPlaces 9 = .ok (.aload_n 0, 1) := by decide +kernel
theorem dX4_hasPlaces_10 : decode cX4_hasPlaces 10 = .ok (.getfield 19, 3) := by decide +kernel
theorem dX4_hasPlaces_13 : decode cX4_hasPlaces 13 = .ok (.if_icmp .gt 17, 3) := by decide +kernel
theorem dX4_hasPlaces_16 : decode cX4_hasPlaces 16 = .ok (.iload_n 1, 1) := by decide +kernel
theorem dX4_hasPlaces_17 : decode cX4_hasPlaces 17 = .ok (.aload_n 0, 1) := by decide +kernel
theorem dX4_hasPlaces_18 : decode cX4_hasPlaces 18 = .ok (.getfield 19, 3) := by decide +kernel
theorem dX4_hasPlaces_21 : decode cX4_hasPlaces 21 = .ok (.iload_n 2, 1) := by decide +kernel
theorem dX4_hasPlaces_22 : decode cX4_hasPlaces 22 = .ok (.isub, 1) := by decide +kernel
theorem dX4_hasPlaces_23 : decode cX4_hasPlaces 23 = .ok (.if_icmp .gt 7, 3) := by decide +kernel
theorem dX4_hasPlaces_26 : decode cX4_hasPlaces 26 = .ok (.iconst 1, 1) := by decide +kernel
theorem dX4_hasPlaces_27 : decode cX4_hasPlaces 27 = .ok (.goto 4, 3) := by decide +kernel
theorem dX4_hasPlaces_30 : decode cX4_hasPlaces 30 = .ok (.iconst 0, 1) := by decide +kernel
theorem dX4_hasPlaces_31 : decode cX4_hasPlaces 31 = .ok (.ireturn, 1) := by decide +kernel
theorem dX5_init_0 : decode cX5_init 0 = .ok (.aload_n 0, 1) := by decide +kernel
theorem dX5_init_1 : decode cX5_init 1 = .ok (.invokespecial 3, 3) := by decide +kernel
theorem dX5_init_4 : decode cX5_init 4 = .ok (.aload_n 0, 1) := by decide +kernel
theorem dX5_init_5 : decode cX5_init 5 = .ok (.new 9, 3) := by decide +kernel
theorem dX5_init_8 : decode cX5_init 8 = .ok (.dup, 1) := by decide +kernel
theorem dX5_init_9 : decode cX5_init 9 = .ok (.invokespecial 11, 3) := by decide +kernel
theorem dX5_init_12 : decode cX5_init 12 = .ok (.putfield 12, 3) := by decide +kernel
theorem dX5_init_15 : decode cX5_init 15 = .ok (.aload_n 0, 1) := by decide +kernel
theorem dX5_init_16 : decode cX5_init 16 = .ok (.new 18, 3) := by decide +kernel
theorem dX5_init_19 : decode cX5_init 19 = .ok (.dup, 1) := by decide +kernel
theorem dX5_init_20 : decode cX5_init 20 = .ok (.invokespecial 20, 3) := by decide +kernel
theorem dX5_init_23 : decode cX5_init 23 = .ok (.putfield 21, 3) := by decide +kernel
theorem dX5_init_26 : decode cX5_init 26 = .ok (.aload_n 0, 1) := by decide +kernel
theorem dX5_init_27 : decode cX5_init 27 = .ok (.iconst 0, 1) := by decide +kernel
theorem dX5_init_28 : decode cX5_init 28 = .ok (.putfield 25, 3) := by decide +kernel
theorem dX5_init_31 : decode cX5_init 31 = .ok (.aload_n 0, 1) := by decide +kernel
theorem dX5_init_32 : decode cX5_init 32 = .ok (.iconst 0, 1) := by decide +kernel
theorem dX5_init_33 : decode cX5_init 33 = .ok (.putfield 29, 3) := by decide +kernel
theorem dX5_init_36 : decode cX5_init 36 = .ok (.return_, 1) := by decide +kernel
theorem dX6_init_0 : decode cX6_init 0 = .ok (.aload_n 0, 1) := by decide +kernel
theorem dX6_init_1 : decode cX6_init 1 = .ok (.invokespecial 1, 3) := by decide +kernel
theorem dX6_init_4 : decode cX6_init 4 = .ok (.aload_n 0, 1) := by decide +kernel
theorem dX6_init_5 : decode cX6_init 5 = .ok (.iload_n 1, 1) := by decide +kernel
theorem dX6_init_6 : decode cX6_init 6 = .ok (.putfield 7, 3) := by decide +kernel
theorem dX6_init_9 : decode cX6_init 9 = .ok (.aload_n 0, 1) := by decide +kernel
theorem dX6_init_10 : decode cX6_init 10 = .ok (.iload_n 2, 1) := by decide +kernel
theorem dX6_init_11 : decode cX6_init 11 = .ok (.putfield 13, 3) := by decide +kernel
theorem dX6_init_14 : decode cX6_init 14 = .ok (.aload_n 0, 1) := by decide +kernel
theorem dX6_init_15 : decode cX6_init 15 = .ok (.aload_n 3, 1) := by decide +kernel
theorem dX6_init_16 : decode cX6_init 16 = .ok (.putfield 16, 3) := by decide +kernel
theorem dX6_init_19 : decode cX6_init 19 = .ok (.aload_n 0, 1) := by decide +kernel
theorem dX6_init_20 : decode cX6_init 20 = .ok (.iconst 0, 1) := by decide +kernel
theorem dX6_init_21 : decode cX6_init 21 = .ok (.iload_n 2, 1) := by decide +kernel
theorem dX6_init_22 : decode cX6_init 22 = .ok (.invokestatic 20, 3) := by decide +kernel
theorem dX6_init_25 : decode cX6_init 25 = .ok (.newarray .int, 2) := by decide +kernel
theorem dX6_init_27 : decode cX6_init 27 = .ok (.putfield 26, 3) := by decide +kernel
theorem dX6_init_30 : decode cX6_init 30 = .ok (.return_, 1) := by decide +kernel
theorem dX6_value_0 : decode cX6_value 0 = .ok (.iconst 0, 1) := by decide +kernel
theorem dX6_value_1 : decode cX6_value 1 = .ok (.istore 4, 2) := by decide +kernel
theorem dX6_value_3 : decode cX6_value 3 = .ok (.aload_n 0, 1) := by decide +kernel
theorem dX6_value_4 : decode cX6_value 4 = .ok (.getfield 16, 3) := by decide +kernel
theorem dX6_value_7 : decode cX6_value 7 = .ok (.astore 5, 2) := by decide +kernel
theorem dX6_value_9 : decode cX6_value 9 = .ok (.aload 5, 2) := by decide +kernel
theorem dX6_value_11 : decode cX6_value 11 = .ok (.arraylength, 1) := by decide +kernel
theorem dX6_value_12 : decode cX6_value 12 = .ok (.istore 6, 2) := by decide +kernel
theorem dX6_value_14 : decode cX6_value 14 = .ok (.iconst 0, 1) := by decide +kernel
theorem dX6_value_15 : decode cX6_value 15 = .ok (.istore 7, 2) := by decide +kernel
theorem dX6_value_17 : decode cX6_value 17 = .ok (.iload 7, 2) := by decide +kernel
theorem dX6_value_19 : decode cX6_value 19 = .ok (.iload 6, 2) := by decide +kernel
theorem dX6_value_21 : decode cX6_value 21 = .ok (.if_icmp .ge 159, 3) := by decide +kernel
theorem dX6_value_24 : decode cX6_value 24 = .ok (.aload 5, 2) := by decide +kernel
theorem dX6_value_26 : decode cX6_value 26 = .ok (.iload 7, 2) := by decide +kernel
theorem dX6_value_28 : decode cX6_value 28 = .ok (.iaload, 1) := by decide +kernel
theorem dX6_value_29 : decode cX6_value 29 = .ok (.istore 8, 2) := by decide +kernel
theorem dX6_value_31 : decode cX6_value 31 = .ok (.iload 8, 2) := by decide +kernel
theorem dX6_value_33 : decode cX6_value 33 = .ok (.bipush (-33), 2) := by decide +kernel
theorem dX6_value_35 : decode cX6_value 35 = .ok (.if_icmp .ne 37, 3) := by decide +kernel
theorem dX6_value_38 : decode cX6_value 38 = .ok (.iload 4, 2) := by decide +kernel
theorem dX6_value_40 : decode cX6_value 40 = .ok (.ifCond .le 134, 3) := by decide +kernel
theorem dX6_value_43 : decode cX6_value 43 = .ok (.aload_n 0, 1) := by decide +kernel
theorem dX6_value_44 : decode cX6_value 44 = .ok (.getfield 26, 3) := by decide +kernel
theorem dX6_value_47 : decode cX6_value 47 = .ok (.iload 4, 2) := by decide +kernel
theorem dX6_value_49 : decode cX6_value 49 = .ok (.iconst 1, 1) := by decide +kernel
theorem dX6_value_50 : decode cX6_value 50 = .ok (.isub, 1) := by decide +kernel
theorem dX6_value_51 : decode cX6_value 51 = .ok (.aload_n 0, 1) := by decide +kernel
theorem dX6_value_52 : decode cX6_value 52 = .ok (.getfield 26, 3) := by decide +kernel
theorem dX6_value_55 : decode cX6_value 55 = .ok (.iload 4, 2) := by decide +kernel
theorem dX6_value_57 : decode cX6_value 57 = .ok (.iconst 1, 1) := by decide +kernel
theorem dX6_value_58 : decode cX6_value 58 = .ok (.isub, 1) := by decide +kernel
theorem dX6_value_59 : decode cX6_value 59 = .ok (.iaload, 1) := by decide +kernel
theorem dX6_value_60 : decode cX6_value 60 = .ok (.ifCond .ne 7, 3) := by decide +kernel
theorem dX6_value_63 : decode cX6_value 63 = .ok (.iconst 1, 1) := by decide +kernel
theorem dX6_value_64 : decode cX6_value 64 = .ok (.goto 4, 3) := by decide +kernel
theorem dX6_value_67 : decode cX6_value 67 = .ok (.iconst 0, 1) := by decide +kernel
theorem dX6_value_68 : decode cX6_value 68 = .ok (.iastore, 1) := by decide +kernel
theorem dX6_value_69 : decode cX6_value 69 = .ok (.goto 105, 3) := by decide +kernel
theorem dX6_value_72 : decode cX6_value 72 = .ok (.iload 8, 2) := by decide +kernel
theorem dX6_value_74 : decode cX6_value 74 = .ok (.bipush (-3), 2) := by decide +kernel
theorem dX6_value_76 : decode cX6_value 76 = .ok (.if_icmp .ge 46, 3) := by decide +kernel
theorem dX6_value_79 : decode cX6_value 79 = .ok (.iload 4, 2) := by decide +kernel
theorem dX6_value_81 : decode cX6_value 81 = .ok (.iconst 1, 1) := by decide +kernel
theorem dX6_value_82 : decode cX6_value 82 = .ok (.if_icmp .le 92, 3) := by decide +kernel
theorem dX6_value_85 : decode cX6_value 85 = .ok (.iinc 4 (-1), 3) := by decide +kernel
theorem dX6_value_88 : decode cX6_value 88 = .ok (.aload_n 0, 1) := by decide +kernel
theorem dX6_value_89 : decode cX6_value 89 = .ok (.getfield 26, 3) := by decide +kernel
theorem dX6_value_92 : decode cX6_value 92 = .ok (.iload 4, 2) := by decide +kernel
theorem dX6_value_94 : decode cX6_value 94 = .ok (.iconst 1, 1) := by decide +kernel
theorem dX6_value_95 : decode cX6_value 95 = .ok (.isub, 1) := by decide +kernel
theorem dX6_value_96 : decode cX6_value 96 = .ok (.iload 8, 2) := by decide +kernel
theorem dX6_value_98 : decode cX6_value 98 = .ok (.ineg, 1) := by decide +kernel
theorem dX6_value_99 : decode cX6_value 99 = .ok (.aload_n 0, 1) := by decide +kernel
theorem dX6_value_100 : decode cX6_value 100 = .ok (.getfield 26, 3) := by decide +kernel
theorem dX6_value_103 : decode cX6_value 103 = .ok (.iload 4, 2) := by decide +kernel
theorem dX6_value_105 : decode cX6_value 105 = .ok (.iconst 1, 1) := by decide +kernel
theorem dX6_value_106 : decode cX6_value 106 = .ok (.isub, 1) := by decide +kernel
theorem dX6_value_107 : decode cX6_value 107 = .ok (.iaload, 1) := by decide +kernel
theorem dX6_value_108 : decode cX6_value 108 = .ok (.aload_n 0, 1) := by decide +kernel
theorem dX6_value_109 : decode cX6_value 109 = .ok (.getfield 26, 3) := by decide +kernel
theorem dX6_value_112 : decode cX6_value 112 = .ok (.iload 4, 2) := by decide +kernel
theorem dX6_value_114 : decode cX6_value 114 = .ok (.iaload, 1) := by decide +kernel
theorem dX6_value_115 : decode cX6_value 115 = .ok (.invokestatic 29, 3) := by decide +kernel
theorem dX6_value_118 : decode cX6_value 118 = .ok (.iastore, 1) := by decide +kernel
theorem dX6_value_119 : decode cX6_value 119 = .ok (.goto 55, 3) := by decide +kernel
theorem dX6_value_122 : decode cX6_value 122 = .ok (.iload 4, 2) := by decide +kernel
theorem dX6_value_124 : decode cX6_value 124 = .ok (.aload_n 0, 1) := by decide +kernel
theorem dX6_value_125 : decode cX6_value 125 = .ok (.getfield 26, 3) := by decide +kernel
theorem dX6_value_128 : decode cX6_value 128 = .ok (.arraylength, 1) := by decide +kernel
theorem dX6_value_129 : decode cX6_value 129 = .ok (.if_icmp .ge 45, 3) := by decide +kernel
theorem dX6_value_132 : decode cX6_value 132 = .ok (.aload_n 0, 1) := by decide +kernel
theorem dX6_value_133 : decode cX6_value 133 = .ok (.getfield 26, 3) := by decide +kernel
theorem dX6_value_136 : decode cX6_value 136 = .ok (.iload 4, 2) := by decide +kernel
theorem dX6_value_138 : decode cX6_value 138 = .ok (.iload 8, 2) := by decide +kernel
theorem dX6_value_140 : decode cX6_value 140 = .ok (.ifCond .lt 8, 3) := by decide +kernel
theorem dX6_value_143 : decode cX6_value 143 = .ok (.iload 8, 2) := by decide +kernel
theorem dX6_value_145 : decode cX6_value 145 = .ok (.goto 25, 3) := by decide +kernel
theorem dX6_value_148 : decode cX6_value 148 = .ok (.iload 8, 2) := by decide +kernel
theorem dX6_value_150 : decode cX6_value 150 = .ok (.iconst (-1), 1) := by decide +kernel
theorem dX6_value_151 : decode cX6_value 151 = .ok (.if_icmp .ne 7, 3) := by decide +kernel
theorem dX6_value_154 : decode cX6_value 154 = .ok (.iload_n 1, 1) := by decide +kernel
theorem dX6_value_155 : decode cX6_value 155 = .ok (.goto 15, 3) := by decide +kernel
theorem dX6_value_158 : decode cX6_value 158 = .ok (.iload 8, 2) := by decide +kernel
theorem dX6_value_160 : decode cX6_value 160 = .ok (.bipush (-2), 2) := by decide +kernel
theorem dX6_value_162 : decode cX6_value 162 = .ok (.if_icmp .ne 7, 3) := by decide +kernel
theorem dX6_value_165 : decode cX6_value 165 = .ok (.iload_n 2, 1) := by decide +kernel
theorem dX6_value_166 : decode cX6_value 166 = .ok (.goto 4, 3) := by decide +kernel
theorem dX6_value_169 : decode cX6_value 169 = .ok (.iload_n 3, 1) := by decide +kernel
theorem dX6_value_170 : decode cX6_value 170 = .ok (.iastore, 1) := by decide +kernel
theorem dX6_value_171 : decode cX6_value 171 = .ok (.iinc 4 1, 3) := by decide +kernel
theorem dX6_value_174 : decode cX6_value 174 = .ok (.iinc 7 1, 3) := by decide +kernel
theorem dX6_value_177 : decode cX6_value 177 = .ok (.goto (-160), 3) := by decide +kernel
theorem dX6_value_180 : decode cX6_value 180 = .ok (.iload 4, 2) := by decide +kernel
theorem dX6_value_182 : decode cX6_value 182 = .ok (.ifCond .le 12, 3) := by decide +kernel
theorem dX6_value_185 : decode cX6_value 185 = .ok (.aload_n 0, 1) := by decide +kernel
theorem dX6_value_186 : decode cX6_value 186 = .ok (.getfield 26, 3) := by decide +kernel
theorem dX6_value_189 : decode cX6_value 189 = .ok (.iconst 0, 1) := by decide +kernel
theorem dX6_value_190 : decode cX6_value 190 = .ok (.iaload, 1) := by decide +kernel
theorem dX6_value_191 : decode cX6_value 191 = .ok (.goto 4, 3) := by decide +kernel
theorem dX6_value_194 : decode cX6_value 194 = .ok (.iconst 0, 1) := by decide +kernel
theorem dX6_value_195 : decode cX6_value 195 = .ok (.ireturn, 1) := by decide +kernel
theorem dX6_joined_0 : decode cX6_joined 0 = .ok (.iload_n 0, 1) := by decide +kernel
theorem dX6_joined_1 : decode cX6_joined 1 = .ok (.lookupswitch 148 #[(38, 89), (42, 144), (43, 136), (45, 140), (60, 103), (61, 114), (62, 125), (124, 75)], 75) := by decide +kernel
theorem dX6_joined_76 : decode cX6_joined 76 = .ok (.iload_n 1, 1) := by decide +kernel
theorem dX6_joined_77 : decode cX6_joined 77 = .ok (.ifCond .ne 7, 3) := by decide +kernel
theorem dX6_joined_80 : decode cX6_joined 80 = .ok (.iload_n 2, 1) := by decide +kernel
theorem dX6_joined_81 : decode cX6_joined 81 = .ok (.ifCond .eq 7, 3) := by decide +kernel
theorem dX6_joined_84 : decode cX6_joined 84 = .ok (.iconst 1, 1) := by decide +kernel
theorem dX6_joined_85 : decode cX6_joined 85 = .ok (.goto 4, 3) := by decide +kernel
theorem dX6_joined_88 : decode cX6_joined 88 = .ok (.iconst 0, 1) := by decide +kernel
theorem dX6_joined_89 : decode cX6_joined 89 = .ok (.ireturn, 1) := by decide +kernel
theorem dX6_joined_90 : decode cX6_joined 90 = .ok (.iload_n 1, 1) := by decide +kernel
theorem dX6_joined_91 : decode cX6_joined 91 = .ok (.ifCond .eq 11, 3) := by decide +kernel
theorem dX6_joined_94 : decode cX6_joined 94 = .ok (.iload_n 2, 1) := by decide +kernel
theorem dX6_joined_95 : decode cX6_joined 95 = .ok (.ifCond .eq 7, 3) := by decide +kernel
theorem dX6_joined_98 : decode cX6_joined 98 = .ok (.iconst 1, 1) := by decide +kernel
theorem dX6_joined_99 : decode cX6_joined 99 = .ok (.goto 4, 3) := by decide +kernel
theorem dX6_joined_102 : decode cX6_joined 102 = .ok (.iconst 0, 1) := by decide +kernel
theorem dX6_joined_103 : decode cX6_joined 103 = .ok (.ireturn, 1) := by decide +kernel
theorem dX6_joined_104 : decode cX6_joined 104 = .ok (.iload_n 1, 1) := by decide +kernel
theorem dX6_joined_105 : decode cX6_joined 105 = .ok (.iload_n 2, 1) := by decide +kernel
theorem dX6_joined_106 : decode cX6_joined 106 = .ok (.if_icmp .ge 7, 3) := by decide +kernel
theorem dX6_joined_109 : decode cX6_joined 109 = .ok (.iconst 1, 1) := by decide +kernel
theorem dX6_joined_110 : decode cX6_joined 110 = .ok (.goto 4, 3) := by decide +kernel
theorem dX6_joined_113 : decode cX6_joined 113 = .ok (.iconst 0, 1) := by decide +kernel
theorem dX6_joined_114 : decode cX6_joined 114 = .ok (.ireturn, 1) := by decide +kernel
theorem dX6_joined_115 : decode cX6_joined 115 = .ok (.iload_n 1, 1) := by decide +kernel
theorem dX6_joined_116 : decode cX6_joined 116 = .ok (.iload_n 2, 1) := by decide +kernel
theorem dX6_joined_117 : decode cX6_joined 117 = .ok (.if_icmp .ne 7, 3) := by decide +kernel
theorem dX6_joined_120 : decode cX6_joined 120 = .ok (.iconst 1, 1) := by decide +kernel
theorem dX6_joined_121 : decode cX6_joined 121 = .ok (.goto 4, 3) := by decide +kernel
theorem dX6_joined_124 : decode cX6_joined 124 = .ok (.iconst 0, 1) := by decide +kernel
theorem dX6_joined_125 : decode cX6_joined 125 = .ok (.ireturn, 1) := by decide +kernel
theorem dX6_joined_126 : decode cX6_joined 126 = .ok (.iload_n 1, 1) := by decide +kernel
theorem dX6_joined_127 : decode cX6_joined 127 = .ok (.iload_n 2, 1) := by decide +kernel
theorem dX6_joined_128 : decode cX6_joined 128 = .ok (.if_icmp .le 7, 3) := by decide +kernel
theorem dX6_joined_131 : decode cX6_joined 131 = .ok (.iconst 1, 1) := by decide +kernel
theorem dX6_joined_132 : decode cX6_joined 132 = .ok (.goto 4, 3) := by decide +kernel
theorem dX6_joined_135 : decode cX6_joined 135 = .ok (.iconst 0, 1) := by decide +kernel
theorem dX6_joined_136 : decode cX6_joined 136 = .ok (.ireturn, 1) := by decide +kernel
theorem dX6_joined_137 : decode cX6_joined 137 = .ok (.iload_n 1, 1) := by decide +kernel
theorem dX6_joined_138 : decode cX6_joined 138 = .ok (.iload_n 2, 1) := by decide +kernel
theorem dX6_joined_139 : decode cX6_joined 139 = .ok (.iadd, 1) := by decide +kernel
theorem dX6_joined_140 : decode cX6_joined 140 = .ok (.ireturn, 1) := by decide +kernel
theorem dX6_joined_141 : decode cX6_joined 141 = .ok (.iload_n 1, 1) := by decide +kernel
theorem dX6_joined_142 : decode cX6_joined 142 = .ok (.iload_n 2, 1) := by decide +kernel
theorem dX6_joined_143 : decode cX6_joined 143 = .ok (.isub, 1) := by decide +kernel
theorem dX6_joined_144 : decode cX6_joined 144 = .ok (.ireturn, 1) := by decide +kernel
theorem dX6_joined_145 : decode cX6_joined 145 = .ok (.iload_n 1, 1) := by decide +kernel
theorem dX6_joined_146 : decode cX6_joined 146 = .ok (.iload_n 2, 1) := by decide +kernel
theorem dX6_joined_147 : decode cX6_joined 147 = .ok (.imul, 1) := by decide +kernel
theorem dX6_joined_148 : decode cX6_joined 148 = .ok (.ireturn, 1) := by decide +kernel
theorem dX6_joined_149 : decode cX6_joined 149 = .ok (.iload_n 2, 1) := by decide +kernel
theorem dX6_joined_150 : decode cX6_joined 150 = .ok (.ifCond .ne 7, 3) := by decide +kernel
theorem dX6_joined_153 : decode cX6_joined 153 = .ok (.iconst 0, 1) := by decide +kernel
theorem dX6_joined_154 : decode cX6_joined 154 = .ok (.goto 6, 3) := by decide +kernel
theorem dX6_joined_157 : decode cX6_joined 157 = .ok (.iload_n 1, 1) := by decide +kernel
theorem dX6_joined_158 : decode cX6_joined 158 = .ok (.iload_n 2, 1) := by decide +kernel
theorem dX6_joined_159 : decode cX6_joined 159 = .ok (.idiv, 1) := by decide +kernel
theorem dX6_joined_160 : decode cX6_joined 160 = .ok (.ireturn, 1) := by decide +kernel
theorem dX7_init_0 : decode cX7_init 0 = .ok (.aload_n 0, 1) := by decide +kernel
theorem dX7_init_1 : decode cX7_init 1 = .ok (.invokespecial 1, 3) := by decide +kernel
theorem dX7_init_4 : decode cX7_init 4 = .ok (.aload_n 0, 1) := by decide +kernel
theorem dX7_init_5 : decode cX7_init 5 = .ok (.new 7, 3) := by decide +kernel
theorem dX7_init_8 : decode cX7_init 8 = .ok (.dup, 1) := by decide +kernel
theorem dX7_init_9 : decode cX7_init 9 = .ok (.invokespecial 9, 3) := by decide +kernel
theorem dX7_init_12 : decode cX7_init 12 = .ok (.putfield 10, 3) := by decide +kernel
theorem dX7_init_15 : decode cX7_init 15 = .ok (.aload_n 0, 1) := by decide +kernel
theorem dX7_init_16 : decode cX7_init 16 = .ok (.new 7, 3) := by decide +kernel
theorem dX7_init_19 : decode cX7_init 19 = .ok (.dup, 1) := by decide +kernel
theorem dX7_init_20 : decode cX7_init 20 = .ok (.invokespecial 9, 3) := by decide +kernel
theorem dX7_init_23 : decode cX7_init 23 = .ok (.putfield 16, 3) := by decide +kernel
theorem dX7_init_26 : decode cX7_init 26 = .ok (.aload_n 0, 1) := by decide +kernel
theorem dX7_init_27 : decode cX7_init 27 = .ok (.new 7, 3) := by decide +kernel
theorem dX7_init_30 : decode cX7_init 30 = .ok (.dup, 1) := by decide +kernel
theorem dX7_init_31 : decode cX7_init 31 = .ok (.invokespecial 9, 3) := by decide +kernel
theorem dX7_init_34 : decode cX7_init 34 = .ok (.putfield 19, 3) := by decide +kernel
theorem dX7_init_37 : decode cX7_init 37 = .ok (.aload_n 0, 1) := by decide +kernel
theorem dX7_init_38 : decode cX7_init 38 = .ok (.iconst 0, 1) := by decide +kernel
theorem dX7_init_39 : decode cX7_init 39 = .ok (.putfield 22, 3) := by decide +kernel
theorem dX7_init_42 : decode cX7_init 42 = .ok (.aload_n 0, 1) := by decide +kernel
theorem dX7_init_43 : decode cX7_init 43 = .ok (.new 26, 3) := by decide +kernel
theorem dX7_init_46 : decode cX7_init 46 = .ok (.dup, 1) := by decide +kernel
theorem dX7_init_47 : decode cX7_init 47 = .ok (.invokespecial 28, 3) := by decide +kernel
theorem dX7_init_50 : decode cX7_init 50 = .ok (.putfield 29, 3) := by decide +kernel
theorem dX7_init_53 : decode cX7_init 53 = .ok (.aload_n 0, 1) := by decide +kernel
theorem dX7_init_54 : decode cX7_init 54 = .ok (.aload_n 0, 1) := by decide +kernel
theorem dX7_init_55 : decode cX7_init 55 = .ok (.getfield 29, 3) := by decide +kernel
theorem dX7_init_58 : decode cX7_init 58 = .ok (.getfield 33, 3) := by decide +kernel
theorem dX7_init_61 : decode cX7_init 61 = .ok (.putfield 37, 3) := by decide +kernel
theorem dX7_init_64 : decode cX7_init 64 = .ok (.aload_n 0, 1) := by decide +kernel
theorem dX7_init_65 : decode cX7_init 65 = .ok (.new 38, 3) := by decide +kernel
theorem dX7_init_68 : decode cX7_init 68 = .ok (.dup, 1) := by decide +kernel
theorem dX7_init_69 : decode cX7_init 69 = .ok (.bipush 60, 2) := by decide +kernel
theorem dX7_init_71 : decode cX7_init 71 = .ok (.invokespecial 40, 3) := by decide +kernel
theorem dX7_init_74 : decode cX7_init 74 = .ok (.putfield 43, 3) := by decide +kernel
theorem dX7_init_77 : decode cX7_init 77 = .ok (.aload_n 0, 1) := by decide +kernel
theorem dX7_init_78 : decode cX7_init 78 = .ok (.iconst 4, 1) := by decide +kernel
theorem dX7_init_79 : decode cX7_init 79 = .ok (.anewarray 46, 3) := by decide +kernel
theorem dX7_init_82 : decode cX7_init 82 = .ok (.putfield 48, 3) := by decide +kernel
theorem dX7_init_85 : decode cX7_init 85 = .ok (.aload_n 0, 1) := by decide +kernel
theorem dX7_init_86 : decode cX7_init 86 = .ok (.iconst 5, 1) := by decide +kernel
theorem dX7_init_87 : decode cX7_init 87 = .ok (.anewarray 52, 3) := by decide +kernel
theorem dX7_init_90 : decode cX7_init 90 = .ok (.putfield 54, 3) := by decide +kernel
theorem dX7_init_93 : decode cX7_init 93 = .ok (.iconst 0, 1) := by decide +kernel
theorem dX7_init_94 : decode cX7_init 94 = .ok (.istore_n 1, 1) := by decide +kernel
theorem dX7_init_95 : decode cX7_init 95 = .ok (.iload_n 1, 1) := by decide +kernel
theorem dX7_init_96 : decode cX7_init 96 = .ok (.aload_n 0, 1) := by decide +kernel
theorem dX7_init_97 : decode cX7_init 97 = .ok (.getfield 48, 3) := by decide +kernel
theorem dX7_init_100 : decode cX7_init 100 = .ok (.arraylength, 1) := by decide +kernel
theorem dX7_init_101 : decode cX7_init 101 = .ok (.if_icmp .ge 22, 3) := by decide +kernel
theorem dX7_init_104 : decode cX7_init 104 = .ok (.aload_n 0, 1) := by decide +kernel
theorem dX7_init_105 : decode cX7_init 105 = .ok (.getfield 48, 3) := by decide +kernel
theorem dX7_init_108 : decode cX7_init 108 = .ok (.iload_n 1, 1) := by decide +kernel
theorem dX7_init_109 : decode cX7_init 109 = .ok (.new 46, 3) := by decide +kernel
theorem dX7_init_112 : decode cX7_init 112 = .ok (.dup, 1) := by decide +kernel
theorem dX7_init_113 : decode cX7_init 113 = .ok (.invokespecial 58, 3) := by decide +kernel
theorem dX7_init_116 : decode cX7_init 116 = .ok (.aastore, 1) := by decide +kernel
theorem dX7_init_117 : decode cX7_init 117 = .ok (.iinc 1 1, 3) := by decide +kernel
theorem dX7_init_120 : decode cX7_init 120 = .ok (.goto (-25), 3) := by decide +kernel
theorem dX7_init_123 : decode cX7_init 123 = .ok (.iconst 0, 1) := by decide +kernel
theorem dX7_init_124 : decode cX7_init 124 = .ok (.istore_n 1, 1) := by decide +kernel
theorem dX7_init_125 : decode cX7_init 125 = .ok (.iload_n 1, 1) := by decide +kernel
theorem dX7_init_126 : decode cX7_init 126 = .ok (.aload_n 0, 1) := by decide +kernel
theorem dX7_init_127 : decode cX7_init 127 = .ok (.getfield 54, 3) := by decide +kernel
theorem dX7_init_130 : decode cX7_init 130 = .ok (.arraylength, 1) := by decide +kernel
theorem dX7_init_131 : decode cX7_init 131 = .ok (.if_icmp .ge 22, 3) := by decide +kernel
theorem dX7_init_134 : decode cX7_init 134 = .ok (.aload_n 0, 1) := by decide +kernel
theorem dX7_init_135 : decode cX7_init 135 = .ok (.getfield 54, 3) := by decide +kernel
theorem dX7_init_138 : decode cX7_init 138 = .ok (.iload_n 1, 1) := by decide +kernel
theorem dX7_init_139 : decode cX7_init 139 = .ok (.new 52, 3) := by decide +kernel
theorem dX7_init_142 : decode cX7_init 142 = .ok (.dup, 1) := by decide +kernel
theorem dX7_init_143 : decode cX7_init 143 = .ok (.invokespecial 59, 3) := by decide +kernel
theorem dX7_init_146 : decode cX7_init 146 = .ok (.aastore, 1) := by decide +kernel
theorem dX7_init_147 : decode cX7_init 147 = .ok (.iinc 1 1, 3) := by decide +kernel
theorem dX7_init_150 : decode cX7_init 150 = .ok (.goto (-25), 3) := by decide +kernel
theorem dX7_init_153 : decode cX7_init 153 = .ok (.return_, 1) := by decide +kernel
theorem dX7_comer_0 : decode cX7_comer 0 = .ok (.iload_n 1, 1) := by decide +kernel
theorem dX7_comer_1 : decode cX7_comer 1 = .ok (.invokestatic 60, 3) := by decide +kernel
theorem dX7_comer_4 : decode cX7_comer 4 = .ok (.ifCond .eq 28, 3) := by decide +kernel
theorem dX7_comer_7 : decode cX7_comer 7 = .ok (.iconst 1, 1) := by decide +kernel
theorem dX7_comer_8 : decode cX7_comer 8 = .ok (.iload_n 2, 1) := by decide +kernel
theorem dX7_comer_9 : decode cX7_comer 9 = .ok (.invokestatic 64, 3) := by decide +kernel
theorem dX7_comer_12 : decode cX7_comer 12 = .ok (.ifCond .eq 20, 3) := by decide +kernel
theorem dX7_comer_15 : decode cX7_comer 15 = .ok (.iconst 2, 1) := by decide +kernel
theorem dX7_comer_16 : decode cX7_comer 16 = .ok (.iload_n 3, 1) := by decide +kernel
theorem dX7_comer_17 : decode cX7_comer 17 = .ok (.invokestatic 64, 3) := by decide +kernel
theorem dX7_comer_20 : decode cX7_comer 20 = .ok (.ifCond .eq 12, 3) := by decide +kernel
theorem dX7_comer_23 : decode cX7_comer 23 = .ok (.iconst 3, 1) := by decide +kernel
theorem dX7_comer_24 : decode cX7_comer 24 = .ok (.iload 4, 2) := by decide +kernel
theorem dX7_comer_26 : decode cX7_comer 26 = .ok (.invokestatic 64, 3) := by decide +kernel
theorem dX7_comer_29 : decode cX7_comer 29 = .ok (.ifCond .ne 6, 3) := by decide +kernel
theorem dX7_comer_32 : decode cX7_comer 32 = .ok (.ldc 68, 2) := by decide +kernel
theorem dX7_comer_34 : decode cX7_comer 34 = .ok (.ireturn, 1) := by decide +kernel
theorem dX7_comer_35 : decode cX7_comer 35 = .ok (.aload_n 0, 1) := by decide +kernel
theorem dX7_comer_36 : decode cX7_comer 36 = .ok (.getfield 10, 3) := by decide +kernel
theorem dX7_comer_39 : decode cX7_comer 39 = .ok (.getfield 69, 3) := by decide +kernel
theorem dX7_comer_42 : decode cX7_comer 42 = .ok (.bipush 8, 2) := by decide +kernel
theorem dX7_comer_44 : decode cX7_comer 44 = .ok (.if_icmp .lt 6, 3) := by decide +kernel
theorem dX7_comer_47 : decode cX7_comer 47 = .ok (.ldc 73, 2) := by decide +kernel
theorem dX7_comer_49 : decode cX7_comer 49 = .ok (.ireturn, 1) := by decide +kernel
theorem dX7_comer_50 : decode cX7_comer 50 = .ok (.aload_n 0, 1) := by decide +kernel
theorem dX7_comer_51 : decode cX7_comer 51 = .ok (.getfield 10, 3) := by decide +kernel
theorem dX7_comer_54 : decode cX7_comer 54 = .ok (.iload_n 1, 1) := by decide +kernel
theorem dX7_comer_55 : decode cX7_comer 55 = .ok (.iload_n 2, 1) := by decide +kernel
theorem dX7_comer_56 : decode cX7_comer 56 = .ok (.iload_n 3, 1) := by decide +kernel
theorem dX7_comer_57 : decode cX7_comer 57 = .ok (.iload 4, 2) := by decide +kernel
theorem dX7_comer_59 : decode cX7_comer 59 = .ok (.invokevirtual 74, 3) := by decide +kernel
theorem dX7_comer_62 : decode cX7_comer 62 = .ok (.aload_n 0, 1) := by decide +kernel
theorem dX7_comer_63 : decode cX7_comer 63 = .ok (.getfield 10, 3) := by decide +kernel
theorem dX7_comer_66 : decode cX7_comer 66 = .ok (.getfield 69, 3) := by decide +kernel
theorem dX7_comer_69 : decode cX7_comer 69 = .ok (.iconst 1, 1) := by decide +kernel
theorem dX7_comer_70 : decode cX7_comer 70 = .ok (.isub, 1) := by decide +kernel
theorem dX7_comer_71 : decode cX7_comer 71 = .ok (.ireturn, 1) := by decide +kernel
theorem dX7_told_0 : decode cX7_told 0 = .ok (.aload_n 0, 1) := by decide +kernel
theorem dX7_told_1 : decode cX7_told 1 = .ok (.getfield 10, 3) := by decide +kernel
theorem dX7_told_4 : decode cX7_told 4 = .ok (.iload_n 1, 1) := by decide +kernel
theorem dX7_told_5 : decode cX7_told 5 = .ok (.invokevirtual 78, 3) := by decide +kernel
theorem dX7_told_8 : decode cX7_told 8 = .ok (.astore_n 3, 1) := by decide +kernel
theorem dX7_told_9 : decode cX7_told 9 = .ok (.aload_n 3, 1) := by decide +kernel
theorem dX7_told_10 : decode cX7_told 10 = .ok (.ifnull 13, 3) := by decide +kernel
theorem dX7_told_13 : decode cX7_told 13 = .ok (.iload_n 2, 1) := by decide +kernel
theorem dX7_told_14 : decode cX7_told 14 = .ok (.iconst 0, 1) := by decide +kernel
theorem dX7_told_15 : decode cX7_told 15 = .ok (.bipush 14, 2) := by decide +kernel
theorem dX7_told_17 : decode cX7_told 17 = .ok (.invokestatic 82, 3) := by decide +kernel
theorem dX7_told_20 : decode cX7_told 20 = .ok (.ifCond .ne 6, 3) := by decide +kernel
theorem dX7_told_23 : decode cX7_told 23 = .ok (.ldc 68, 2) := by decide +kernel
theorem dX7_told_25 : decode cX7_told 25 = .ok (.ireturn, 1) := by decide +kernel
theorem dX7_told_26 : decode cX7_told 26 = .ok (.iload_n 2, 1) := by decide +kernel
theorem dX7_told_27 : decode cX7_told 27 = .ok (.tableswitch 144 0 14 #[73, 144, 144, 144, 144, 78, 83, 88, 93, 98, 103, 108, 113, 118, 135], 73) := by decide +kernel
theorem dX7_told_100 : decode cX7_told 100 = .ok (.aload_n 3, 1) := by decide +kernel
theorem dX7_told_101 : decode cX7_told 101 = .ok (.getfield 86, 3) := by decide +kernel
theorem dX7_told_104 : decode cX7_told 104 = .ok (.ireturn, 1) := by decide +kernel
theorem dX7_told_105 : decode cX7_told 105 = .ok (.aload_n 3, 1) := by decide +kernel
theorem dX7_told_106 : decode cX7_told 106 = .ok (.getfield 91, 3) := by decide +kernel
theorem dX7_told_109 : decode cX7_told 109 = .ok (.ireturn, 1) := by decide +kernel
theorem dX7_told_110 : decode cX7_told 110 = .ok (.aload_n 3, 1) := by decide +kernel
theorem dX7_told_111 : decode cX7_told 111 = .ok (.getfield 94, 3) := by decide +kernel
theorem dX7_told_114 : decode cX7_told 114 = .ok (.ireturn, 1) := by decide +kernel
theorem dX7_told_115 : decode cX7_told 115 = .ok (.aload_n 3, 1) := by decide +kernel
theorem dX7_told_116 : decode cX7_told 116 = .ok (.getfield 97, 3) := by decide +kernel
theorem dX7_told_119 : decode cX7_told 119 = .ok (.ireturn, 1) := by decide +kernel
theorem dX7_told_120 : decode cX7_told 120 = .ok (.aload_n 3, 1) := by decide +kernel
theorem dX7_told_121 : decode cX7_told 121 = .ok (.getfield 100, 3) := by decide +kernel
theorem dX7_told_124 : decode cX7_told 124 = .ok (.ireturn, 1) := by decide +kernel
theorem dX7_told_125 : decode cX7_told 125 = .ok (.aload_n 3, 1) := by decide +kernel
theorem dX7_told_126 : decode cX7_told 126 = .ok (.getfield 103, 3) := by decide +kernel
theorem dX7_told_129 : decode cX7_told 129 = .ok (.ireturn, 1) := by decide +kernel
theorem dX7_told_130 : decode cX7_told 130 = .ok (.aload_n 3, 1) := by decide +kernel
theorem dX7_told_131 : decode cX7_told 131 = .ok (.getfield 106, 3) := by decide +kernel
theorem dX7_told_134 : decode cX7_told 134 = .ok (.ireturn, 1) := by decide +kernel
theorem dX7_told_135 : decode cX7_told 135 = .ok (.aload_n 3, 1) := by decide +kernel
theorem dX7_told_136 : decode cX7_told 136 = .ok (.getfield 109, 3) := by decide +kernel
theorem dX7_told_139 : decode cX7_told 139 = .ok (.ireturn, 1) := by decide +kernel
theorem dX7_told_140 : decode cX7_told 140 = .ok (.aload_n 3, 1) := by decide +kernel
theorem dX7_told_141 : decode cX7_told 141 = .ok (.invokevirtual 112, 3) := by decide +kernel
theorem dX7_told_144 : decode cX7_told 144 = .ok (.ireturn, 1) := by decide +kernel
theorem dX7_told_145 : decode cX7_told 145 = .ok (.aload_n 0, 1) := by decide +kernel
theorem dX7_told_146 : decode cX7_told 146 = .ok (.getfield 10, 3) := by decide +kernel
theorem dX7_told_149 : decode cX7_told 149 = .ok (.aload_n 3, 1) := by decide +kernel
theorem dX7_told_150 : decode cX7_told 150 = .ok (.invokevirtual 116, 3) := by decide +kernel
theorem dX7_told_153 : decode cX7_told 153 = .ok (.ifCond .eq 7, 3) := by decide +kernel
theorem dX7_told_156 : decode cX7_told 156 = .ok (.iconst 1, 1) := by decide +kernel
theorem dX7_told_157 : decode cX7_told 157 = .ok (.goto 4, 3) := by decide +kernel
theorem dX7_told_160 : decode cX7_told 160 = .ok (.iconst 0, 1) := by decide +kernel
theorem dX7_told_161 : decode cX7_told 161 = .ok (.ireturn, 1) := by decide +kernel
theorem dX7_told_162 : decode cX7_told 162 = .ok (.aload_n 0, 1) := by decide +kernel
theorem dX7_told_163 : decode cX7_told 163 = .ok (.getfield 10, 3) := by decide +kernel
theorem dX7_told_166 : decode cX7_told 166 = .ok (.aload_n 3, 1) := by decide +kernel
theorem dX7_told_167 : decode cX7_told 167 = .ok (.invokevirtual 120, 3) := by decide +kernel
theorem dX7_told_170 : decode cX7_told 170 = .ok (.ireturn, 1) := by decide +kernel
theorem dX7_told_171 : decode cX7_told 171 = .ok (.aload_n 3, 1) := by decide +kernel
theorem dX7_told_172 : decode cX7_told 172 = .ok (.iload_n 2, 1) := by decide +kernel
theorem dX7_told_173 : decode cX7_told 173 = .ok (.invokevirtual 124, 3) := by decide +kernel
theorem dX7_told_176 : decode cX7_told 176 = .ok (.ireturn, 1) := by decide +kernel
theorem dX7_as_0 : decode cX7_as 0 = .ok (.aload_n 0, 1) := by decide +kernel
theorem dX7_as_1 : decode cX7_as 1 = .ok (.getfield 10, 3) := by decide +kernel
theorem dX7_as_4 : decode cX7_as 4 = .ok (.iload_n 1, 1) := by decide +kernel
theorem dX7_as_5 : decode cX7_as 5 = .ok (.invokevirtual 78, 3) := by decide +kernel
theorem dX7_as_8 : decode cX7_as 8 = .ok (.astore_n 3, 1) := by decide +kernel
theorem dX7_as_9 : decode cX7_as 9 = .ok (.aload_n 3, 1) := by decide +kernel
theorem dX7_as_10 : decode cX7_as 10 = .ok (.ifnull 10, 3) := by decide +kernel
theorem dX7_as_13 : decode cX7_as 13 = .ok (.iload_n 2, 1) := by decide +kernel
theorem dX7_as_14 : decode cX7_as 14 = .ok (.invokestatic 60, 3) := by decide +kernel
theorem dX7_as_17 : decode cX7_as 17 = .ok (.ifCond .ne 6, 3) := by decide +kernel
theorem dX7_as_20 : decode cX7_as 20 = .ok (.ldc 68, 2) := by decide +kernel
theorem dX7_as_22 : decode cX7_as 22 = .ok (.ireturn, 1) := by decide +kernel
theorem dX7_as_23 : decode cX7_as 23 = .ok (.aload_n 3, 1) := by decide +kernel
theorem dX7_as_24 : decode cX7_as 24 = .ok (.getfield 86, 3) := by decide +kernel
theorem dX7_as_27 : decode cX7_as 27 = .ok (.iload_n 2, 1) := by decide +kernel
theorem dX7_as_28 : decode cX7_as 28 = .ok (.invokestatic 128, 3) := by decide +kernel
theorem dX7_as_31 : decode cX7_as 31 = .ok (.ifCond .eq 10, 3) := by decide +kernel
theorem dX7_as_34 : decode cX7_as 34 = .ok (.aload_n 3, 1) := by decide +kernel
theorem dX7_as_35 : decode cX7_as 35 = .ok (.getfield 131, 3) := by decide +kernel
theorem dX7_as_38 : decode cX7_as 38 = .ok (.goto 5, 3) := by decide +kernel
theorem dX7_as_41 : decode cX7_as 41 = .ok (.ldc 134, 2) := by decide +kernel
theorem dX7_as_43 : decode cX7_as 43 = .ok (.ireturn, 1) := by decide +kernel
theorem dX7_turns_0 : decode cX7_turns 0 = .ok (.aload_n 0, 1) := by decide +kernel
theorem dX7_turns_1 : decode cX7_turns 1 = .ok (.getfield 10, 3) := by decide +kernel
theorem dX7_turns_4 : decode cX7_turns 4 = .ok (.iload_n 1, 1) := by decide +kernel
theorem dX7_turns_5 : decode cX7_turns 5 = .ok (.invokevirtual 78, 3) := by decide +kernel
theorem dX7_turns_8 : decode cX7_turns 8 = .ok (.astore_n 3, 1) := by decide +kernel
theorem dX7_turns_9 : decode cX7_turns 9 = .ok (.aload_n 3, 1) := by decide +kernel
theorem dX7_turns_10 : decode cX7_turns 10 = .ok (.ifnull 10, 3) := by decide +kernel
theorem dX7_turns_13 : decode cX7_turns 13 = .ok (.iload_n 2, 1) := by decide +kernel
theorem dX7_turns_14 : decode cX7_turns 14 = .ok (.invokestatic 60, 3) := by decide +kernel
theorem dX7_turns_17 : decode cX7_turns 17 = .ok (.ifCond .ne 6, 3) := by decide +kernel
theorem dX7_turns_20 : decode cX7_turns 20 = .ok (.ldc 68, 2) := by decide +kernel
theorem dX7_turns_22 : decode cX7_turns 22 = .ok (.ireturn, 1) := by decide +kernel
theorem dX7_turns_23 : decode cX7_turns 23 = .ok (.aload_n 3, 1) := by decide +kernel
theorem dX7_turns_24 : decode cX7_turns 24 = .ok (.getfield 86, 3) := by decide +kernel
theorem dX7_turns_27 : decode cX7_turns 27 = .ok (.istore 4, 2) := by decide +kernel
theorem dX7_turns_29 : decode cX7_turns 29 = .ok (.aload_n 3, 1) := by decide +kernel
theorem dX7_turns_30 : decode cX7_turns 30 = .ok (.iload_n 2, 1) := by decide +kernel
theorem dX7_turns_31 : decode cX7_turns 31 = .ok (.putfield 86, 3) := by decide +kernel
theorem dX7_turns_34 : decode cX7_turns 34 = .ok (.iload 4, 2) := by decide +kernel
theorem dX7_turns_36 : decode cX7_turns 36 = .ok (.ireturn, 1) := by decide +kernel
theorem dX7_set_0 : decode cX7_set 0 = .ok (.aload_n 0, 1) := by decide +kernel
theorem dX7_set_1 : decode cX7_set 1 = .ok (.getfield 10, 3) := by decide +kernel
theorem dX7_set_4 : decode cX7_set 4 = .ok (.iload_n 1, 1) := by decide +kernel
theorem dX7_set_5 : decode cX7_set 5 = .ok (.invokevirtual 78, 3) := by decide +kernel
theorem dX7_set_8 : decode cX7_set 8 = .ok (.astore 4, 2) := by decide +kernel
theorem dX7_set_10 : decode cX7_set 10 = .ok (.aload 4, 2) := by decide +kernel
theorem dX7_set_12 : decode cX7_set 12 = .ok (.ifnull 20, 3) := by decide +kernel
theorem dX7_set_15 : decode cX7_set 15 = .ok (.iload_n 2, 1) := by decide +kernel
theorem dX7_set_16 : decode cX7_set 16 = .ok (.iconst 1, 1) := by decide +kernel
theorem dX7_set_17 : decode cX7_set 17 = .ok (.iconst 4, 1) := by decide +kernel
theorem dX7_set_18 : decode cX7_set 18 = .ok (.invokestatic 82, 3) := by decide +kernel
theorem dX7_set_21 : decode cX7_set 21 = .ok (.ifCond .eq 11, 3) := by decide +kernel
theorem dX7_set_24 : decode cX7_set 24 = .ok (.iload_n 2, 1) := by decide +kernel
theorem dX7_set_25 : decode cX7_set 25 = .ok (.iload_n 3, 1) := by decide +kernel
theorem dX7_set_26 : decode cX7_set 26 = .ok (.invokestatic 64, 3) := by decide +kernel
theorem dX7_set_29 : decode cX7_set 29 = .ok (.ifCond .ne 6, 3) := by decide +kernel
theorem dX7_set_32 : decode cX7_set 32 = .ok (.ldc 68, 2) := by decide +kernel
theorem dX7_set_34 : decode cX7_set 34 = .ok (.ireturn, 1) := by decide +kernel
theorem dX7_set_35 : decode cX7_set 35 = .ok (.aload 4, 2) := by decide +kernel
theorem dX7_set_37 : decode cX7_set 37 = .ok (.iload_n 2, 1) := by decide +kernel
theorem dX7_set_38 : decode cX7_set 38 = .ok (.invokevirtual 124, 3) := by decide +kernel
theorem dX7_set_41 : decode cX7_set 41 = .ok (.istore 5, 2) := by decide +kernel
theorem dX7_set_43 : decode cX7_set 43 = .ok (.aload 4, 2) := by decide +kernel
theorem dX7_set_45 : decode cX7_set 45 = .ok (.iload_n 2, 1) := by decide +kernel
theorem dX7_set_46 : decode cX7_set 46 = .ok (.iload_n 3, 1) := by decide +kernel
theorem dX7_set_47 : decode cX7_set 47 = .ok (.invokevirtual 135, 3) := by decide +kernel
theorem dX7_set_50 : decode cX7_set 50 = .ok (.iload 5, 2) := by decide +kernel
theorem dX7_set_52 : decode cX7_set 52 = .ok (.ireturn, 1) := by decide +kernel
theorem dX7_well_0 : decode cX7_well 0 = .ok (.iload_n 1, 1) := by decide +kernel
theorem dX7_well_1 : decode cX7_well 1 = .ok (.iconst 0, 1) := by decide +kernel
theorem dX7_well_2 : decode cX7_well 2 = .ok (.getstatic 139, 3) := by decide +kernel
theorem dX7_well_5 : decode cX7_well 5 = .ok (.arraylength, 1) := by decide +kernel
theorem dX7_well_6 : decode cX7_well 6 = .ok (.iconst 1, 1) := by decide +kernel
theorem dX7_well_7 : decode cX7_well 7 = .ok (.isub, 1) := by decide +kernel
theorem dX7_well_8 : decode cX7_well 8 = .ok (.invokestatic 82, 3) := by decide +kernel
theorem dX7_well_11 : decode cX7_well 11 = .ok (.ifCond .eq 20, 3) := by decide +kernel
theorem dX7_well_14 : decode cX7_well 14 = .ok (.iload_n 2, 1) := by decide +kernel
theorem dX7_well_15 : decode cX7_well 15 = .ok (.getstatic 139, 3) := by decide +kernel
theorem dX7_well_18 : decode cX7_well 18 = .ok (.iload_n 1, 1) := by decide +kernel
theorem dX7_well_19 : decode cX7_well 19 = .ok (.iaload, 1) := by decide +kernel
theorem dX7_well_20 : decode cX7_well 20 = .ok (.getstatic 143, 3) := by decide +kernel
theorem dX7_well_23 : decode cX7_well 23 = .ok (.iload_n 1, 1) := by decide +kernel
theorem dX7_well_24 : decode cX7_well 24 = .ok (.iaload, 1) := by decide +kernel
theorem dX7_well_25 : decode cX7_well 25 = .ok (.invokestatic 82, 3) := by decide +kernel
theorem dX7_well_28 : decode cX7_well 28 = .ok (.ifCond .ne 6, 3) := by decide +kernel
theorem dX7_well_31 : decode cX7_well 31 = .ok (.ldc 68, 2) := by decide +kernel
theorem dX7_well_33 : decode cX7_well 33 = .ok (.ireturn, 1) := by decide +kernel
theorem dX7_well_34 : decode cX7_well 34 = .ok (.aload_n 0, 1) := by decide +kernel
theorem dX7_well_35 : decode cX7_well 35 = .ok (.getfield 10, 3) := by decide +kernel
theorem dX7_well_38 : decode cX7_well 38 = .ok (.iload_n 1, 1) := by decide +kernel
theorem dX7_well_39 : decode cX7_well 39 = .ok (.iload_n 2, 1) := by decide +kernel
theorem dX7_well_40 : decode cX7_well 40 = .ok (.invokevirtual 146, 3) := by decide +kernel
theorem dX7_well_43 : decode cX7_well 43 = .ok (.ireturn, 1) := by decide +kernel
theorem dX7_deal_0 : decode cX7_deal 0 = .ok (.iload_n 1, 1) := by decide +kernel
theorem dX7_deal_1 : decode cX7_deal 1 = .ok (.iconst 1, 1) := by decide +kernel
theorem dX7_deal_2 : decode cX7_deal 2 = .ok (.bipush 8, 2) := by decide +kernel
theorem dX7_deal_4 : decode cX7_deal 4 = .ok (.invokestatic 82, 3) := by decide +kernel
theorem dX7_deal_7 : decode cX7_deal 7 = .ok (.ifCond .ne 6, 3) := by decide +kernel
theorem dX7_deal_10 : decode cX7_deal 10 = .ok (.ldc 68, 2) := by decide +kernel
theorem dX7_deal_12 : decode cX7_deal 12 = .ok (.ireturn, 1) := by decide +kernel
theorem dX7_deal_13 : decode cX7_deal 13 = .ok (.iload_n 1, 1) := by decide +kernel
theorem dX7_deal_14 : decode cX7_deal 14 = .ok (.bipush 8, 2) := by decide +kernel
theorem dX7_deal_16 : decode cX7_deal 16 = .ok (.aload_n 0, 1) := by decide +kernel
theorem dX7_deal_17 : decode cX7_deal 17 = .ok (.getfield 10, 3) := by decide +kernel
theorem dX7_deal_20 : decode cX7_deal 20 = .ok (.getfield 69, 3) := by decide +kernel
theorem dX7_deal_23 : decode cX7_deal 23 = .ok (.isub, 1) := by decide +kernel
theorem dX7_deal_24 : decode cX7_deal 24 = .ok (.invokestatic 150, 3) := by decide +kernel
theorem dX7_deal_27 : decode cX7_deal 27 = .ok (.istore_n 2, 1) := by decide +kernel
theorem dX7_deal_28 : decode cX7_deal 28 = .ok (.iconst 0, 1) := by decide +kernel
theorem dX7_deal_29 : decode cX7_deal 29 = .ok (.istore_n 3, 1) := by decide +kernel
theorem dX7_deal_30 : decode cX7_deal 30 = .ok (.iload_n 3, 1) := by decide +kernel
theorem dX7_deal_31 : decode cX7_deal 31 = .ok (.iload_n 2, 1) := by decide +kernel
theorem dX7_deal_32 : decode cX7_deal 32 = .ok (.if_icmp .ge 76, 3) := by decide +kernel
theorem dX7_deal_35 : decode cX7_deal 35 = .ok (.aload_n 0, 1) := by decide +kernel
theorem dX7_deal_36 : decode cX7_deal 36 = .ok (.getfield 10, 3) := by decide +kernel
theorem dX7_deal_39 : decode cX7_deal 39 = .ok (.invokevirtual 155, 3) := by decide +kernel
theorem dX7_deal_42 : decode cX7_deal 42 = .ok (.getstatic 158, 3) := by decide +kernel
theorem dX7_deal_45 : decode cX7_deal 45 = .ok (.arraylength, 1) := by decide +kernel
theorem dX7_deal_46 : decode cX7_deal 46 = .ok (.irem, 1) := by decide +kernel
theorem dX7_deal_47 : decode cX7_deal 47 = .ok (.istore 4, 2) := by decide +kernel
theorem dX7_deal_49 : decode cX7_deal 49 = .ok (.aload_n 0, 1) := by decide +kernel
theorem dX7_deal_50 : decode cX7_deal 50 = .ok (.getfield 10, 3) := by decide +kernel
theorem dX7_deal_53 : decode cX7_deal 53 = .ok (.invokevirtual 155, 3) := by decide +kernel
theorem dX7_deal_56 : decode cX7_deal 56 = .ok (.bipush 60, 2) := by decide +kernel
theorem dX7_deal_58 : decode cX7_deal 58 = .ok (.irem, 1) := by decide +kernel
theorem dX7_deal_59 : decode cX7_deal 59 = .ok (.istore 5, 2) := by decide +kernel
theorem dX7_deal_61 : decode cX7_deal 61 = .ok (.iconst 1, 1) := by decide +kernel
theorem dX7_deal_62 : decode cX7_deal 62 = .ok (.aload_n 0, 1) := by decide +kernel
theorem dX7_deal_63 : decode cX7_deal 63 = .ok (.getfield 10, 3) := by decide +kernel
theorem dX7_deal_66 : decode cX7_deal 66 = .ok (.invokevirtual 155, 3) := by decide +kernel
theorem dX7_deal_69 : decode cX7_deal 69 = .ok (.bipush 30, 2) := by decide +kernel
theorem dX7_deal_71 : decode cX7_deal 71 = .ok (.irem, 1) := by decide +kernel
theorem dX7_deal_72 : decode cX7_deal 72 = .ok (.iadd, 1) := by decide +kernel
theorem dX7_deal_73 : decode cX7_deal 73 = .ok (.istore 6, 2) := by decide +kernel
theorem dX7_deal_75 : decode cX7_deal 75 = .ok (.aload_n 0, 1) := by decide +kernel
theorem dX7_deal_76 : decode cX7_deal 76 = .ok (.getfield 10, 3) := by decide +kernel
theorem dX7_deal_79 : decode cX7_deal 79 = .ok (.invokevirtual 155, 3) := by decide +kernel
theorem dX7_deal_82 : decode cX7_deal 82 = .ok (.bipush 10, 2) := by decide +kernel
theorem dX7_deal_84 : decode cX7_deal 84 = .ok (.irem, 1) := by decide +kernel
theorem dX7_deal_85 : decode cX7_deal 85 = .ok (.istore 7, 2) := by decide +kernel
theorem dX7_deal_87 : decode cX7_deal 87 = .ok (.aload_n 0, 1) := by decide +kernel
theorem dX7_deal_88 : decode cX7_deal 88 = .ok (.getfield 10, 3) := by decide +kernel
theorem dX7_deal_91 : decode cX7_deal 91 = .ok (.iload 4, 2) := by decide +kernel
theorem dX7_deal_93 : decode cX7_deal 93 = .ok (.iload 5, 2) := by decide +kernel
theorem dX7_deal_95 : decode cX7_deal 95 = .ok (.iload 6, 2) := by decide +kernel
theorem dX7_deal_97 : decode cX7_deal 97 = .ok (.iload 7, 2) := by decide +kernel
theorem dX7_deal_99 : decode cX7_deal 99 = .ok (.invokevirtual 74, 3) := by decide +kernel
theorem dX7_deal_102 : decode cX7_deal 102 = .ok (.iinc 3 1, 3) := by decide +kernel
theorem dX7_deal_105 : decode cX7_deal 105 = .ok (.goto (-75), 3) := by decide +kernel
theorem dX7_deal_108 : decode cX7_deal 108 = .ok (.iload_n 2, 1) := by decide +kernel
theorem dX7_deal_109 : decode cX7_deal 109 = .ok (.ireturn, 1) := by decide +kernel
theorem dX7_seed_0 : decode cX7_seed 0 = .ok (.aload_n 0, 1) := by decide +kernel
theorem dX7_seed_1 : decode cX7_seed 1 = .ok (.getfield 10, 3) := by decide +kernel
theorem dX7_seed_4 : decode cX7_seed 4 = .ok (.getfield 161, 3) := by decide +kernel
theorem dX7_seed_7 : decode cX7_seed 7 = .ok (.istore_n 2, 1) := by decide +kernel
theorem dX7_seed_8 : decode cX7_seed 8 = .ok (.aload_n 0, 1) := by decide +kernel
theorem dX7_seed_9 : decode cX7_seed 9 = .ok (.getfield 10, 3) := by decide +kernel
theorem dX7_seed_12 : decode cX7_seed 12 = .ok (.iload_n 1, 1) := by decide +kernel
theorem dX7_seed_13 : decode cX7_seed 13 = .ok (.putfield 161, 3) := by decide +kernel
theorem dX7_seed_16 : decode cX7_seed 16 = .ok (.iload_n 2, 1) := by decide +kernel
theorem dX7_seed_17 : decode cX7_seed 17 = .ok (.ireturn, 1) := by decide +kernel
theorem dX7_run_0 : decode cX7_run 0 = .ok (.iload_n 1, 1) := by decide +kernel
theorem dX7_run_1 : decode cX7_run 1 = .ok (.iconst 1, 1) := by decide +kernel
theorem dX7_run_2 : decode cX7_run 2 = .ok (.sipush 300, 3) := by decide +kernel
theorem dX7_run_5 : decode cX7_run 5 = .ok (.invokestatic 82, 3) := by decide +kernel
theorem dX7_run_8 : decode cX7_run 8 = .ok (.ifCond .ne 6, 3) := by decide +kernel
theorem dX7_run_11 : decode cX7_run 11 = .ok (.ldc 68, 2) := by decide +kernel
theorem dX7_run_13 : decode cX7_run 13 = .ok (.ireturn, 1) := by decide +kernel
theorem dX7_run_14 : decode cX7_run 14 = .ok (.aload_n 0, 1) := by decide +kernel
theorem dX7_run_15 : decode cX7_run 15 = .ok (.getfield 10, 3) := by decide +kernel
theorem dX7_run_18 : decode cX7_run 18 = .ok (.iload_n 1, 1) := by decide +kernel
theorem dX7_run_19 : decode cX7_run 19 = .ok (.invokevirtual 164, 3) := by decide +kernel
theorem dX7_run_22 : decode cX7_run 22 = .ok (.pop, 1) := by decide +kernel
theorem dX7_run_23 : decode cX7_run 23 = .ok (.aload_n 0, 1) := by decide +kernel
theorem dX7_run_24 : decode cX7_run 24 = .ok (.getfield 10, 3) := by decide +kernel
theorem dX7_run_27 : decode cX7_run 27 = .ok (.invokevirtual 167, 3) := by decide +kernel
theorem dX7_run_30 : decode cX7_run 30 = .ok (.ireturn, 1) := by decide +kernel
theorem dX7_behind_0 : decode cX7_behind 0 = .ok (.iload_n 1, 1) := by decide +kernel
theorem dX7_behind_1 : decode cX7_behind 1 = .ok (.iconst 0, 1) := by decide +kernel
theorem dX7_behind_2 : decode cX7_behind 2 = .ok (.sipush 300, 3) := by decide +kernel
theorem dX7_behind_5 : decode cX7_behind 5 = .ok (.invokestatic 82, 3) := by decide +kernel
theorem dX7_behind_8 : decode cX7_behind 8 = .ok (.ifCond .eq 12, 3) := by decide +kernel
theorem dX7_behind_11 : decode cX7_behind 11 = .ok (.iload_n 2, 1) := by decide +kernel
theorem dX7_behind_12 : decode cX7_behind 12 = .ok (.iconst 0, 1) := by decide +kernel
theorem dX7_behind_13 : decode cX7_behind 13 = .ok (.iconst 3, 1) := by decide +kernel
theorem dX7_behind_14 : decode cX7_behind 14 = .ok (.invokestatic 82, 3) := by decide +kernel
theorem dX7_behind_17 : decode cX7_behind 17 = .ok (.ifCond .ne 6, 3) := by decide +kernel
theorem dX7_behind_20 : decode cX7_behind 20 = .ok (.ldc 68, 2) := by decide +kernel
theorem dX7_behind_22 : decode cX7_behind 22 = .ok (.ireturn, 1) := by decide +kernel
theorem dX7_behind_23 : decode cX7_behind 23 = .ok (.aload_n 0, 1) := by decide +kernel
theorem dX7_behind_24 : decode cX7_behind 24 = .ok (.getfield 16, 3) := by decide +kernel
theorem dX7_behind_27 : decode cX7_behind 27 = .ok (.aload_n 0, 1) := by decide +kernel
theorem dX7_behind_28 : decode cX7_behind 28 = .ok (.getfield 10, 3) := by decide +kernel
theorem dX7_behind_31 : decode cX7_behind 31 = .ok (.invokevirtual 170, 3) := by decide +kernel
theorem dX7_behind_34 : decode cX7_behind 34 = .ok (.aload_n 0, 1) := by decide +kernel
theorem dX7_behind_35 : decode cX7_behind 35 = .ok (.getfield 16, 3) := by decide +kernel
theorem dX7_behind_38 : decode cX7_behind 38 = .ok (.iload_n 1, 1) := by decide +kernel
theorem dX7_behind_39 : decode cX7_behind 39 = .ok (.invokevirtual 164, 3) := by decide +kernel
theorem dX7_behind_42 : decode cX7_behind 42 = .ok (.istore_n 3, 1) := by decide +kernel
theorem dX7_behind_43 : decode cX7_behind 43 = .ok (.iload_n 2, 1) := by decide +kernel
theorem dX7_behind_44 : decode cX7_behind 44 = .ok (.tableswitch 52 0 2 #[28, 36, 44], 28) := by decide +kernel
theorem dX7_behind_72 : decode cX7_behind 72 = .ok (.aload_n 0, 1) := by decide +kernel
theorem dX7_behind_73 : decode cX7_behind 73 = .ok (.getfield 16, 3) := by decide +kernel
theorem dX7_behind_76 : decode cX7_behind 76 = .ok (.getfield 174, 3) := by decide +kernel
theorem dX7_behind_79 : decode cX7_behind 79 = .ok (.ireturn, 1) := by decide +kernel
theorem dX7_behind_80 : decode cX7_behind 80 = .ok (.aload_n 0, 1) := by decide +kernel
theorem dX7_behind_81 : decode cX7_behind 81 = .ok (.getfield 16, 3) := by decide +kernel
theorem dX7_behind_84 : decode cX7_behind 84 = .ok (.invokevirtual 167, 3) := by decide +kernel
theorem dX7_behind_87 : decode cX7_behind 87 = .ok (.ireturn, 1) := by decide +kernel
theorem dX7_behind_88 : decode cX7_behind 88 = .ok (.aload_n 0, 1) := by decide +kernel
theorem dX7_behind_89 : decode cX7_behind 89 = .ok (.getfield 16, 3) := by decide +kernel
theorem dX7_behind_92 : decode cX7_behind 92 = .ok (.invokevirtual 177, 3) := by decide +kernel
theorem dX7_behind_95 : decode cX7_behind 95 = .ok (.ireturn, 1) := by decide +kernel
theorem dX7_behind_96 : decode cX7_behind 96 = .ok (.iload_n 3, 1) := by decide +kernel
theorem dX7_behind_97 : decode cX7_behind 97 = .ok (.ireturn, 1) := by decide +kernel
theorem dX7_fullIn_0 : decode cX7_fullIn 0 = .ok (.iload_n 1, 1) := by decide +kernel
theorem dX7_fullIn_1 : decode cX7_fullIn 1 = .ok (.iconst 0, 1) := by decide +kernel
theorem dX7_fullIn_2 : decode cX7_fullIn 2 = .ok (.bipush 99, 2) := by decide +kernel
theorem dX7_fullIn_4 : decode cX7_fullIn 4 = .ok (.invokestatic 82, 3) := by decide +kernel
theorem dX7_fullIn_7 : decode cX7_fullIn 7 = .ok (.ifCond .ne 6, 3) := by decide +kernel
theorem dX7_fullIn_10 : decode cX7_fullIn 10 = .ok (.ldc 68, 2) := by decide +kernel
theorem dX7_fullIn_12 : decode cX7_fullIn 12 = .ok (.ireturn, 1) := by decide +kernel
theorem dX7_fullIn_13 : decode cX7_fullIn 13 = .ok (.aload_n 0, 1) := by decide +kernel
theorem dX7_fullIn_14 : decode cX7_fullIn 14 = .ok (.getfield 10, 3) := by decide +kernel
theorem dX7_fullIn_17 : decode cX7_fullIn 17 = .ok (.getfield 174, 3) := by decide +kernel
theorem dX7_fullIn_20 : decode cX7_fullIn 20 = .ok (.iload_n 1, 1) := by decide +kernel
theorem dX7_fullIn_21 : decode cX7_fullIn 21 = .ok (.if_icmp .lt 5, 3) := by decide +kernel
theorem dX7_fullIn_24 : decode cX7_fullIn 24 = .ok (.iconst 0, 1) := by decide +kernel
theorem dX7_fullIn_25 : decode cX7_fullIn 25 = .ok (.ireturn, 1) := by decide +kernel
theorem dX7_fullIn_26 : decode cX7_fullIn 26 = .ok (.iload_n 1, 1) := by decide +kernel
theorem dX7_fullIn_27 : decode cX7_fullIn 27 = .ok (.aload_n 0, 1) := by decide +kernel
theorem dX7_fullIn_28 : decode cX7_fullIn 28 = .ok (.getfield 10, 3) := by decide +kernel
theorem dX7_fullIn_31 : decode cX7_fullIn 31 = .ok (.getfield 180, 3) := by decide +kernel
theorem dX7_fullIn_34 : decode cX7_fullIn 34 = .ok (.if_icmp .le 6, 3) := by decide +kernel
theorem dX7_fullIn_37 : decode cX7_fullIn 37 = .ok (.ldc 183, 2) := by decide +kernel
theorem dX7_fullIn_39 : decode cX7_fullIn 39 = .ok (.ireturn, 1) := by decide +kernel
theorem dX7_fullIn_40 : decode cX7_fullIn 40 = .ok (.iconst 1, 1) := by decide +kernel
theorem dX7_fullIn_41 : decode cX7_fullIn 41 = .ok (.aload_n 0, 1) := by decide +kernel
theorem dX7_fullIn_42 : decode cX7_fullIn 42 = .ok (.getfield 10, 3) := by decide +kernel
theorem dX7_fullIn_45 : decode cX7_fullIn 45 = .ok (.getfield 184, 3) := by decide +kernel
theorem dX7_fullIn_48 : decode cX7_fullIn 48 = .ok (.aload_n 0, 1) := by decide +kernel
theorem dX7_fullIn_49 : decode cX7_fullIn 49 = .ok (.getfield 10, 3) := by decide +kernel
theorem dX7_fullIn_52 : decode cX7_fullIn 52 = .ok (.getfield 187, 3) := by decide +kernel
theorem dX7_fullIn_55 : decode cX7_fullIn 55 = .ok (.isub, 1) := by decide +kernel
theorem dX7_fullIn_56 : decode cX7_fullIn 56 = .ok (.invokestatic 190, 3) := by decide +kernel
theorem dX7_fullIn_59 : decode cX7_fullIn 59 = .ok (.istore_n 2, 1) := by decide +kernel
theorem dX7_fullIn_60 : decode cX7_fullIn 60 = .ok (.iload_n 2, 1) := by decide +kernel
theorem dX7_fullIn_61 : decode cX7_fullIn 61 = .ok (.iload_n 1, 1) := by decide +kernel
theorem dX7_fullIn_62 : decode cX7_fullIn 62 = .ok (.aload_n 0, 1) := by decide +kernel
theorem dX7_fullIn_63 : decode cX7_fullIn 63 = .ok (.getfield 10, 3) := by decide +kernel
theorem dX7_fullIn_66 : decode cX7_fullIn 66 = .ok (.getfield 174, 3) := by decide +kernel
theorem dX7_fullIn_69 : decode cX7_fullIn 69 = .ok (.isub, 1) := by decide +kernel
theorem dX7_fullIn_70 : decode cX7_fullIn 70 = .ok (.iconst 1, 1) := by decide +kernel
theorem dX7_fullIn_71 : decode cX7_fullIn 71 = .ok (.isub, 1) := by decide +kernel
theorem dX7_fullIn_72 : decode cX7_fullIn 72 = .ok (.aload_n 0, 1) := by decide +kernel
theorem dX7_fullIn_73 : decode cX7_fullIn 73 = .ok (.getfield 10, 3) := by decide +kernel
theorem dX7_fullIn_76 : decode cX7_fullIn 76 = .ok (.getfield 184, 3) := by decide +kernel
theorem dX7_fullIn_79 : decode cX7_fullIn 79 = .ok (.imul, 1) := by decide +kernel
theorem dX7_fullIn_80 : decode cX7_fullIn 80 = .ok (.iadd, 1) := by decide +kernel
theorem dX7_fullIn_81 : decode cX7_fullIn 81 = .ok (.ireturn, 1) := by decide +kernel
theorem dX7_best_0 : decode cX7_best 0 = .ok (.aload_n 0, 1) := by decide +kernel
theorem dX7_best_1 : decode cX7_best 1 = .ok (.getfield 10, 3) := by decide +kernel
theorem dX7_best_4 : decode cX7_best 4 = .ok (.iload_n 1, 1) := by decide +kernel
theorem dX7_best_5 : decode cX7_best 5 = .ok (.invokevirtual 78, 3) := by decide +kernel
theorem dX7_best_8 : decode cX7_best 8 = .ok (.ifnull 22, 3) := by decide +kernel
theorem dX7_best_11 : decode cX7_best 11 = .ok (.iload_n 2, 1) := by decide +kernel
theorem dX7_best_12 : decode cX7_best 12 = .ok (.iconst 1, 1) := by decide +kernel
theorem dX7_best_13 : decode cX7_best 13 = .ok (.bipush 120, 2) := by decide +kernel
theorem dX7_best_15 : decode cX7_best 15 = .ok (.invokestatic 82, 3) := by decide +kernel
theorem dX7_best_18 : decode cX7_best 18 = .ok (.ifCond .eq 12, 3) := by decide +kernel
theorem dX7_best_21 : decode cX7_best 21 = .ok (.iload_n 3, 1) := by decide +kernel
theorem dX7_best_22 : decode cX7_best 22 = .ok (.iconst 0, 1) := by decide +kernel
theorem dX7_best_23 : decode cX7_best 23 = .ok (.iconst 1, 1) := by decide +kernel
theorem dX7_best_24 : decode cX7_best 24 = .ok (.invokestatic 82, 3) := by decide +kernel
theorem dX7_best_27 : decode cX7_best 27 = .ok (.ifCond .ne 6, 3) := by decide +kernel
theorem dX7_best_30 : decode cX7_best 30 = .ok (.ldc 68, 2) := by decide +kernel
theorem dX7_best_32 : decode cX7_best 32 = .ok (.ireturn, 1) := by decide +kernel
theorem dX7_best_33 : decode cX7_best 33 = .ok (.iconst 0, 1) := by decide +kernel
theorem dX7_best_34 : decode cX7_best 34 = .ok (.istore 4, 2) := by decide +kernel
theorem dX7_best_36 : decode cX7_best 36 = .ok (.iconst (-1), 1) := by decide +kernel
theorem dX7_best_37 : decode cX7_best 37 = .ok (.istore 5, 2) := by decide +kernel
theorem dX7_best_39 : decode cX7_best 39 = .ok (.getstatic 193, 3) := by decide +kernel
theorem dX7_best_42 : decode cX7_best 42 = .ok (.iconst 1, 1) := by decide +kernel
theorem dX7_best_43 : decode cX7_best 43 = .ok (.iaload, 1) := by decide +kernel
theorem dX7_best_44 : decode cX7_best 44 = .ok (.istore 6, 2) := by decide +kernel
theorem dX7_best_46 : decode cX7_best 46 = .ok (.iload 6, 2) := by decide +kernel
theorem dX7_best_48 : decode cX7_best 48 = .ok (.getstatic 196, 3) := by decide +kernel
theorem dX7_best_51 : decode cX7_best 51 = .ok (.iconst 1, 1) := by decide +kernel
theorem dX7_best_52 : decode cX7_best 52 = .ok (.iaload, 1) := by decide +kernel
theorem dX7_best_53 : decode cX7_best 53 = .ok (.if_icmp .gt 75, 3) := by decide +kernel
theorem dX7_best_56 : decode cX7_best 56 = .ok (.aload_n 0, 1) := by decide +kernel
theorem dX7_best_57 : decode cX7_best 57 = .ok (.getfield 16, 3) := by decide +kernel
theorem dX7_best_60 : decode cX7_best 60 = .ok (.aload_n 0, 1) := by decide +kernel
theorem dX7_best_61 : decode cX7_best 61 = .ok (.getfield 10, 3) := by decide +kernel
theorem dX7_best_64 : decode cX7_best 64 = .ok (.invokevirtual 170, 3) := by decide +kernel
theorem dX7_best_67 : decode cX7_best 67 = .ok (.aload_n 0, 1) := by decide +kernel
theorem dX7_best_68 : decode cX7_best 68 = .ok (.getfield 16, 3) := by decide +kernel
theorem dX7_best_71 : decode cX7_best 71 = .ok (.iload_n 1, 1) := by decide +kernel
theorem dX7_best_72 : decode cX7_best 72 = .ok (.invokevirtual 78, 3) := by decide +kernel
theorem dX7_best_75 : decode cX7_best 75 = .ok (.astore 7, 2) := by decide +kernel
theorem dX7_best_77 : decode cX7_best 77 = .ok (.aload 7, 2) := by decide +kernel
theorem dX7_best_79 : decode cX7_best 79 = .ok (.ifnonnull 6, 3) := by decide +kernel
theorem dX7_best_82 : decode cX7_best 82 = .ok (.ldc 68, 2) := by decide +kernel
theorem dX7_best_84 : decode cX7_best 84 = .ok (.ireturn, 1) := by decide +kernel
theorem dX7_best_85 : decode cX7_best 85 = .ok (.aload 7, 2) := by decide +kernel
theorem dX7_best_87 : decode cX7_best 87 = .ok (.iload 6, 2) := by decide +kernel
theorem dX7_best_89 : decode cX7_best 89 = .ok (.putfield 131, 3) := by decide +kernel
theorem dX7_best_92 : decode cX7_best 92 = .ok (.aload_n 0, 1) := by decide +kernel
theorem dX7_best_93 : decode cX7_best 93 = .ok (.getfield 16, 3) := by decide +kernel
theorem dX7_best_96 : decode cX7_best 96 = .ok (.iload_n 2, 1) := by decide +kernel
theorem dX7_best_97 : decode cX7_best 97 = .ok (.invokevirtual 164, 3) := by decide +kernel
theorem dX7_best_100 : decode cX7_best 100 = .ok (.pop, 1) := by decide +kernel
theorem dX7_best_101 : decode cX7_best 101 = .ok (.aload 7, 2) := by decide +kernel
theorem dX7_best_103 : decode cX7_best 103 = .ok (.getfield 103, 3) := by decide +kernel
theorem dX7_best_106 : decode cX7_best 106 = .ok (.iload 5, 2) := by decide +kernel
theorem dX7_best_108 : decode cX7_best 108 = .ok (.if_icmp .le 14, 3) := by decide +kernel
theorem dX7_best_111 : decode cX7_best 111 = .ok (.aload 7, 2) := by decide +kernel
theorem dX7_best_113 : decode cX7_best 113 = .ok (.getfield 103, 3) := by decide +kernel
theorem dX7_best_116 : decode cX7_best 116 = .ok (.istore 5, 2) := by decide +kernel
theorem dX7_best_118 : decode cX7_best 118 = .ok (.iload 6, 2) := by decide +kernel
theorem dX7_best_120 : decode cX7_best 120 = .ok (.istore 4, 2) := by decide +kernel
theorem dX7_best_122 : decode cX7_best 122 = .ok (.iinc 6 1, 3) := by decide +kernel
theorem dX7_best_125 : decode cX7_best 125 = .ok (.goto (-79), 3) := by decide +kernel
theorem dX7_best_128 : decode cX7_best 128 = .ok (.iload_n 3, 1) := by decide +kernel
theorem dX7_best_129 : decode cX7_best 129 = .ok (.ifCond .ne 8, 3) := by decide +kernel
theorem dX7_best_132 : decode cX7_best 132 = .ok (.iload 4, 2) := by decide +kernel
theorem dX7_best_134 : decode cX7_best 134 = .ok (.goto 5, 3) := by decide +kernel
theorem dX7_best_137 : decode cX7_best 137 = .ok (.iload 5, 2) := by decide +kernel
theorem dX7_best_139 : decode cX7_best 139 = .ok (.ireturn, 1) := by decide +kernel
theorem dX7_alone_0 : decode cX7_alone 0 = .ok (.aload_n 0, 1) := by decide +kernel
theorem dX7_alone_1 : decode cX7_alone 1 = .ok (.getfield 10, 3) := by decide +kernel
theorem dX7_alone_4 : decode cX7_alone 4 = .ok (.iload_n 1, 1) := by decide +kernel
theorem dX7_alone_5 : decode cX7_alone 5 = .ok (.invokevirtual 78, 3) := by decide +kernel
theorem dX7_alone_8 : decode cX7_alone 8 = .ok (.ifnull 14, 3) := by decide +kernel
theorem dX7_alone_11 : decode cX7_alone 11 = .ok (.iload_n 2, 1) := by decide +kernel
theorem dX7_alone_12 : decode cX7_alone 12 = .ok (.iconst 1, 1) := by decide +kernel
theorem dX7_alone_13 : decode cX7_alone 13 = .ok (.sipush 300, 3) := by decide +kernel
theorem dX7_alone_16 : decode cX7_alone 16 = .ok (.invokestatic 82, 3) := by decide +kernel
theorem dX7_alone_19 : decode cX7_alone 19 = .ok (.ifCond .ne 6, 3) := by decide +kernel
theorem dX7_alone_22 : decode cX7_alone 22 = .ok (.ldc 68, 2) := by decide +kernel
theorem dX7_alone_24 : decode cX7_alone 24 = .ok (.ireturn, 1) := by decide +kernel
theorem dX7_alone_25 : decode cX7_alone 25 = .ok (.aload_n 0, 1) := by decide +kernel
theorem dX7_alone_26 : decode cX7_alone 26 = .ok (.getfield 16, 3) := by decide +kernel
theorem dX7_alone_29 : decode cX7_alone 29 = .ok (.aload_n 0, 1) := by decide +kernel
theorem dX7_alone_30 : decode cX7_alone 30 = .ok (.getfield 10, 3) := by decide +kernel
theorem dX7_alone_33 : decode cX7_alone 33 = .ok (.invokevirtual 170, 3) := by decide +kernel
theorem dX7_alone_36 : decode cX7_alone 36 = .ok (.aload_n 0, 1) := by decide +kernel
theorem dX7_alone_37 : decode cX7_alone 37 = .ok (.getfield 16, 3) := by decide +kernel
theorem dX7_alone_40 : decode cX7_alone 40 = .ok (.iload_n 1, 1) := by decide +kernel
theorem dX7_alone_41 : decode cX7_alone 41 = .ok (.invokevirtual 78, 3) := by decide +kernel
theorem dX7_alone_44 : decode cX7_alone 44 = .ok (.astore_n 3, 1) := by decide +kernel
theorem dX7_alone_45 : decode cX7_alone 45 = .ok (.aload_n 3, 1) := by decide +kernel
theorem dX7_alone_46 : decode cX7_alone 46 = .ok (.ifnonnull 6, 3) := by decide +kernel
theorem dX7_alone_49 : decode cX7_alone 49 = .ok (.ldc 68, 2) := by decide +kernel
theorem dX7_alone_51 : decode cX7_alone 51 = .ok (.ireturn, 1) := by decide +kernel
theorem dX7_alone_52 : decode cX7_alone 52 = .ok (.aload_n 0, 1) := by decide +kernel
theorem dX7_alone_53 : decode cX7_alone 53 = .ok (.getfield 16, 3) := by decide +kernel
theorem dX7_alone_56 : decode cX7_alone 56 = .ok (.iload_n 2, 1) := by decide +kernel
theorem dX7_alone_57 : decode cX7_alone 57 = .ok (.invokevirtual 164, 3) := by decide +kernel
theorem dX7_alone_60 : decode cX7_alone 60 = .ok (.pop, 1) := by decide +kernel
theorem dX7_alone_61 : decode cX7_alone 61 = .ok (.aload_n 3, 1) := by decide +kernel
theorem dX7_alone_62 : decode cX7_alone 62 = .ok (.getfield 103, 3) := by decide +kernel
theorem dX7_alone_65 : decode cX7_alone 65 = .ok (.istore 4, 2) := by decide +kernel
theorem dX7_alone_67 : decode cX7_alone 67 = .ok (.aload_n 0, 1) := by decide +kernel
theorem dX7_alone_68 : decode cX7_alone 68 = .ok (.getfield 16, 3) := by decide +kernel
theorem dX7_alone_71 : decode cX7_alone 71 = .ok (.aload_n 0, 1) := by decide +kernel
theorem dX7_alone_72 : decode cX7_alone 72 = .ok (.getfield 10, 3) := by decide +kernel
theorem dX7_alone_75 : decode cX7_alone 75 = .ok (.invokevirtual 170, 3) := by decide +kernel
theorem dX7_alone_78 : decode cX7_alone 78 = .ok (.aload_n 0, 1) := by decide +kernel
theorem dX7_alone_79 : decode cX7_alone 79 = .ok (.getfield 16, 3) := by decide +kernel
theorem dX7_alone_82 : decode cX7_alone 82 = .ok (.iload_n 1, 1) := by decide +kernel
theorem dX7_alone_83 : decode cX7_alone 83 = .ok (.invokevirtual 199, 3) := by decide +kernel
theorem dX7_alone_86 : decode cX7_alone 86 = .ok (.aload_n 0, 1) := by decide +kernel
theorem dX7_alone_87 : decode cX7_alone 87 = .ok (.getfield 16, 3) := by decide +kernel
theorem dX7_alone_90 : decode cX7_alone 90 = .ok (.iload_n 2, 1) := by decide +kernel
theorem dX7_alone_91 : decode cX7_alone 91 = .ok (.invokevirtual 164, 3) := by decide +kernel
theorem dX7_alone_94 : decode cX7_alone 94 = .ok (.pop, 1) := by decide +kernel
theorem dX7_alone_95 : decode cX7_alone 95 = .ok (.aload_n 3, 1) := by decide +kernel
theorem dX7_alone_96 : decode cX7_alone 96 = .ok (.getfield 103, 3) := by decide +kernel
theorem dX7_alone_99 : decode cX7_alone 99 = .ok (.iload 4, 2) := by decide +kernel
theorem dX7_alone_101 : decode cX7_alone 101 = .ok (.isub, 1) := by decide +kernel
theorem dX7_alone_102 : decode cX7_alone 102 = .ok (.ireturn, 1) := by decide +kernel
theorem dX7_mean_0 : decode cX7_mean 0 = .ok (.iload_n 1, 1) := by decide +kernel
theorem dX7_mean_1 : decode cX7_mean 1 = .ok (.iconst 0, 1) := by decide +kernel
theorem dX7_mean_2 : decode cX7_mean 2 = .ok (.iconst 1, 1) := by decide +kernel
theorem dX7_mean_3 : decode cX7_mean 3 = .ok (.invokestatic 82, 3) := by decide +kernel
theorem dX7_mean_6 : decode cX7_mean 6 = .ok (.ifCond .ne 7, 3) := by decide +kernel
theorem dX7_mean_9 : decode cX7_mean 9 = .ok (.ldc2_w 202, 3) := by decide +kernel
theorem dX7_mean_12 : decode cX7_mean 12 = .ok (.lreturn, 1) := by decide +kernel
theorem dX7_mean_13 : decode cX7_mean 13 = .ok (.aload_n 0, 1) := by decide +kernel
theorem dX7_mean_14 : decode cX7_mean 14 = .ok (.getfield 10, 3) := by decide +kernel
theorem dX7_mean_17 : decode cX7_mean 17 = .ok (.invokevirtual 204, 3) := by decide +kernel
theorem dX7_mean_20 : decode cX7_mean 20 = .ok (.i2l, 1) := by decide +kernel
theorem dX7_mean_21 : decode cX7_mean 21 = .ok (.lstore_n 2, 1) := by decide +kernel
theorem dX7_mean_22 : decode cX7_mean 22 = .ok (.lload_n 2, 1) := by decide +kernel
theorem dX7_mean_23 : decode cX7_mean 23 = .ok (.lconst 0, 1) := by decide +kernel
theorem dX7_mean_24 : decode cX7_mean 24 = .ok (.lcmp, 1) := by decide +kernel
theorem dX7_mean_25 : decode cX7_mean 25 = .ok (.ifCond .ne 6, 3) := by decide +kernel
theorem dX7_mean_28 : decode cX7_mean 28 = .ok (.iload_n 1, 1) := by decide +kernel
theorem dX7_mean_29 : decode cX7_mean 29 = .ok (.i2l, 1) := by decide +kernel
theorem dX7_mean_30 : decode cX7_mean 30 = .ok (.lreturn, 1) := by decide +kernel
theorem dX7_mean_31 : decode cX7_mean 31 = .ok (.aload_n 0, 1) := by decide +kernel
theorem dX7_mean_32 : decode cX7_mean 32 = .ok (.getfield 10, 3) := by decide +kernel
theorem dX7_mean_35 : decode cX7_mean 35 = .ok (.getfield 207, 3) := by decide +kernel
theorem dX7_mean_38 : decode cX7_mean 38 = .ok (.i2l, 1) := by decide +kernel
theorem dX7_mean_39 : decode cX7_mean 39 = .ok (.lload_n 2, 1) := by decide +kernel
theorem dX7_mean_40 : decode cX7_mean 40 = .ok (.invokestatic 210, 3) := by decide +kernel
theorem dX7_mean_43 : decode cX7_mean 43 = .ok (.lstore 4, 2) := by decide +kernel
theorem dX7_mean_45 : decode cX7_mean 45 = .ok (.lload 4, 2) := by decide +kernel
theorem dX7_mean_47 : decode cX7_mean 47 = .ok (.lconst 0, 1) := by decide +kernel
theorem dX7_mean_48 : decode cX7_mean 48 = .ok (.lcmp, 1) := by decide +kernel
theorem dX7_mean_49 : decode cX7_mean 49 = .ok (.ifCond .ne 6, 3) := by decide +kernel
theorem dX7_mean_52 : decode cX7_mean 52 = .ok (.iload_n 1, 1) := by decide +kernel
theorem dX7_mean_53 : decode cX7_mean 53 = .ok (.i2l, 1) := by decide +kernel
theorem dX7_mean_54 : decode cX7_mean 54 = .ok (.lreturn, 1) := by decide +kernel
theorem dX7_mean_55 : decode cX7_mean 55 = .ok (.iload_n 1, 1) := by decide +kernel
theorem dX7_mean_56 : decode cX7_mean 56 = .ok (.ifCond .ne 14, 3) := by decide +kernel
theorem dX7_mean_59 : decode cX7_mean 59 = .ok (.aload_n 0, 1) := by decide +kernel
theorem dX7_mean_60 : decode cX7_mean 60 = .ok (.getfield 10, 3) := by decide +kernel
theorem dX7_mean_63 : decode cX7_mean 63 = .ok (.getfield 207, 3) := by decide +kernel
theorem dX7_mean_66 : decode cX7_mean 66 = .ok (.i2l, 1) := by decide +kernel
theorem dX7_mean_67 : decode cX7_mean 67 = .ok (.goto 4, 3) := by decide +kernel
theorem dX7_mean_70 : decode cX7_mean 70 = .ok (.lload_n 2, 1) := by decide +kernel
theorem dX7_mean_71 : decode cX7_mean 71 = .ok (.lload 4, 2) := by decide +kernel
theorem dX7_mean_73 : decode cX7_mean 73 = .ok (.ldiv, 1) := by decide +kernel
theorem dX7_mean_74 : decode cX7_mean 74 = .ok (.lreturn, 1) := by decide +kernel
theorem dX7_least_0 : decode cX7_least 0 = .ok (.ldc 183, 2) := by decide +kernel
theorem dX7_least_2 : decode cX7_least 2 = .ok (.istore_n 1, 1) := by decide +kernel
theorem dX7_least_3 : decode cX7_least 3 = .ok (.aconst_null, 1) := by decide +kernel
theorem dX7_least_4 : decode cX7_least 4 = .ok (.astore_n 2, 1) := by decide +kernel
theorem dX7_least_5 : decode cX7_least 5 = .ok (.iconst 0, 1) := by decide +kernel
theorem dX7_least_6 : decode cX7_least 6 = .ok (.istore_n 3, 1) := by decide +kernel
theorem dX7_least_7 : decode cX7_least 7 = .ok (.iload_n 3, 1) := by decide +kernel
theorem dX7_least_8 : decode cX7_least 8 = .ok (.aload_n 0, 1) := by decide +kernel
theorem dX7_least_9 : decode cX7_least 9 = .ok (.getfield 10, 3) := by decide +kernel
theorem dX7_least_12 : decode cX7_least 12 = .ok (.getfield 69, 3) := by decide +kernel
theorem dX7_least_15 : decode cX7_least 15 = .ok (.if_icmp .ge 42, 3) := by decide +kernel
theorem dX7_least_18 : decode cX7_least 18 = .ok (.aload_n 0, 1) := by decide +kernel
theorem dX7_least_19 : decode cX7_least 19 = .ok (.getfield 10, 3) := by decide +kernel
theorem dX7_least_22 : decode cX7_least 22 = .ok (.iload_n 3, 1) := by decide +kernel
theorem dX7_least_23 : decode cX7_least 23 = .ok (.invokevirtual 78, 3) := by decide +kernel
theorem dX7_least_26 : decode cX7_least 26 = .ok (.astore 4, 2) := by decide +kernel
theorem dX7_least_28 : decode cX7_least 28 = .ok (.aload 4, 2) := by decide +kernel
theorem dX7_least_30 : decode cX7_least 30 = .ok (.ifnull 21, 3) := by decide +kernel
theorem dX7_least_33 : decode cX7_least 33 = .ok (.aload_n 2, 1) := by decide +kernel
theorem dX7_least_34 : decode cX7_least 34 = .ok (.ifnull 12, 3) := by decide +kernel
theorem dX7_least_37 : decode cX7_least 37 = .ok (.aload 4, 2) := by decide +kernel
theorem dX7_least_39 : decode cX7_least 39 = .ok (.aload_n 2, 1) := by decide +kernel
theorem dX7_least_40 : decode cX7_least 40 = .ok (.invokevirtual 214, 3) := by decide +kernel
theorem dX7_least_43 : decode cX7_least 43 = .ok (.ifCond .eq 8, 3) := by decide +kernel
theorem dX7_least_46 : decode cX7_least 46 = .ok (.aload 4, 2) := by decide +kernel
theorem dX7_least_48 : decode cX7_least 48 = .ok (.astore_n 2, 1) := by decide +kernel
theorem dX7_least_49 : decode cX7_least 49 = .ok (.iload_n 3, 1) := by decide +kernel
theorem dX7_least_50 : decode cX7_least 50 = .ok (.istore_n 1, 1) := by decide +kernel
theorem dX7_least_51 : decode cX7_least 51 = .ok (.iinc 3 1, 3) := by decide +kernel
theorem dX7_least_54 : decode cX7_least 54 = .ok (.goto (-47), 3) := by decide +kernel
theorem dX7_least_57 : decode cX7_least 57 = .ok (.iload_n 1, 1) := by decide +kernel
theorem dX7_least_58 : decode cX7_least 58 = .ok (.ireturn, 1) := by decide +kernel
theorem dX7_fine_0 : decode cX7_fine 0 = .ok (.aload_n 0, 1) := by decide +kernel
theorem dX7_fine_1 : decode cX7_fine 1 = .ok (.getfield 10, 3) := by decide +kernel
theorem dX7_fine_4 : decode cX7_fine 4 = .ok (.iload_n 1, 1) := by decide +kernel
theorem dX7_fine_5 : decode cX7_fine 5 = .ok (.invokevirtual 78, 3) := by decide +kernel
theorem dX7_fine_8 : decode cX7_fine 8 = .ok (.astore_n 2, 1) := by decide +kernel
theorem dX7_fine_9 : decode cX7_fine 9 = .ok (.aload_n 2, 1) := by decide +kernel
theorem dX7_fine_10 : decode cX7_fine 10 = .ok (.ifnonnull 6, 3) := by decide +kernel
theorem dX7_fine_13 : decode cX7_fine 13 = .ok (.ldc 68, 2) := by decide +kernel
theorem dX7_fine_15 : decode cX7_fine 15 = .ok (.ireturn, 1) := by decide +kernel
theorem dX7_fine_16 : decode cX7_fine 16 = .ok (.aload_n 0, 1) := by decide +kernel
theorem dX7_fine_17 : decode cX7_fine 17 = .ok (.getfield 10, 3) := by decide +kernel
theorem dX7_fine_20 : decode cX7_fine 20 = .ok (.iconst 2, 1) := by decide +kernel
theorem dX7_fine_21 : decode cX7_fine 21 = .ok (.invokevirtual 217, 3) := by decide +kernel
theorem dX7_fine_24 : decode cX7_fine 24 = .ok (.astore_n 3, 1) := by decide +kernel
theorem dX7_fine_25 : decode cX7_fine 25 = .ok (.aload_n 3, 1) := by decide +kernel
theorem dX7_fine_26 : decode cX7_fine 26 = .ok (.ifnonnull 10, 3) := by decide +kernel
theorem dX7_fine_29 : decode cX7_fine 29 = .ok (.aload_n 2, 1) := by decide +kernel
theorem dX7_fine_30 : decode cX7_fine 30 = .ok (.getfield 106, 3) := by decide +kernel
theorem dX7_fine_33 : decode cX7_fine 33 = .ok (.goto 16, 3) := by decide +kernel
theorem dX7_fine_36 : decode cX7_fine 36 = .ok (.aload_n 3, 1) := by decide +kernel
theorem dX7_fine_37 : decode cX7_fine 37 = .ok (.aload_n 2, 1) := by decide +kernel
theorem dX7_fine_38 : decode cX7_fine 38 = .ok (.getfield 103, 3) := by decide +kernel
theorem dX7_fine_41 : decode cX7_fine 41 = .ok (.aload_n 2, 1) := by decide +kernel
theorem dX7_fine_42 : decode cX7_fine 42 = .ok (.getfield 106, 3) := by decide +kernel
theorem dX7_fine_45 : decode cX7_fine 45 = .ok (.iconst 0, 1) := by decide +kernel
theorem dX7_fine_46 : decode cX7_fine 46 = .ok (.invokevirtual 221, 3) := by decide +kernel
theorem dX7_fine_49 : decode cX7_fine 49 = .ok (.ireturn, 1) := by decide +kernel
theorem dX7_feed_0 : decode cX7_feed 0 = .ok (.aload_n 0, 1) := by decide +kernel
theorem dX7_feed_1 : decode cX7_feed 1 = .ok (.getfield 37, 3) := by decide +kernel
theorem dX7_feed_4 : decode cX7_feed 4 = .ok (.getfield 227, 3) := by decide +kernel
theorem dX7_feed_7 : decode cX7_feed 7 = .ok (.bipush 12, 2) := by decide +kernel
theorem dX7_feed_9 : decode cX7_feed 9 = .ok (.iadd, 1) := by decide +kernel
theorem dX7_feed_10 : decode cX7_feed 10 = .ok (.bipush 96, 2) := by decide +kernel
theorem dX7_feed_12 : decode cX7_feed 12 = .ok (.if_icmp .le 6, 3) := by decide +kernel
theorem dX7_feed_15 : decode cX7_feed 15 = .ok (.ldc 73, 2) := by decide +kernel
theorem dX7_feed_17 : decode cX7_feed 17 = .ok (.ireturn, 1) := by decide +kernel
theorem dX7_feed_18 : decode cX7_feed 18 = .ok (.aload_n 0, 1) := by decide +kernel
theorem dX7_feed_19 : decode cX7_feed 19 = .ok (.iload_n 1, 1) := by decide +kernel
theorem dX7_feed_20 : decode cX7_feed 20 = .ok (.invokevirtual 228, 3) := by decide +kernel
theorem dX7_feed_23 : decode cX7_feed 23 = .ok (.aload_n 0, 1) := by decide +kernel
theorem dX7_feed_24 : decode cX7_feed 24 = .ok (.iload_n 2, 1) := by decide +kernel
theorem dX7_feed_25 : decode cX7_feed 25 = .ok (.invokevirtual 228, 3) := by decide +kernel
theorem dX7_feed_28 : decode cX7_feed 28 = .ok (.aload_n 0, 1) := by decide +kernel
theorem dX7_feed_29 : decode cX7_feed 29 = .ok (.iload_n 3, 1) := by decide +kernel
theorem dX7_feed_30 : decode cX7_feed 30 = .ok (.invokevirtual 228, 3) := by decide +kernel
theorem dX7_feed_33 : decode cX7_feed 33 = .ok (.aload_n 0, 1) := by decide +kernel
theorem dX7_feed_34 : decode cX7_feed 34 = .ok (.getfield 37, 3) := by decide +kernel
theorem dX7_feed_37 : decode cX7_feed 37 = .ok (.getfield 227, 3) := by decide +kernel
theorem dX7_feed_40 : decode cX7_feed 40 = .ok (.ireturn, 1) := by decide +kernel
theorem dX7_trim_0 : decode cX7_trim 0 = .ok (.iload_n 1, 1) := by decide +kernel
theorem dX7_trim_1 : decode cX7_trim 1 = .ok (.iconst 0, 1) := by decide +kernel
theorem dX7_trim_2 : decode cX7_trim 2 = .ok (.aload_n 0, 1) := by decide +kernel
theorem dX7_trim_3 : decode cX7_trim 3 = .ok (.getfield 37, 3) := by decide +kernel
theorem dX7_trim_6 : decode cX7_trim 6 = .ok (.getfield 227, 3) := by decide +kernel
theorem dX7_trim_9 : decode cX7_trim 9 = .ok (.invokestatic 82, 3) := by decide +kernel
theorem dX7_trim_12 : decode cX7_trim 12 = .ok (.ifCond .ne 6, 3) := by decide +kernel
theorem dX7_trim_15 : decode cX7_trim 15 = .ok (.ldc 68, 2) := by decide +kernel
theorem dX7_trim_17 : decode cX7_trim 17 = .ok (.ireturn, 1) := by decide +kernel
theorem dX7_trim_18 : decode cX7_trim 18 = .ok (.aload_n 0, 1) := by decide +kernel
theorem dX7_trim_19 : decode cX7_trim 19 = .ok (.getfield 37, 3) := by decide +kernel
theorem dX7_trim_22 : decode cX7_trim 22 = .ok (.iload_n 1, 1) := by decide +kernel
theorem dX7_trim_23 : decode cX7_trim 23 = .ok (.putfield 227, 3) := by decide +kernel
theorem dX7_trim_26 : decode cX7_trim 26 = .ok (.iload_n 1, 1) := by decide +kernel
theorem dX7_trim_27 : decode cX7_trim 27 = .ok (.ireturn, 1) := by decide +kernel
theorem dX7_text_0 : decode cX7_text 0 = .ok (.aload_n 0, 1) := by decide +kernel
theorem dX7_text_1 : decode cX7_text 1 = .ok (.getfield 29, 3) := by decide +kernel
theorem dX7_text_4 : decode cX7_text 4 = .ok (.invokevirtual 231, 3) := by decide +kernel
theorem dX7_text_7 : decode cX7_text 7 = .ok (.istore_n 1, 1) := by decide +kernel
theorem dX7_text_8 : decode cX7_text 8 = .ok (.aload_n 0, 1) := by decide +kernel
theorem dX7_text_9 : decode cX7_text 9 = .ok (.getfield 37, 3) := by decide +kernel
theorem dX7_text_12 : decode cX7_text 12 = .ok (.iconst 0, 1) := by decide +kernel
theorem dX7_text_13 : decode cX7_text 13 = .ok (.putfield 227, 3) := by decide +kernel
theorem dX7_text_16 : decode cX7_text 16 = .ok (.iload_n 1, 1) := by decide +kernel
theorem dX7_text_17 : decode cX7_text 17 = .ok (.ifCond .ne 14, 3) := by decide +kernel
theorem dX7_text_20 : decode cX7_text 20 = .ok (.bipush (-100), 2) := by decide +kernel
theorem dX7_text_22 : decode cX7_text 22 = .ok (.aload_n 0, 1) := by decide +kernel
theorem dX7_text_23 : decode cX7_text 23 = .ok (.getfield 29, 3) := by decide +kernel
theorem dX7_text_26 : decode cX7_text 26 = .ok (.getfield 235, 3) := by decide +kernel
theorem dX7_text_29 : decode cX7_text 29 = .ok (.isub, 1) := by decide +kernel
theorem dX7_text_30 : decode cX7_text 30 = .ok (.ireturn, 1) := by decide +kernel
theorem dX7_text_31 : decode cX7_text 31 = .ok (.aload_n 0, 1) := by decide +kernel
theorem dX7_text_32 : decode cX7_text 32 = .ok (.getfield 10, 3) := by decide +kernel
theorem dX7_text_35 : decode cX7_text 35 = .ok (.getfield 238, 3) := by decide +kernel
theorem dX7_text_38 : decode cX7_text 38 = .ok (.bipush 14, 2) := by decide +kernel
theorem dX7_text_40 : decode cX7_text 40 = .ok (.if_icmp .lt 6, 3) := by decide +kernel
theorem dX7_text_43 : decode cX7_text 43 = .ok (.ldc 73, 2) := by decide +kernel
theorem dX7_text_45 : decode cX7_text 45 = .ok (.ireturn, 1) := by decide +kernel
theorem dX7_text_46 : decode cX7_text 46 = .ok (.aload_n 0, 1) := by decide +kernel
theorem dX7_text_47 : decode cX7_text 47 = .ok (.getfield 10, 3) := by decide +kernel
theorem dX7_text_50 : decode cX7_text 50 = .ok (.aload_n 0, 1) := by decide +kernel
theorem dX7_text_51 : decode cX7_text 51 = .ok (.getfield 29, 3) := by decide +kernel
theorem dX7_text_54 : decode cX7_text 54 = .ok (.invokevirtual 241, 3) := by decide +kernel
theorem dX7_text_57 : decode cX7_text 57 = .ok (.invokevirtual 245, 3) := by decide +kernel
theorem dX7_text_60 : decode cX7_text 60 = .ok (.aload_n 0, 1) := by decide +kernel
theorem dX7_text_61 : decode cX7_text 61 = .ok (.getfield 10, 3) := by decide +kernel
theorem dX7_text_64 : decode cX7_text 64 = .ok (.getfield 238, 3) := by decide +kernel
theorem dX7_text_67 : decode cX7_text 67 = .ok (.iconst 1, 1) := by decide +kernel
theorem dX7_text_68 : decode cX7_text 68 = .ok (.isub, 1) := by decide +kernel
theorem dX7_text_69 : decode cX7_text 69 = .ok (.ireturn, 1) := by decide +kernel
theorem dX7_textTold_0 : decode cX7_textTold 0 = .ok (.aload_n 0, 1) := by decide +kernel
theorem dX7_textTold_1 : decode cX7_textTold 1 = .ok (.getfield 10, 3) := by decide +kernel
theorem dX7_textTold_4 : decode cX7_textTold 4 = .ok (.iload_n 1, 1) := by decide +kernel
theorem dX7_textTold_5 : decode cX7_textTold 5 = .ok (.invokevirtual 249, 3) := by decide +kernel
theorem dX7_textTold_8 : decode cX7_textTold 8 = .ok (.astore_n 3, 1) := by decide +kernel
theorem dX7_textTold_9 : decode cX7_textTold 9 = .ok (.aload_n 3, 1) := by decide +kernel
theorem dX7_textTold_10 : decode cX7_textTold 10 = .ok (.ifnull 12, 3) := by decide +kernel
theorem dX7_textTold_13 : decode cX7_textTold 13 = .ok (.iload_n 2, 1) := by decide +kernel
theorem dX7_textTold_14 : decode cX7_textTold 14 = .ok (.iconst 0, 1) := by decide +kernel
theorem dX7_textTold_15 : decode cX7_textTold 15 = .ok (.iconst 1, 1) := by decide +kernel
theorem dX7_textTold_16 : decode cX7_textTold 16 = .ok (.invokestatic 82, 3) := by decide +kernel
theorem dX7_textTold_19 : decode cX7_textTold 19 = .ok (.ifCond .ne 6, 3) := by decide +kernel
theorem dX7_textTold_22 : decode cX7_textTold 22 = .ok (.ldc 68, 2) := by decide +kernel
theorem dX7_textTold_24 : decode cX7_textTold 24 = .ok (.ireturn, 1) := by decide +kernel
theorem dX7_textTold_25 : decode cX7_textTold 25 = .ok (.iload_n 2, 1) := by decide +kernel
theorem dX7_textTold_26 : decode cX7_textTold 26 = .ok (.ifCond .ne 10, 3) := by decide +kernel
theorem dX7_textTold_29 : decode cX7_textTold 29 = .ok (.aload_n 3, 1) := by decide +kernel
theorem dX7_textTold_30 : decode cX7_textTold 30 = .ok (.getfield 252, 3) := by decide +kernel
theorem dX7_textTold_33 : decode cX7_textTold 33 = .ok (.goto 7, 3) := by decide +kernel
theorem dX7_textTold_36 : decode cX7_textTold 36 = .ok (.aload_n 3, 1) := by decide +kernel
theorem dX7_textTold_37 : decode cX7_textTold 37 = .ok (.getfield 255, 3) := by decide +kernel
theorem dX7_textTold_40 : decode cX7_textTold 40 = .ok (.ireturn, 1) := by decide +kernel
theorem dX7_why_0 : decode cX7_why 0 = .ok (.iload_n 1, 1) := by decide +kernel
theorem dX7_why_1 : decode cX7_why 1 = .ok (.iconst 0, 1) := by decide +kernel
theorem dX7_why_2 : decode cX7_why 2 = .ok (.iconst 2, 1) := by decide +kernel
theorem dX7_why_3 : decode cX7_why 3 = .ok (.invokestatic 82, 3) := by decide +kernel
theorem dX7_why_6 : decode cX7_why 6 = .ok (.ifCond .ne 6, 3) := by decide +kernel
theorem dX7_why_9 : decode cX7_why 9 = .ok (.ldc 68, 2) := by decide +kernel
theorem dX7_why_11 : decode cX7_why 11 = .ok (.ireturn, 1) := by decide +kernel
theorem dX7_why_12 : decode cX7_why 12 = .ok (.aload_n 0, 1) := by decide +kernel
theorem dX7_why_13 : decode cX7_why 13 = .ok (.getfield 10, 3) := by decide +kernel
theorem dX7_why_16 : decode cX7_why 16 = .ok (.getfield 258, 3) := by decide +kernel
theorem dX7_why_19 : decode cX7_why 19 = .ok (.iload_n 1, 1) := by decide +kernel
theorem dX7_why_20 : decode cX7_why 20 = .ok (.iaload, 1) := by decide +kernel
theorem dX7_why_21 : decode cX7_why 21 = .ok (.istore_n 2, 1) := by decide +kernel
theorem dX7_why_22 : decode cX7_why 22 = .ok (.iload_n 2, 1) := by decide +kernel
theorem dX7_why_23 : decode cX7_why 23 = .ok (.ifCond .ge 8, 3) := by decide +kernel
theorem dX7_why_26 : decode cX7_why 26 = .ok (.ldc 183, 2) := by decide +kernel
theorem dX7_why_28 : decode cX7_why 28 = .ok (.goto 4, 3) := by decide +kernel
theorem dX7_why_31 : decode cX7_why 31 = .ok (.iload_n 2, 1) := by decide +kernel
theorem dX7_why_32 : decode cX7_why 32 = .ok (.ireturn, 1) := by decide +kernel
theorem dX7_sheet_0 : decode cX7_sheet 0 = .ok (.aload_n 0, 1) := by decide +kernel
theorem dX7_sheet_1 : decode cX7_sheet 1 = .ok (.iload_n 1, 1) := by decide +kernel
theorem dX7_sheet_2 : decode cX7_sheet 2 = .ok (.invokevirtual 261, 3) := by decide +kernel
theorem dX7_sheet_5 : decode cX7_sheet 5 = .ok (.astore 4, 2) := by decide +kernel
theorem dX7_sheet_7 : decode cX7_sheet 7 = .ok (.aload 4, 2) := by decide +kernel
theorem dX7_sheet_9 : decode cX7_sheet 9 = .ok (.ifnull 12, 3) := by decide +kernel
theorem dX7_sheet_12 : decode cX7_sheet 12 = .ok (.iload_n 2, 1) := by decide +kernel
theorem dX7_sheet_13 : decode cX7_sheet 13 = .ok (.iconst (-1), 1) := by decide +kernel
theorem dX7_sheet_14 : decode cX7_sheet 14 = .ok (.iconst 1, 1) := by decide +kernel
theorem dX7_sheet_15 : decode cX7_sheet 15 = .ok (.invokestatic 82, 3) := by decide +kernel
theorem dX7_sheet_18 : decode cX7_sheet 18 = .ok (.ifCond .ne 6, 3) := by decide +kernel
theorem dX7_sheet_21 : decode cX7_sheet 21 = .ok (.ldc 68, 2) := by decide +kernel
theorem dX7_sheet_23 : decode cX7_sheet 23 = .ok (.ireturn, 1) := by decide +kernel
theorem dX7_sheet_24 : decode cX7_sheet 24 = .ok (.iload_n 2, 1) := by decide +kernel
theorem dX7_sheet_25 : decode cX7_sheet 25 = .ok (.iconst (-1), 1) := by decide +kernel
theorem dX7_sheet_26 : decode cX7_sheet 26 = .ok (.if_icmp .ne 12, 3) := by decide +kernel
theorem dX7_sheet_29 : decode cX7_sheet 29 = .ok (.aload 4, 2) := by decide +kernel
theorem dX7_sheet_31 : decode cX7_sheet 31 = .ok (.iconst (-1), 1) := by decide +kernel
theorem dX7_sheet_32 : decode cX7_sheet 32 = .ok (.iconst 0, 1) := by decide +kernel
theorem dX7_sheet_33 : decode cX7_sheet 33 = .ok (.invokevirtual 265, 3) := by decide +kernel
theorem dX7_sheet_36 : decode cX7_sheet 36 = .ok (.iconst 0, 1) := by decide +kernel
theorem dX7_sheet_37 : decode cX7_sheet 37 = .ok (.ireturn, 1) := by decide +kernel
theorem dX7_sheet_38 : decode cX7_sheet 38 = .ok (.iload_n 3, 1) := by decide +kernel
theorem dX7_sheet_39 : decode cX7_sheet 39 = .ok (.bipush 24, 2) := by decide +kernel
theorem dX7_sheet_41 : decode cX7_sheet 41 = .ok (.if_icmp .le 6, 3) := by decide +kernel
theorem dX7_sheet_44 : decode cX7_sheet 44 = .ok (.ldc 68, 2) := by decide +kernel
theorem dX7_sheet_46 : decode cX7_sheet 46 = .ok (.ireturn, 1) := by decide +kernel
theorem dX7_sheet_47 : decode cX7_sheet 47 = .ok (.iload_n 3, 1) := by decide +kernel
theorem dX7_sheet_48 : decode cX7_sheet 48 = .ok (.ifCond .ge 7, 3) := by decide +kernel
theorem dX7_sheet_51 : decode cX7_sheet 51 = .ok (.ldc_w 268, 3) := by decide +kernel
theorem dX7_sheet_54 : decode cX7_sheet 54 = .ok (.ireturn, 1) := by decide +kernel
theorem dX7_sheet_55 : decode cX7_sheet 55 = .ok (.aload 4, 2) := by decide +kernel
theorem dX7_sheet_57 : decode cX7_sheet 57 = .ok (.iload_n 2, 1) := by decide +kernel
theorem dX7_sheet_58 : decode cX7_sheet 58 = .ok (.iload_n 3, 1) := by decide +kernel
theorem dX7_sheet_59 : decode cX7_sheet 59 = .ok (.invokevirtual 265, 3) := by decide +kernel
theorem dX7_sheet_62 : decode cX7_sheet 62 = .ok (.iload_n 3, 1) := by decide +kernel
theorem dX7_sheet_63 : decode cX7_sheet 63 = .ok (.ireturn, 1) := by decide +kernel
theorem dX7_mark_0 : decode cX7_mark 0 = .ok (.aload_n 0, 1) := by decide +kernel
theorem dX7_mark_1 : decode cX7_mark 1 = .ok (.iload_n 1, 1) := by decide +kernel
theorem dX7_mark_2 : decode cX7_mark 2 = .ok (.invokevirtual 261, 3) := by decide +kernel
theorem dX7_mark_5 : decode cX7_mark 5 = .ok (.astore 4, 2) := by decide +kernel
theorem dX7_mark_7 : decode cX7_mark 7 = .ok (.aload 4, 2) := by decide +kernel
theorem dX7_mark_9 : decode cX7_mark 9 = .ok (.ifnonnull 6, 3) := by decide +kernel
theorem dX7_mark_12 : decode cX7_mark 12 = .ok (.ldc 68, 2) := by decide +kernel
theorem dX7_mark_14 : decode cX7_mark 14 = .ok (.ireturn, 1) := by decide +kernel
theorem dX7_mark_15 : decode cX7_mark 15 = .ok (.aload 4, 2) := by decide +kernel
theorem dX7_mark_17 : decode cX7_mark 17 = .ok (.getfield 269, 3) := by decide +kernel
theorem dX7_mark_20 : decode cX7_mark 20 = .ok (.iconst (-1), 1) := by decide +kernel
theorem dX7_mark_21 : decode cX7_mark 21 = .ok (.if_icmp .ne 7, 3) := by decide +kernel
theorem dX7_mark_24 : decode cX7_mark 24 = .ok (.ldc_w 272, 3) := by decide +kernel
theorem dX7_mark_27 : decode cX7_mark 27 = .ok (.ireturn, 1) := by decide +kernel
theorem dX7_mark_28 : decode cX7_mark 28 = .ok (.iload_n 2, 1) := by decide +kernel
theorem dX7_mark_29 : decode cX7_mark 29 = .ok (.iconst 0, 1) := by decide +kernel
theorem dX7_mark_30 : decode cX7_mark 30 = .ok (.aload 4, 2) := by decide +kernel
theorem dX7_mark_32 : decode cX7_mark 32 = .ok (.getfield 273, 3) := by decide +kernel
theorem dX7_mark_35 : decode cX7_mark 35 = .ok (.iconst 1, 1) := by decide +kernel
theorem dX7_mark_36 : decode cX7_mark 36 = .ok (.isub, 1) := by decide +kernel
theorem dX7_mark_37 : decode cX7_mark 37 = .ok (.invokestatic 82, 3) := by decide +kernel
theorem dX7_mark_40 : decode cX7_mark 40 = .ok (.ifCond .ne 7, 3) := by decide +kernel
theorem dX7_mark_43 : decode cX7_mark 43 = .ok (.ldc_w 274, 3) := by decide +kernel
theorem dX7_mark_46 : decode cX7_mark 46 = .ok (.ireturn, 1) := by decide +kernel
theorem dX7_mark_47 : decode cX7_mark 47 = .ok (.aload 4, 2) := by decide +kernel
theorem dX7_mark_49 : decode cX7_mark 49 = .ok (.getfield 269, 3) := by decide +kernel
theorem dX7_mark_52 : decode cX7_mark 52 = .ok (.ifCond .ne 23, 3) := by decide +kernel
theorem dX7_mark_55 : decode cX7_mark 55 = .ok (.iload_n 3, 1) := by decide +kernel
theorem dX7_mark_56 : decode cX7_mark 56 = .ok (.ldc 183, 2) := by decide +kernel
theorem dX7_mark_58 : decode cX7_mark 58 = .ok (.if_icmp .ne 6, 3) := by decide +kernel
theorem dX7_mark_61 : decode cX7_mark 61 = .ok (.ldc 134, 2) := by decide +kernel
theorem dX7_mark_63 : decode cX7_mark 63 = .ok (.ireturn, 1) := by decide +kernel
theorem dX7_mark_64 : decode cX7_mark 64 = .ok (.aload 4, 2) := by decide +kernel
theorem dX7_mark_66 : decode cX7_mark 66 = .ok (.getfield 275, 3) := by decide +kernel
theorem dX7_mark_69 : decode cX7_mark 69 = .ok (.iload_n 2, 1) := by decide +kernel
theorem dX7_mark_70 : decode cX7_mark 70 = .ok (.iload_n 3, 1) := by decide +kernel
theorem dX7_mark_71 : decode cX7_mark 71 = .ok (.i2s, 1) := by decide +kernel
theorem dX7_mark_72 : decode cX7_mark 72 = .ok (.iastore, 1) := by decide +kernel
theorem dX7_mark_73 : decode cX7_mark 73 = .ok (.iconst 1, 1) := by decide +kernel
theorem dX7_mark_74 : decode cX7_mark 74 = .ok (.ireturn, 1) := by decide +kernel
theorem dX7_mark_75 : decode cX7_mark 75 = .ok (.iload_n 3, 1) := by decide +kernel
theorem dX7_mark_76 : decode cX7_mark 76 = .ok (.ldc 183, 2) := by decide +kernel
theorem dX7_mark_78 : decode cX7_mark 78 = .ok (.if_icmp .eq 19, 3) := by decide +kernel
theorem dX7_mark_81 : decode cX7_mark 81 = .ok (.iload_n 3, 1) := by decide +kernel
theorem dX7_mark_82 : decode cX7_mark 82 = .ok (.ldc_w 278, 3) := by decide +kernel
theorem dX7_mark_85 : decode cX7_mark 85 = .ok (.ldc_w 279, 3) := by decide +kernel
theorem dX7_mark_88 : decode cX7_mark 88 = .ok (.invokestatic 82, 3) := by decide +kernel
theorem dX7_mark_91 : decode cX7_mark 91 = .ok (.ifCond .ne 6, 3) := by decide +kernel
theorem dX7_mark_94 : decode cX7_mark 94 = .ok (.ldc 68, 2) := by decide +kernel
theorem dX7_mark_96 : decode cX7_mark 96 = .ok (.ireturn, 1) := by decide +kernel
theorem dX7_mark_97 : decode cX7_mark 97 = .ok (.aload 4, 2) := by decide +kernel
theorem dX7_mark_99 : decode cX7_mark 99 = .ok (.getfield 275, 3) := by decide +kernel
theorem dX7_mark_102 : decode cX7_mark 102 = .ok (.iload_n 2, 1) := by decide +kernel
theorem dX7_mark_103 : decode cX7_mark 103 = .ok (.iload_n 3, 1) := by decide +kernel
theorem dX7_mark_104 : decode cX7_mark 104 = .ok (.iastore, 1) := by decide +kernel
theorem dX7_mark_105 : decode cX7_mark 105 = .ok (.iconst 1, 1) := by decide +kernel
theorem dX7_mark_106 : decode cX7_mark 106 = .ok (.ireturn, 1) := by decide +kernel
theorem dX7_pour_0 : decode cX7_pour 0 = .ok (.aload_n 0, 1) := by decide +kernel
theorem dX7_pour_1 : decode cX7_pour 1 = .ok (.iload_n 1, 1) := by decide +kernel
theorem dX7_pour_2 : decode cX7_pour 2 = .ok (.invokevirtual 261, 3) := by decide +kernel
theorem dX7_pour_5 : decode cX7_pour 5 = .ok (.astore_n 2, 1) := by decide +kernel
theorem dX7_pour_6 : decode cX7_pour 6 = .ok (.aload_n 2, 1) := by decide +kernel
theorem dX7_pour_7 : decode cX7_pour 7 = .ok (.ifnonnull 6, 3) := by decide +kernel
theorem dX7_pour_10 : decode cX7_pour 10 = .ok (.ldc 68, 2) := by decide +kernel
theorem dX7_pour_12 : decode cX7_pour 12 = .ok (.ireturn, 1) := by decide +kernel
theorem dX7_pour_13 : decode cX7_pour 13 = .ok (.aload_n 2, 1) := by decide +kernel
theorem dX7_pour_14 : decode cX7_pour 14 = .ok (.getfield 269, 3) := by decide +kernel
theorem dX7_pour_17 : decode cX7_pour 17 = .ok (.iconst (-1), 1) := by decide +kernel
theorem dX7_pour_18 : decode cX7_pour 18 = .ok (.if_icmp .ne 7, 3) := by decide +kernel
theorem dX7_pour_21 : decode cX7_pour 21 = .ok (.ldc_w 272, 3) := by decide +kernel
theorem dX7_pour_24 : decode cX7_pour 24 = .ok (.ireturn, 1) := by decide +kernel
theorem dX7_pour_25 : decode cX7_pour 25 = .ok (.iconst 0, 1) := by decide +kernel
theorem dX7_pour_26 : decode cX7_pour 26 = .ok (.istore_n 3, 1) := by decide +kernel
theorem dX7_pour_27 : decode cX7_pour 27 = .ok (.iconst 0, 1) := by decide +kernel
theorem dX7_pour_28 : decode cX7_pour 28 = .ok (.istore 4, 2) := by decide +kernel
theorem dX7_pour_30 : decode cX7_pour 30 = .ok (.iload 4, 2) := by decide +kernel
theorem dX7_pour_32 : decode cX7_pour 32 = .ok (.aload_n 0, 1) := by decide +kernel
theorem dX7_pour_33 : decode cX7_pour 33 = .ok (.getfield 10, 3) := by decide +kernel
theorem dX7_pour_36 : decode cX7_pour 36 = .ok (.getfield 69, 3) := by decide +kernel
theorem dX7_pour_39 : decode cX7_pour 39 = .ok (.if_icmp .ge 91, 3) := by decide +kernel
theorem dX7_pour_42 : decode cX7_pour 42 = .ok (.iload 4, 2) := by decide +kernel
theorem dX7_pour_44 : decode cX7_pour 44 = .ok (.aload_n 2, 1) := by decide +kernel
theorem dX7_pour_45 : decode cX7_pour 45 = .ok (.getfield 273, 3) := by decide +kernel
theorem dX7_pour_48 : decode cX7_pour 48 = .ok (.if_icmp .ge 82, 3) := by decide +kernel
theorem dX7_pour_51 : decode cX7_pour 51 = .ok (.aload_n 0, 1) := by decide +kernel
theorem dX7_pour_52 : decode cX7_pour 52 = .ok (.getfield 10, 3) := by decide +kernel
theorem dX7_pour_55 : decode cX7_pour 55 = .ok (.iload 4, 2) := by decide +kernel
theorem dX7_pour_57 : decode cX7_pour 57 = .ok (.invokevirtual 78, 3) := by decide +kernel
theorem dX7_pour_60 : decode cX7_pour 60 = .ok (.astore 5, 2) := by decide +kernel
theorem dX7_pour_62 : decode cX7_pour 62 = .ok (.aload 5, 2) := by decide +kernel
theorem dX7_pour_64 : decode cX7_pour 64 = .ok (.ifnull 60, 3) := by decide +kernel
theorem dX7_pour_67 : decode cX7_pour 67 = .ok (.aload_n 2, 1) := by decide +kernel
theorem dX7_pour_68 : decode cX7_pour 68 = .ok (.getfield 275, 3) := by decide +kernel
theorem dX7_pour_71 : decode cX7_pour 71 = .ok (.iload 4, 2) := by decide +kernel
theorem dX7_pour_73 : decode cX7_pour 73 = .ok (.iaload, 1) := by decide +kernel
theorem dX7_pour_74 : decode cX7_pour 74 = .ok (.ldc 183, 2) := by decide +kernel
theorem dX7_pour_76 : decode cX7_pour 76 = .ok (.if_icmp .ne 6, 3) := by decide +kernel
theorem dX7_pour_79 : decode cX7_pour 79 = .ok (.goto 45, 3) := by decide +kernel
theorem dX7_pour_82 : decode cX7_pour 82 = .ok (.aload_n 2, 1) := by decide +kernel
theorem dX7_pour_83 : decode cX7_pour 83 = .ok (.getfield 275, 3) := by decide +kernel
theorem dX7_pour_86 : decode cX7_pour 86 = .ok (.iload 4, 2) := by decide +kernel
theorem dX7_pour_88 : decode cX7_pour 88 = .ok (.iaload, 1) := by decide +kernel
theorem dX7_pour_89 : decode cX7_pour 89 = .ok (.getstatic 193, 3) := by decide +kernel
theorem dX7_pour_92 : decode cX7_pour 92 = .ok (.iconst 3, 1) := by decide +kernel
theorem dX7_pour_93 : decode cX7_pour 93 = .ok (.iaload, 1) := by decide +kernel
theorem dX7_pour_94 : decode cX7_pour 94 = .ok (.getstatic 196, 3) := by decide +kernel
theorem dX7_pour_97 : decode cX7_pour 97 = .ok (.iconst 3, 1) := by decide +kernel
theorem dX7_pour_98 : decode cX7_pour 98 = .ok (.iaload, 1) := by decide +kernel
theorem dX7_pour_99 : decode cX7_pour 99 = .ok (.invokestatic 280, 3) := by decide +kernel
theorem dX7_pour_102 : decode cX7_pour 102 = .ok (.istore 6, 2) := by decide +kernel
theorem dX7_pour_104 : decode cX7_pour 104 = .ok (.iload 6, 2) := by decide +kernel
theorem dX7_pour_106 : decode cX7_pour 106 = .ok (.aload 5, 2) := by decide +kernel
theorem dX7_pour_108 : decode cX7_pour 108 = .ok (.getfield 283, 3) := by decide +kernel
theorem dX7_pour_111 : decode cX7_pour 111 = .ok (.if_icmp .eq 6, 3) := by decide +kernel
theorem dX7_pour_114 : decode cX7_pour 114 = .ok (.iinc 3 1, 3) := by decide +kernel
theorem dX7_pour_117 : decode cX7_pour 117 = .ok (.aload 5, 2) := by decide +kernel
theorem dX7_pour_119 : decode cX7_pour 119 = .ok (.iload 6, 2) := by decide +kernel
theorem dX7_pour_121 : decode cX7_pour 121 = .ok (.putfield 283, 3) := by decide +kernel
theorem dX7_pour_124 : decode cX7_pour 124 = .ok (.iinc 4 1, 3) := by decide +kernel
theorem dX7_pour_127 : decode cX7_pour 127 = .ok (.goto (-97), 3) := by decide +kernel
theorem dX7_pour_130 : decode cX7_pour 130 = .ok (.iload_n 3, 1) := by decide +kernel
theorem dX7_pour_131 : decode cX7_pour 131 = .ok (.ireturn, 1) := by decide +kernel
theorem dX7_explained_0 : decode cX7_explained 0 = .ok (.aload_n 0, 1) := by decide +kernel
theorem dX7_explained_1 : decode cX7_explained 1 = .ok (.iload_n 1, 1) := by decide +kernel
theorem dX7_explained_2 : decode cX7_explained 2 = .ok (.invokevirtual 261, 3) := by decide +kernel
theorem dX7_explained_5 : decode cX7_explained 5 = .ok (.astore_n 3, 1) := by decide +kernel
theorem dX7_explained_6 : decode cX7_explained 6 = .ok (.aload_n 3, 1) := by decide +kernel
theorem dX7_explained_7 : decode cX7_explained 7 = .ok (.ifnull 12, 3) := by decide +kernel
theorem dX7_explained_10 : decode cX7_explained 10 = .ok (.iload_n 2, 1) := by decide +kernel
theorem dX7_explained_11 : decode cX7_explained 11 = .ok (.iconst 0, 1) := by decide +kernel
theorem dX7_explained_12 : decode cX7_explained 12 = .ok (.iconst 1, 1) := by decide +kernel
theorem dX7_explained_13 : decode cX7_explained 13 = .ok (.invokestatic 82, 3) := by decide +kernel
theorem dX7_explained_16 : decode cX7_explained 16 = .ok (.ifCond .ne 6, 3) := by decide +kernel
theorem dX7_explained_19 : decode cX7_explained 19 = .ok (.ldc 68, 2) := by decide +kernel
theorem dX7_explained_21 : decode cX7_explained 21 = .ok (.ireturn, 1) := by decide +kernel
theorem dX7_explained_22 : decode cX7_explained 22 = .ok (.aload_n 3, 1) := by decide +kernel
theorem dX7_explained_23 : decode cX7_explained 23 = .ok (.getfield 269, 3) := by decide +kernel
theorem dX7_explained_26 : decode cX7_explained 26 = .ok (.iconst (-1), 1) := by decide +kernel
theorem dX7_explained_27 : decode cX7_explained 27 = .ok (.if_icmp .ne 7, 3) := by decide +kernel
theorem dX7_explained_30 : decode cX7_explained 30 = .ok (.ldc_w 272, 3) := by decide +kernel
theorem dX7_explained_33 : decode cX7_explained 33 = .ok (.ireturn, 1) := by decide +kernel
theorem dX7_explained_34 : decode cX7_explained 34 = .ok (.getstatic 139, 3) := by decide +kernel
theorem dX7_explained_37 : decode cX7_explained 37 = .ok (.iconst 0, 1) := by decide +kernel
theorem dX7_explained_38 : decode cX7_explained 38 = .ok (.iaload, 1) := by decide +kernel
theorem dX7_explained_39 : decode cX7_explained 39 = .ok (.istore 4, 2) := by decide +kernel
theorem dX7_explained_41 : decode cX7_explained 41 = .ok (.aload_n 0, 1) := by decide +kernel
theorem dX7_explained_42 : decode cX7_explained 42 = .ok (.getfield 10, 3) := by decide +kernel
theorem dX7_explained_45 : decode cX7_explained 45 = .ok (.aload_n 3, 1) := by decide +kernel
theorem dX7_explained_46 : decode cX7_explained 46 = .ok (.iload 4, 2) := by decide +kernel
theorem dX7_explained_48 : decode cX7_explained 48 = .ok (.invokevirtual 286, 3) := by decide +kernel
theorem dX7_explained_51 : decode cX7_explained 51 = .ok (.istore 5, 2) := by decide +kernel
theorem dX7_explained_53 : decode cX7_explained 53 = .ok (.iload 4, 2) := by decide +kernel
theorem dX7_explained_55 : decode cX7_explained 55 = .ok (.iconst 1, 1) := by decide +kernel
theorem dX7_explained_56 : decode cX7_explained 56 = .ok (.iadd, 1) := by decide +kernel
theorem dX7_explained_57 : decode cX7_explained 57 = .ok (.istore 6, 2) := by decide +kernel
theorem dX7_explained_59 : decode cX7_explained 59 = .ok (.iload 6, 2) := by decide +kernel
theorem dX7_explained_61 : decode cX7_explained 61 = .ok (.getstatic 143, 3) := by decide +kernel
theorem dX7_explained_64 : decode cX7_explained 64 = .ok (.iconst 0, 1) := by decide +kernel
theorem dX7_explained_65 : decode cX7_explained 65 = .ok (.iaload, 1) := by decide +kernel
theorem dX7_explained_66 : decode cX7_explained 66 = .ok (.if_icmp .gt 36, 3) := by decide +kernel
theorem dX7_explained_69 : decode cX7_explained 69 = .ok (.aload_n 0, 1) := by decide +kernel
theorem dX7_explained_70 : decode cX7_explained 70 = .ok (.getfield 10, 3) := by decide +kernel
theorem dX7_explained_73 : decode cX7_explained 73 = .ok (.aload_n 3, 1) := by decide +kernel
theorem dX7_explained_74 : decode cX7_explained 74 = .ok (.iload 6, 2) := by decide +kernel
theorem dX7_explained_76 : decode cX7_explained 76 = .ok (.invokevirtual 286, 3) := by decide +kernel
theorem dX7_explained_79 : decode cX7_explained 79 = .ok (.istore 7, 2) := by decide +kernel
theorem dX7_explained_81 : decode cX7_explained 81 = .ok (.iload 7, 2) := by decide +kernel
theorem dX7_explained_83 : decode cX7_explained 83 = .ok (.iload 5, 2) := by decide +kernel
theorem dX7_explained_85 : decode cX7_explained 85 = .ok (.if_icmp .ge 11, 3) := by decide +kernel
theorem dX7_explained_88 : decode cX7_explained 88 = .ok (.iload 7, 2) := by decide +kernel
theorem dX7_explained_90 : decode cX7_explained 90 = .ok (.istore 5, 2) := by decide +kernel
theorem dX7_explained_92 : decode cX7_explained 92 = .ok (.iload 6, 2) := by decide +kernel
theorem dX7_explained_94 : decode cX7_explained 94 = .ok (.istore 4, 2) := by decide +kernel
theorem dX7_explained_96 : decode cX7_explained 96 = .ok (.iinc 6 1, 3) := by decide +kernel
theorem dX7_explained_99 : decode cX7_explained 99 = .ok (.goto (-40), 3) := by decide +kernel
theorem dX7_explained_102 : decode cX7_explained 102 = .ok (.iload_n 2, 1) := by decide +kernel
theorem dX7_explained_103 : decode cX7_explained 103 = .ok (.ifCond .ne 8, 3) := by decide +kernel
theorem dX7_explained_106 : decode cX7_explained 106 = .ok (.iload 4, 2) := by decide +kernel
theorem dX7_explained_108 : decode cX7_explained 108 = .ok (.goto 5, 3) := by decide +kernel
theorem dX7_explained_111 : decode cX7_explained 111 = .ok (.iload 5, 2) := by decide +kernel
theorem dX7_explained_113 : decode cX7_explained 113 = .ok (.ireturn, 1) := by decide +kernel
theorem dX7_copy_0 : decode cX7_copy 0 = .ok (.aload_n 0, 1) := by decide +kernel
theorem dX7_copy_1 : decode cX7_copy 1 = .ok (.iload_n 1, 1) := by decide +kernel
theorem dX7_copy_2 : decode cX7_copy 2 = .ok (.invokevirtual 261, 3) := by decide +kernel
theorem dX7_copy_5 : decode cX7_copy 5 = .ok (.astore 6, 2) := by decide +kernel
theorem dX7_copy_7 : decode cX7_copy 7 = .ok (.aload_n 0, 1) := by decide +kernel
theorem dX7_copy_8 : decode cX7_copy 8 = .ok (.iload_n 3, 1) := by decide +kernel
theorem dX7_copy_9 : decode cX7_copy 9 = .ok (.invokevirtual 261, 3) := by decide +kernel
theorem dX7_copy_12 : decode cX7_copy 12 = .ok (.astore 7, 2) := by decide +kernel
theorem dX7_copy_14 : decode cX7_copy 14 = .ok (.aload 6, 2) := by decide +kernel
theorem dX7_copy_16 : decode cX7_copy 16 = .ok (.ifnull 8, 3) := by decide +kernel
theorem dX7_copy_19 : decode cX7_copy 19 = .ok (.aload 7, 2) := by decide +kernel
theorem dX7_copy_21 : decode cX7_copy 21 = .ok (.ifnonnull 6, 3) := by decide +kernel
theorem dX7_copy_24 : decode cX7_copy 24 = .ok (.ldc 68, 2) := by decide +kernel
theorem dX7_copy_26 : decode cX7_copy 26 = .ok (.ireturn, 1) := by decide +kernel
theorem dX7_copy_27 : decode cX7_copy 27 = .ok (.aload 6, 2) := by decide +kernel
theorem dX7_copy_29 : decode cX7_copy 29 = .ok (.getfield 269, 3) := by decide +kernel
theorem dX7_copy_32 : decode cX7_copy 32 = .ok (.iconst (-1), 1) := by decide +kernel
theorem dX7_copy_33 : decode cX7_copy 33 = .ok (.if_icmp .eq 12, 3) := by decide +kernel
theorem dX7_copy_36 : decode cX7_copy 36 = .ok (.aload 7, 2) := by decide +kernel
theorem dX7_copy_38 : decode cX7_copy 38 = .ok (.getfield 269, 3) := by decide +kernel
theorem dX7_copy_41 : decode cX7_copy 41 = .ok (.iconst (-1), 1) := by decide +kernel
theorem dX7_copy_42 : decode cX7_copy 42 = .ok (.if_icmp .ne 7, 3) := by decide +kernel
theorem dX7_copy_45 : decode cX7_copy 45 = .ok (.ldc_w 272, 3) := by decide +kernel
theorem dX7_copy_48 : decode cX7_copy 48 = .ok (.ireturn, 1) := by decide +kernel
theorem dX7_copy_49 : decode cX7_copy 49 = .ok (.aload 6, 2) := by decide +kernel
theorem dX7_copy_51 : decode cX7_copy 51 = .ok (.getfield 269, 3) := by decide +kernel
theorem dX7_copy_54 : decode cX7_copy 54 = .ok (.aload 7, 2) := by decide +kernel
theorem dX7_copy_56 : decode cX7_copy 56 = .ok (.getfield 269, 3) := by decide +kernel
theorem dX7_copy_59 : decode cX7_copy 59 = .ok (.if_icmp .eq 6, 3) := by decide +kernel
theorem dX7_copy_62 : decode cX7_copy 62 = .ok (.ldc 134, 2) := by decide +kernel
theorem dX7_copy_64 : decode cX7_copy 64 = .ok (.ireturn, 1) := by decide +kernel
theorem dX7_copy_65 : decode cX7_copy 65 = .ok (.aload 6, 2) := by decide +kernel
theorem dX7_copy_67 : decode cX7_copy 67 = .ok (.iload_n 2, 1) := by decide +kernel
theorem dX7_copy_68 : decode cX7_copy 68 = .ok (.iload 5, 2) := by decide +kernel
theorem dX7_copy_70 : decode cX7_copy 70 = .ok (.invokevirtual 290, 3) := by decide +kernel
theorem dX7_copy_73 : decode cX7_copy 73 = .ok (.ifCond .eq 15, 3) := by decide +kernel
theorem dX7_copy_76 : decode cX7_copy 76 = .ok (.aload 7, 2) := by decide +kernel
theorem dX7_copy_78 : decode cX7_copy 78 = .ok (.iload 4, 2) := by decide +kernel
theorem dX7_copy_80 : decode cX7_copy 80 = .ok (.iload 5, 2) := by decide +kernel
theorem dX7_copy_82 : decode cX7_copy 82 = .ok (.invokevirtual 290, 3) := by decide +kernel
theorem dX7_copy_85 : decode cX7_copy 85 = .ok (.ifCond .ne 7, 3) := by decide +kernel
theorem dX7_copy_88 : decode cX7_copy 88 = .ok (.ldc_w 274, 3) := by decide +kernel
theorem dX7_copy_91 : decode cX7_copy 91 = .ok (.ireturn, 1) := by decide +kernel
theorem dX7_copy_92 : decode cX7_copy 92 = .ok (.aload 6, 2) := by decide +kernel
theorem dX7_copy_94 : decode cX7_copy 94 = .ok (.getfield 275, 3) := by decide +kernel
theorem dX7_copy_97 : decode cX7_copy 97 = .ok (.iload_n 2, 1) := by decide +kernel
theorem dX7_copy_98 : decode cX7_copy 98 = .ok (.aload 7, 2) := by decide +kernel
theorem dX7_copy_100 : decode cX7_copy 100 = .ok (.getfield 275, 3) := by decide +kernel
theorem dX7_copy_103 : decode cX7_copy 103 = .ok (.iload 4, 2) := by decide +kernel
theorem dX7_copy_105 : decode cX7_copy 105 = .ok (.iload 5, 2) := by decide +kernel
theorem dX7_copy_107 : decode cX7_copy 107 = .ok (.invokestatic 293, 3) := by decide +kernel
theorem dX7_copy_110 : decode cX7_copy 110 = .ok (.iload 5, 2) := by decide +kernel
theorem dX7_copy_112 : decode cX7_copy 112 = .ok (.ireturn, 1) := by decide +kernel
theorem dX7_lay_0 : decode cX7_lay 0 = .ok (.aload_n 0, 1) := by decide +kernel
theorem dX7_lay_1 : decode cX7_lay 1 = .ok (.iload_n 1, 1) := by decide +kernel
theorem dX7_lay_2 : decode cX7_lay 2 = .ok (.invokevirtual 299, 3) := by decide +kernel
theorem dX7_lay_5 : decode cX7_lay 5 = .ok (.astore 4, 2) := by decide +kernel
theorem dX7_lay_7 : decode cX7_lay 7 = .ok (.aload 4, 2) := by decide +kernel
theorem dX7_lay_9 : decode cX7_lay 9 = .ok (.ifnull 12, 3) := by decide +kernel
theorem dX7_lay_12 : decode cX7_lay 12 = .ok (.iload_n 2, 1) := by decide +kernel
theorem dX7_lay_13 : decode cX7_lay 13 = .ok (.iconst 0, 1) := by decide +kernel
theorem dX7_lay_14 : decode cX7_lay 14 = .ok (.iconst 3, 1) := by decide +kernel
theorem dX7_lay_15 : decode cX7_lay 15 = .ok (.invokestatic 82, 3) := by decide +kernel
theorem dX7_lay_18 : decode cX7_lay 18 = .ok (.ifCond .ne 6, 3) := by decide +kernel
theorem dX7_lay_21 : decode cX7_lay 21 = .ok (.ldc 68, 2) := by decide +kernel
theorem dX7_lay_23 : decode cX7_lay 23 = .ok (.ireturn, 1) := by decide +kernel
theorem dX7_lay_24 : decode cX7_lay 24 = .ok (.aload 4, 2) := by decide +kernel
theorem dX7_lay_26 : decode cX7_lay 26 = .ok (.getfield 303, 3) := by decide +kernel
theorem dX7_lay_29 : decode cX7_lay 29 = .ok (.istore 5, 2) := by decide +kernel
theorem dX7_lay_31 : decode cX7_lay 31 = .ok (.iload_n 2, 1) := by decide +kernel
theorem dX7_lay_32 : decode cX7_lay 32 = .ok (.iconst 1, 1) := by decide +kernel
theorem dX7_lay_33 : decode cX7_lay 33 = .ok (.if_icmp .ne 34, 3) := by decide +kernel
theorem dX7_lay_36 : decode cX7_lay 36 = .ok (.aload_n 0, 1) := by decide +kernel
theorem dX7_lay_37 : decode cX7_lay 37 = .ok (.getfield 10, 3) := by decide +kernel
theorem dX7_lay_40 : decode cX7_lay 40 = .ok (.iload_n 3, 1) := by decide +kernel
theorem dX7_lay_41 : decode cX7_lay 41 = .ok (.invokevirtual 78, 3) := by decide +kernel
theorem dX7_lay_44 : decode cX7_lay 44 = .ok (.astore 6, 2) := by decide +kernel
theorem dX7_lay_46 : decode cX7_lay 46 = .ok (.aload 6, 2) := by decide +kernel
theorem dX7_lay_48 : decode cX7_lay 48 = .ok (.ifnonnull 6, 3) := by decide +kernel
theorem dX7_lay_51 : decode cX7_lay 51 = .ok (.ldc 68, 2) := by decide +kernel
theorem dX7_lay_53 : decode cX7_lay 53 = .ok (.ireturn, 1) := by decide +kernel
theorem dX7_lay_54 : decode cX7_lay 54 = .ok (.aload 4, 2) := by decide +kernel
theorem dX7_lay_56 : decode cX7_lay 56 = .ok (.getfield 306, 3) := by decide +kernel
theorem dX7_lay_59 : decode cX7_lay 59 = .ok (.aload 6, 2) := by decide +kernel
theorem dX7_lay_61 : decode cX7_lay 61 = .ok (.invokevirtual 310, 3) := by decide +kernel
theorem dX7_lay_64 : decode cX7_lay 64 = .ok (.goto 60, 3) := by decide +kernel
theorem dX7_lay_67 : decode cX7_lay 67 = .ok (.iload_n 2, 1) := by decide +kernel
theorem dX7_lay_68 : decode cX7_lay 68 = .ok (.iconst 2, 1) := by decide +kernel
theorem dX7_lay_69 : decode cX7_lay 69 = .ok (.if_icmp .ne 44, 3) := by decide +kernel
theorem dX7_lay_72 : decode cX7_lay 72 = .ok (.aload_n 0, 1) := by decide +kernel
theorem dX7_lay_73 : decode cX7_lay 73 = .ok (.iload_n 3, 1) := by decide +kernel
theorem dX7_lay_74 : decode cX7_lay 74 = .ok (.invokevirtual 261, 3) := by decide +kernel
theorem dX7_lay_77 : decode cX7_lay 77 = .ok (.astore 6, 2) := by decide +kernel
theorem dX7_lay_79 : decode cX7_lay 79 = .ok (.aload 6, 2) := by decide +kernel
theorem dX7_lay_81 : decode cX7_lay 81 = .ok (.ifnonnull 6, 3) := by decide +kernel
theorem dX7_lay_84 : decode cX7_lay 84 = .ok (.ldc 68, 2) := by decide +kernel
theorem dX7_lay_86 : decode cX7_lay 86 = .ok (.ireturn, 1) := by decide +kernel
theorem dX7_lay_87 : decode cX7_lay 87 = .ok (.aload 6, 2) := by decide +kernel
theorem dX7_lay_89 : decode cX7_lay 89 = .ok (.getfield 269, 3) := by decide +kernel
theorem dX7_lay_92 : decode cX7_lay 92 = .ok (.iconst (-1), 1) := by decide +kernel
theorem dX7_lay_93 : decode cX7_lay 93 = .ok (.if_icmp .ne 7, 3) := by decide +kernel
theorem dX7_lay_96 : decode cX7_lay 96 = .ok (.ldc_w 272, 3) := by decide +kernel
theorem dX7_lay_99 : decode cX7_lay 99 = .ok (.ireturn, 1) := by decide +kernel
theorem dX7_lay_100 : decode cX7_lay 100 = .ok (.aload 4, 2) := by decide +kernel
theorem dX7_lay_102 : decode cX7_lay 102 = .ok (.getfield 313, 3) := by decide +kernel
theorem dX7_lay_105 : decode cX7_lay 105 = .ok (.aload 6, 2) := by decide +kernel
theorem dX7_lay_107 : decode cX7_lay 107 = .ok (.invokevirtual 317, 3) := by decide +kernel
theorem dX7_lay_110 : decode cX7_lay 110 = .ok (.goto 14, 3) := by decide +kernel
theorem dX7_lay_113 : decode cX7_lay 113 = .ok (.iload_n 2, 1) := by decide +kernel
theorem dX7_lay_114 : decode cX7_lay 114 = .ok (.iconst 3, 1) := by decide +kernel
theorem dX7_lay_115 : decode cX7_lay 115 = .ok (.if_icmp .ne 9, 3) := by decide +kernel
theorem dX7_lay_118 : decode cX7_lay 118 = .ok (.aload 4, 2) := by decide +kernel
theorem dX7_lay_120 : decode cX7_lay 120 = .ok (.iload_n 3, 1) := by decide +kernel
theorem dX7_lay_121 : decode cX7_lay 121 = .ok (.putfield 320, 3) := by decide +kernel
theorem dX7_lay_124 : decode cX7_lay 124 = .ok (.aload 4, 2) := by decide +kernel
theorem dX7_lay_126 : decode cX7_lay 126 = .ok (.iload_n 2, 1) := by decide +kernel
theorem dX7_lay_127 : decode cX7_lay 127 = .ok (.putfield 303, 3) := by decide +kernel
theorem dX7_lay_130 : decode cX7_lay 130 = .ok (.iload 5, 2) := by decide +kernel
theorem dX7_lay_132 : decode cX7_lay 132 = .ok (.ireturn, 1) := by decide +kernel
theorem dX7_ask_0 : decode cX7_ask 0 = .ok (.aload_n 0, 1) := by decide +kernel
theorem dX7_ask_1 : decode cX7_ask 1 = .ok (.iload_n 1, 1) := by decide +kernel
theorem dX7_ask_2 : decode cX7_ask 2 = .ok (.invokevirtual 299, 3) := by decide +kernel
theorem dX7_ask_5 : decode cX7_ask 5 = .ok (.astore_n 3, 1) := by decide +kernel
theorem dX7_ask_6 : decode cX7_ask 6 = .ok (.aload_n 3, 1) := by decide +kernel
theorem dX7_ask_7 : decode cX7_ask 7 = .ok (.ifnull 10, 3) := by decide +kernel
theorem dX7_ask_10 : decode cX7_ask 10 = .ok (.iload_n 2, 1) := by decide +kernel
theorem dX7_ask_11 : decode cX7_ask 11 = .ok (.invokestatic 60, 3) := by decide +kernel
theorem dX7_ask_14 : decode cX7_ask 14 = .ok (.ifCond .ne 6, 3) := by decide +kernel
theorem dX7_ask_17 : decode cX7_ask 17 = .ok (.ldc 68, 2) := by decide +kernel
theorem dX7_ask_19 : decode cX7_ask 19 = .ok (.ireturn, 1) := by decide +kernel
theorem dX7_ask_20 : decode cX7_ask 20 = .ok (.aload_n 3, 1) := by decide +kernel
theorem dX7_ask_21 : decode cX7_ask 21 = .ok (.getfield 303, 3) := by decide +kernel
theorem dX7_ask_24 : decode cX7_ask 24 = .ok (.ifCond .ne 7, 3) := by decide +kernel
theorem dX7_ask_27 : decode cX7_ask 27 = .ok (.ldc_w 272, 3) := by decide +kernel
theorem dX7_ask_30 : decode cX7_ask 30 = .ok (.ireturn, 1) := by decide +kernel
theorem dX7_ask_31 : decode cX7_ask 31 = .ok (.aload_n 3, 1) := by decide +kernel
theorem dX7_ask_32 : decode cX7_ask 32 = .ok (.getfield 303, 3) := by decide +kernel
theorem dX7_ask_35 : decode cX7_ask 35 = .ok (.iconst 1, 1) := by decide +kernel
theorem dX7_ask_36 : decode cX7_ask 36 = .ok (.if_icmp .ne 17, 3) := by decide +kernel
theorem dX7_ask_39 : decode cX7_ask 39 = .ok (.aload_n 3, 1) := by decide +kernel
theorem dX7_ask_40 : decode cX7_ask 40 = .ok (.getfield 306, 3) := by decide +kernel
theorem dX7_ask_43 : decode cX7_ask 43 = .ok (.getfield 86, 3) := by decide +kernel
theorem dX7_ask_46 : decode cX7_ask 46 = .ok (.iload_n 2, 1) := by decide +kernel
theorem dX7_ask_47 : decode cX7_ask 47 = .ok (.invokestatic 128, 3) := by decide +kernel
theorem dX7_ask_50 : decode cX7_ask 50 = .ok (.ifCond .ne 6, 3) := by decide +kernel
theorem dX7_ask_53 : decode cX7_ask 53 = .ok (.ldc 134, 2) := by decide +kernel
theorem dX7_ask_55 : decode cX7_ask 55 = .ok (.ireturn, 1) := by decide +kernel
theorem dX7_ask_56 : decode cX7_ask 56 = .ok (.aload_n 3, 1) := by decide +kernel
theorem dX7_ask_57 : decode cX7_ask 57 = .ok (.getfield 306, 3) := by decide +kernel
theorem dX7_ask_60 : decode cX7_ask 60 = .ok (.invokevirtual 112, 3) := by decide +kernel
theorem dX7_ask_63 : decode cX7_ask 63 = .ok (.ireturn, 1) := by decide +kernel
theorem dX7_item_0 : decode cX7_item 0 = .ok (.aload_n 0, 1) := by decide +kernel
theorem dX7_item_1 : decode cX7_item 1 = .ok (.iload_n 1, 1) := by decide +kernel
theorem dX7_item_2 : decode cX7_item 2 = .ok (.invokevirtual 299, 3) := by decide +kernel
theorem dX7_item_5 : decode cX7_item 5 = .ok (.astore_n 3, 1) := by decide +kernel
theorem dX7_item_6 : decode cX7_item 6 = .ok (.aload_n 3, 1) := by decide +kernel
theorem dX7_item_7 : decode cX7_item 7 = .ok (.ifnonnull 6, 3) := by decide +kernel
theorem dX7_item_10 : decode cX7_item 10 = .ok (.ldc 68, 2) := by decide +kernel
theorem dX7_item_12 : decode cX7_item 12 = .ok (.ireturn, 1) := by decide +kernel
theorem dX7_item_13 : decode cX7_item 13 = .ok (.aload_n 3, 1) := by decide +kernel
theorem dX7_item_14 : decode cX7_item 14 = .ok (.getfield 303, 3) := by decide +kernel
theorem dX7_item_17 : decode cX7_item 17 = .ok (.ifCond .ne 7, 3) := by decide +kernel
theorem dX7_item_20 : decode cX7_item 20 = .ok (.ldc_w 272, 3) := by decide +kernel
theorem dX7_item_23 : decode cX7_item 23 = .ok (.ireturn, 1) := by decide +kernel
theorem dX7_item_24 : decode cX7_item 24 = .ok (.aload_n 3, 1) := by decide +kernel
theorem dX7_item_25 : decode cX7_item 25 = .ok (.getfield 303, 3) := by decide +kernel
theorem dX7_item_28 : decode cX7_item 28 = .ok (.iconst 2, 1) := by decide +kernel
theorem dX7_item_29 : decode cX7_item 29 = .ok (.if_icmp .eq 6, 3) := by decide +kernel
theorem dX7_item_32 : decode cX7_item 32 = .ok (.ldc 134, 2) := by decide +kernel
theorem dX7_item_34 : decode cX7_item 34 = .ok (.ireturn, 1) := by decide +kernel
theorem dX7_item_35 : decode cX7_item 35 = .ok (.iload_n 2, 1) := by decide +kernel
theorem dX7_item_36 : decode cX7_item 36 = .ok (.iconst 0, 1) := by decide +kernel
theorem dX7_item_37 : decode cX7_item 37 = .ok (.aload_n 3, 1) := by decide +kernel
theorem dX7_item_38 : decode cX7_item 38 = .ok (.getfield 313, 3) := by decide +kernel
theorem dX7_item_41 : decode cX7_item 41 = .ok (.getfield 273, 3) := by decide +kernel
theorem dX7_item_44 : decode cX7_item 44 = .ok (.iconst 1, 1) := by decide +kernel
theorem dX7_item_45 : decode cX7_item 45 = .ok (.isub, 1) := by decide +kernel
theorem dX7_item_46 : decode cX7_item 46 = .ok (.invokestatic 82, 3) := by decide +kernel
theorem dX7_item_49 : decode cX7_item 49 = .ok (.ifCond .ne 7, 3) := by decide +kernel
theorem dX7_item_52 : decode cX7_item 52 = .ok (.ldc_w 274, 3) := by decide +kernel
theorem dX7_item_55 : decode cX7_item 55 = .ok (.ireturn, 1) := by decide +kernel
theorem dX7_item_56 : decode cX7_item 56 = .ok (.aload_n 3, 1) := by decide +kernel
theorem dX7_item_57 : decode cX7_item 57 = .ok (.getfield 313, 3) := by decide +kernel
theorem dX7_item_60 : decode cX7_item 60 = .ok (.getfield 275, 3) := by decide +kernel
theorem dX7_item_63 : decode cX7_item 63 = .ok (.iload_n 2, 1) := by decide +kernel
theorem dX7_item_64 : decode cX7_item 64 = .ok (.iaload, 1) := by decide +kernel
theorem dX7_item_65 : decode cX7_item 65 = .ok (.istore 4, 2) := by decide +kernel
theorem dX7_item_67 : decode cX7_item 67 = .ok (.iload 4, 2) := by decide +kernel
theorem dX7_item_69 : decode cX7_item 69 = .ok (.ldc 183, 2) := by decide +kernel
theorem dX7_item_71 : decode cX7_item 71 = .ok (.if_icmp .ne 8, 3) := by decide +kernel
theorem dX7_item_74 : decode cX7_item 74 = .ok (.ldc 134, 2) := by decide +kernel
theorem dX7_item_76 : decode cX7_item 76 = .ok (.goto 5, 3) := by decide +kernel
theorem dX7_item_79 : decode cX7_item 79 = .ok (.iload 4, 2) := by decide +kernel
theorem dX7_item_81 : decode cX7_item 81 = .ok (.ireturn, 1) := by decide +kernel
theorem dX7_rest_0 : decode cX7_rest 0 = .ok (.aload_n 0, 1) := by decide +kernel
theorem dX7_rest_1 : decode cX7_rest 1 = .ok (.iload_n 1, 1) := by decide +kernel
theorem dX7_rest_2 : decode cX7_rest 2 = .ok (.invokevirtual 299, 3) := by decide +kernel
theorem dX7_rest_5 : decode cX7_rest 5 = .ok (.astore_n 3, 1) := by decide +kernel
theorem dX7_rest_6 : decode cX7_rest 6 = .ok (.aload_n 3, 1) := by decide +kernel
theorem dX7_rest_7 : decode cX7_rest 7 = .ok (.ifnonnull 6, 3) := by decide +kernel
theorem dX7_rest_10 : decode cX7_rest 10 = .ok (.ldc 68, 2) := by decide +kernel
theorem dX7_rest_12 : decode cX7_rest 12 = .ok (.ireturn, 1) := by decide +kernel
theorem dX7_rest_13 : decode cX7_rest 13 = .ok (.aload_n 3, 1) := by decide +kernel
theorem dX7_rest_14 : decode cX7_rest 14 = .ok (.getfield 303, 3) := by decide +kernel
theorem dX7_rest_17 : decode cX7_rest 17 = .ok (.ifCond .ne 7, 3) := by decide +kernel
theorem dX7_rest_20 : decode cX7_rest 20 = .ok (.ldc_w 272, 3) := by decide +kernel
theorem dX7_rest_23 : decode cX7_rest 23 = .ok (.ireturn, 1) := by decide +kernel
theorem dX7_rest_24 : decode cX7_rest 24 = .ok (.aload_n 3, 1) := by decide +kernel
theorem dX7_rest_25 : decode cX7_rest 25 = .ok (.getfield 303, 3) := by decide +kernel
theorem dX7_rest_28 : decode cX7_rest 28 = .ok (.iconst 3, 1) := by decide +kernel
theorem dX7_rest_29 : decode cX7_rest 29 = .ok (.if_icmp .eq 6, 3) := by decide +kernel
theorem dX7_rest_32 : decode cX7_rest 32 = .ok (.ldc 134, 2) := by decide +kernel
theorem dX7_rest_34 : decode cX7_rest 34 = .ok (.ireturn, 1) := by decide +kernel
theorem dX7_rest_35 : decode cX7_rest 35 = .ok (.iload_n 2, 1) := by decide +kernel
theorem dX7_rest_36 : decode cX7_rest 36 = .ok (.ifCond .ne 9, 3) := by decide +kernel
theorem dX7_rest_39 : decode cX7_rest 39 = .ok (.ldc_w 323, 3) := by decide +kernel
theorem dX7_rest_42 : decode cX7_rest 42 = .ok (.goto 9, 3) := by decide +kernel
theorem dX7_rest_45 : decode cX7_rest 45 = .ok (.aload_n 3, 1) := by decide +kernel
theorem dX7_rest_46 : decode cX7_rest 46 = .ok (.getfield 320, 3) := by decide +kernel
theorem dX7_rest_49 : decode cX7_rest 49 = .ok (.iload_n 2, 1) := by decide +kernel
theorem dX7_rest_50 : decode cX7_rest 50 = .ok (.irem, 1) := by decide +kernel
theorem dX7_rest_51 : decode cX7_rest 51 = .ok (.ireturn, 1) := by decide +kernel
theorem dX7_tell_0 : decode cX7_tell 0 = .ok (.aload_n 0, 1) := by decide +kernel
theorem dX7_tell_1 : decode cX7_tell 1 = .ok (.getfield 43, 3) := by decide +kernel
theorem dX7_tell_4 : decode cX7_tell 4 = .ok (.getfield 227, 3) := by decide +kernel
theorem dX7_tell_7 : decode cX7_tell 7 = .ok (.bipush 60, 2) := by decide +kernel
theorem dX7_tell_9 : decode cX7_tell 9 = .ok (.if_icmp .lt 6, 3) := by decide +kernel
theorem dX7_tell_12 : decode cX7_tell 12 = .ok (.ldc 73, 2) := by decide +kernel
theorem dX7_tell_14 : decode cX7_tell 14 = .ok (.ireturn, 1) := by decide +kernel
theorem dX7_tell_15 : decode cX7_tell 15 = .ok (.aload_n 0, 1) := by decide +kernel
theorem dX7_tell_16 : decode cX7_tell 16 = .ok (.getfield 43, 3) := by decide +kernel
theorem dX7_tell_19 : decode cX7_tell 19 = .ok (.iload_n 1, 1) := by decide +kernel
theorem dX7_tell_20 : decode cX7_tell 20 = .ok (.invokevirtual 324, 3) := by decide +kernel
theorem dX7_tell_23 : decode cX7_tell 23 = .ok (.aload_n 0, 1) := by decide +kernel
theorem dX7_tell_24 : decode cX7_tell 24 = .ok (.getfield 43, 3) := by decide +kernel
theorem dX7_tell_27 : decode cX7_tell 27 = .ok (.getfield 227, 3) := by decide +kernel
theorem dX7_tell_30 : decode cX7_tell 30 = .ok (.ireturn, 1) := by decide +kernel
theorem dX7_check_0 : decode cX7_check 0 = .ok (.iload_n 1, 1) := by decide +kernel
theorem dX7_check_1 : decode cX7_check 1 = .ok (.iconst 1, 1) := by decide +kernel
theorem dX7_check_2 : decode cX7_check 2 = .ok (.bipush 30, 2) := by decide +kernel
theorem dX7_check_4 : decode cX7_check 4 = .ok (.invokestatic 82, 3) := by decide +kernel
theorem dX7_check_7 : decode cX7_check 7 = .ok (.ifCond .eq 24, 3) := by decide +kernel
theorem dX7_check_10 : decode cX7_check 10 = .ok (.aload_n 0, 1) := by decide +kernel
theorem dX7_check_11 : decode cX7_check 11 = .ok (.getfield 22, 3) := by decide +kernel
theorem dX7_check_14 : decode cX7_check 14 = .ok (.ifCond .eq 11, 3) := by decide +kernel
theorem dX7_check_17 : decode cX7_check 17 = .ok (.aload_n 0, 1) := by decide +kernel
theorem dX7_check_18 : decode cX7_check 18 = .ok (.iload_n 1, 1) := by decide +kernel
theorem dX7_check_19 : decode cX7_check 19 = .ok (.invokevirtual 327, 3) := by decide +kernel
theorem dX7_check_22 : decode cX7_check 22 = .ok (.goto 11, 3) := by decide +kernel
theorem dX7_check_25 : decode cX7_check 25 = .ok (.ldc_w 323, 3) := by decide +kernel
theorem dX7_check_28 : decode cX7_check 28 = .ok (.goto 5, 3) := by decide +kernel
theorem dX7_check_31 : decode cX7_check 31 = .ok (.ldc 68, 2) := by decide +kernel
theorem dX7_check_33 : decode cX7_check 33 = .ok (.istore_n 2, 1) := by decide +kernel
theorem dX7_check_34 : decode cX7_check 34 = .ok (.aload_n 0, 1) := by decide +kernel
theorem dX7_check_35 : decode cX7_check 35 = .ok (.getfield 43, 3) := by decide +kernel
theorem dX7_check_38 : decode cX7_check 38 = .ok (.iconst 0, 1) := by decide +kernel
theorem dX7_check_39 : decode cX7_check 39 = .ok (.putfield 227, 3) := by decide +kernel
theorem dX7_check_42 : decode cX7_check 42 = .ok (.iload_n 2, 1) := by decide +kernel
theorem dX7_check_43 : decode cX7_check 43 = .ok (.ireturn, 1) := by decide +kernel
theorem dX7_keep_0 : decode cX7_keep 0 = .ok (.aload_n 0, 1) := by decide +kernel
theorem dX7_keep_1 : decode cX7_keep 1 = .ok (.getfield 19, 3) := by decide +kernel
theorem dX7_keep_4 : decode cX7_keep 4 = .ok (.aload_n 0, 1) := by decide +kernel
theorem dX7_keep_5 : decode cX7_keep 5 = .ok (.getfield 10, 3) := by decide +kernel
theorem dX7_keep_8 : decode cX7_keep 8 = .ok (.invokevirtual 170, 3) := by decide +kernel
theorem dX7_keep_11 : decode cX7_keep 11 = .ok (.aload_n 0, 1) := by decide +kernel
theorem dX7_keep_12 : decode cX7_keep 12 = .ok (.iconst 1, 1) := by decide +kernel
theorem dX7_keep_13 : decode cX7_keep 13 = .ok (.putfield 22, 3) := by decide +kernel
theorem dX7_keep_16 : decode cX7_keep 16 = .ok (.aload_n 0, 1) := by decide +kernel
theorem dX7_keep_17 : decode cX7_keep 17 = .ok (.getfield 10, 3) := by decide +kernel
theorem dX7_keep_20 : decode cX7_keep 20 = .ok (.getfield 69, 3) := by decide +kernel
theorem dX7_keep_23 : decode cX7_keep 23 = .ok (.ireturn, 1) := by decide +kernel
theorem dX7_back_0 : decode cX7_back 0 = .ok (.aload_n 0, 1) := by decide +kernel
theorem dX7_back_1 : decode cX7_back 1 = .ok (.getfield 22, 3) := by decide +kernel
theorem dX7_back_4 : decode cX7_back 4 = .ok (.ifCond .ne 7, 3) := by decide +kernel
theorem dX7_back_7 : decode cX7_back 7 = .ok (.ldc_w 323, 3) := by decide +kernel
theorem dX7_back_10 : decode cX7_back 10 = .ok (.ireturn, 1) := by decide +kernel
theorem dX7_back_11 : decode cX7_back 11 = .ok (.aload_n 0, 1) := by decide +kernel
theorem dX7_back_12 : decode cX7_back 12 = .ok (.getfield 10, 3) := by decide +kernel
theorem dX7_back_15 : decode cX7_back 15 = .ok (.aload_n 0, 1) := by decide +kernel
theorem dX7_back_16 : decode cX7_back 16 = .ok (.getfield 19, 3) := by decide +kernel
theorem dX7_back_19 : decode cX7_back 19 = .ok (.invokevirtual 170, 3) := by decide +kernel
theorem dX7_back_22 : decode cX7_back 22 = .ok (.aload_n 0, 1) := by decide +kernel
theorem dX7_back_23 : decode cX7_back 23 = .ok (.getfield 10, 3) := by decide +kernel
theorem dX7_back_26 : decode cX7_back 26 = .ok (.getfield 69, 3) := by decide +kernel
theorem dX7_back_29 : decode cX7_back 29 = .ok (.ireturn, 1) := by decide +kernel
theorem dX7_count_0 : decode cX7_count 0 = .ok (.iload_n 1, 1) := by decide +kernel
theorem dX7_count_1 : decode cX7_count 1 = .ok (.tableswitch 159 0 11 #[63, 71, 79, 87, 95, 103, 111, 119, 127, 135, 143, 151], 63) := by decide +kernel
theorem dX7_count_64 : decode cX7_count 64 = .ok (.aload_n 0, 1) := by decide +kernel
theorem dX7_count_65 : decode cX7_count 65 = .ok (.getfield 10, 3) := by decide +kernel
theorem dX7_count_68 : decode cX7_count 68 = .ok (.getfield 69, 3) := by decide +kernel
theorem dX7_count_71 : decode cX7_count 71 = .ok (.ireturn, 1) := by decide +kernel
theorem dX7_count_72 : decode cX7_count 72 = .ok (.aload_n 0, 1) := by decide +kernel
theorem dX7_count_73 : decode cX7_count 73 = .ok (.getfield 10, 3) := by decide +kernel
theorem dX7_count_76 : decode cX7_count 76 = .ok (.invokevirtual 330, 3) := by decide +kernel
theorem dX7_count_79 : decode cX7_count 79 = .ok (.ireturn, 1) := by decide +kernel
theorem dX7_count_80 : decode cX7_count 80 = .ok (.aload_n 0, 1) := by decide +kernel
theorem dX7_count_81 : decode cX7_count 81 = .ok (.getfield 10, 3) := by decide +kernel
theorem dX7_count_84 : decode cX7_count 84 = .ok (.getfield 333, 3) := by decide +kernel
theorem dX7_count_87 : decode cX7_count 87 = .ok (.ireturn, 1) := by decide +kernel
theorem dX7_count_88 : decode cX7_count 88 = .ok (.aload_n 0, 1) := by decide +kernel
theorem dX7_count_89 : decode cX7_count 89 = .ok (.getfield 10, 3) := by decide +kernel
theorem dX7_count_92 : decode cX7_count 92 = .ok (.getfield 174, 3) := by decide +kernel
theorem dX7_count_95 : decode cX7_count 95 = .ok (.ireturn, 1) := by decide +kernel
theorem dX7_count_96 : decode cX7_count 96 = .ok (.aload_n 0, 1) := by decide +kernel
theorem dX7_count_97 : decode cX7_count 97 = .ok (.getfield 10, 3) := by decide +kernel
theorem dX7_count_100 : decode cX7_count 100 = .ok (.getfield 187, 3) := by decide +kernel
theorem dX7_count_103 : decode cX7_count 103 = .ok (.ireturn, 1) := by decide +kernel
theorem dX7_count_104 : decode cX7_count 104 = .ok (.aload_n 0, 1) := by decide +kernel
theorem dX7_count_105 : decode cX7_count 105 = .ok (.getfield 10, 3) := by decide +kernel
theorem dX7_count_108 : decode cX7_count 108 = .ok (.getfield 207, 3) := by decide +kernel
theorem dX7_count_111 : decode cX7_count 111 = .ok (.ireturn, 1) := by decide +kernel
theorem dX7_count_112 : decode cX7_count 112 = .ok (.aload_n 0, 1) := by decide +kernel
theorem dX7_count_113 : decode cX7_count 113 = .ok (.getfield 10, 3) := by decide +kernel
theorem dX7_count_116 : decode cX7_count 116 = .ok (.invokevirtual 167, 3) := by decide +kernel
theorem dX7_count_119 : decode cX7_count 119 = .ok (.ireturn, 1) := by decide +kernel
theorem dX7_count_120 : decode cX7_count 120 = .ok (.aload_n 0, 1) := by decide +kernel
theorem dX7_count_121 : decode cX7_count 121 = .ok (.getfield 10, 3) := by decide +kernel
theorem dX7_count_124 : decode cX7_count 124 = .ok (.invokevirtual 177, 3) := by decide +kernel
theorem dX7_count_127 : decode cX7_count 127 = .ok (.ireturn, 1) := by decide +kernel
theorem dX7_count_128 : decode cX7_count 128 = .ok (.aload_n 0, 1) := by decide +kernel
theorem dX7_count_129 : decode cX7_count 129 = .ok (.getfield 10, 3) := by decide +kernel
theorem dX7_count_132 : decode cX7_count 132 = .ok (.getfield 238, 3) := by decide +kernel
theorem dX7_count_135 : decode cX7_count 135 = .ok (.ireturn, 1) := by decide +kernel
theorem dX7_count_136 : decode cX7_count 136 = .ok (.aload_n 0, 1) := by decide +kernel
theorem dX7_count_137 : decode cX7_count 137 = .ok (.getfield 43, 3) := by decide +kernel
theorem dX7_count_140 : decode cX7_count 140 = .ok (.getfield 227, 3) := by decide +kernel
theorem dX7_count_143 : decode cX7_count 143 = .ok (.ireturn, 1) := by decide +kernel
theorem dX7_count_144 : decode cX7_count 144 = .ok (.aload_n 0, 1) := by decide +kernel
theorem dX7_count_145 : decode cX7_count 145 = .ok (.getfield 37, 3) := by decide +kernel
theorem dX7_count_148 : decode cX7_count 148 = .ok (.getfield 227, 3) := by decide +kernel
theorem dX7_count_151 : decode cX7_count 151 = .ok (.ireturn, 1) := by decide +kernel
theorem dX7_count_152 : decode cX7_count 152 = .ok (.aload_n 0, 1) := by decide +kernel
theorem dX7_count_153 : decode cX7_count 153 = .ok (.getfield 10, 3) := by decide +kernel
theorem dX7_count_156 : decode cX7_count 156 = .ok (.getfield 161, 3) := by decide +kernel
theorem dX7_count_159 : decode cX7_count 159 = .ok (.ireturn, 1) := by decide +kernel
theorem dX7_count_160 : decode cX7_count 160 = .ok (.ldc 68, 2) := by decide +kernel
theorem dX7_count_162 : decode cX7_count 162 = .ok (.ireturn, 1) := by decide +kernel
theorem dX7_within_0 : decode cX7_within 0 = .ok (.iload_n 0, 1) := by decide +kernel
theorem dX7_within_1 : decode cX7_within 1 = .ok (.iload_n 1, 1) := by decide +kernel
theorem dX7_within_2 : decode cX7_within 2 = .ok (.if_icmp .lt 12, 3) := by decide +kernel
theorem dX7_within_5 : decode cX7_within 5 = .ok (.iload_n 0, 1) := by decide +kernel
theorem dX7_within_6 : decode cX7_within 6 = .ok (.iload_n 2, 1) := by decide +kernel
theorem dX7_within_7 : decode cX7_within 7 = .ok (.if_icmp .gt 7, 3) := by decide +kernel
theorem dX7_within_10 : decode cX7_within 10 = .ok (.iconst 1, 1) := by decide +kernel
theorem dX7_within_11 : decode cX7_within 11 = .ok (.goto 4, 3) := by decide +kernel
theorem dX7_within_14 : decode cX7_within 14 = .ok (.iconst 0, 1) := by decide +kernel
theorem dX7_within_15 : decode cX7_within 15 = .ok (.ireturn, 1) := by decide +kernel
theorem dX7_held_0 : decode cX7_held 0 = .ok (.iload_n 1, 1) := by decide +kernel
theorem dX7_held_1 : decode cX7_held 1 = .ok (.iload_n 2, 1) := by decide +kernel
theorem dX7_held_2 : decode cX7_held 2 = .ok (.iload_n 0, 1) := by decide +kernel
theorem dX7_held_3 : decode cX7_held 3 = .ok (.invokestatic 150, 3) := by decide +kernel
theorem dX7_held_6 : decode cX7_held 6 = .ok (.invokestatic 190, 3) := by decide +kernel
theorem dX7_held_9 : decode cX7_held 9 = .ok (.ireturn, 1) := by decide +kernel
theorem dX7_isKind_0 : decode cX7_isKind 0 = .ok (.iload_n 0, 1) := by decide +kernel
theorem dX7_isKind_1 : decode cX7_isKind 1 = .ok (.iconst 0, 1) := by decide +kernel
theorem dX7_isKind_2 : decode cX7_isKind 2 = .ok (.getstatic 158, 3) := by decide +kernel
theorem dX7_isKind_5 : decode cX7_isKind 5 = .ok (.arraylength, 1) := by decide +kernel
theorem dX7_isKind_6 : decode cX7_isKind 6 = .ok (.iconst 1, 1) := by decide +kernel
theorem dX7_isKind_7 : decode cX7_isKind 7 = .ok (.isub, 1) := by decide +kernel
theorem dX7_isKind_8 : decode cX7_isKind 8 = .ok (.invokestatic 82, 3) := by decide +kernel
theorem dX7_isKind_11 : decode cX7_isKind 11 = .ok (.ireturn, 1) := by decide +kernel
theorem dX7_isUnder_0 : decode cX7_isUnder 0 = .ok (.iload_n 0, 1) := by decide +kernel
theorem dX7_isUnder_1 : decode cX7_isUnder 1 = .ok (.istore_n 2, 1) := by decide +kernel
theorem dX7_isUnder_2 : decode cX7_isUnder 2 = .ok (.iconst 0, 1) := by decide +kernel
theorem dX7_isUnder_3 : decode cX7_isUnder 3 = .ok (.istore_n 3, 1) := by decide +kernel
theorem dX7_isUnder_4 : decode cX7_isUnder 4 = .ok (.iload_n 3, 1) := by decide +kernel
theorem dX7_isUnder_5 : decode cX7_isUnder 5 = .ok (.getstatic 158, 3) := by decide +kernel
theorem dX7_isUnder_8 : decode cX7_isUnder 8 = .ok (.arraylength, 1) := by decide +kernel
theorem dX7_isUnder_9 : decode cX7_isUnder 9 = .ok (.if_icmp .ge 29, 3) := by decide +kernel
theorem dX7_isUnder_12 : decode cX7_isUnder 12 = .ok (.iload_n 2, 1) := by decide +kernel
theorem dX7_isUnder_13 : decode cX7_isUnder 13 = .ok (.invokestatic 60, 3) := by decide +kernel
theorem dX7_isUnder_16 : decode cX7_isUnder 16 = .ok (.ifCond .eq 22, 3) := by decide +kernel
theorem dX7_isUnder_19 : decode cX7_isUnder 19 = .ok (.iload_n 2, 1) := by decide +kernel
theorem dX7_isUnder_20 : decode cX7_isUnder 20 = .ok (.iload_n 1, 1) := by decide +kernel
theorem dX7_isUnder_21 : decode cX7_isUnder 21 = .ok (.if_icmp .ne 5, 3) := by decide +kernel
theorem dX7_isUnder_24 : decode cX7_isUnder 24 = .ok (.iconst 1, 1) := by decide +kernel
theorem dX7_isUnder_25 : decode cX7_isUnder 25 = .ok (.ireturn, 1) := by decide +kernel
theorem dX7_isUnder_26 : decode cX7_isUnder 26 = .ok (.getstatic 158, 3) := by decide +kernel
theorem dX7_isUnder_29 : decode cX7_isUnder 29 = .ok (.iload_n 2, 1) := by decide +kernel
theorem dX7_isUnder_30 : decode cX7_isUnder 30 = .ok (.iaload, 1) := by decide +kernel
theorem dX7_isUnder_31 : decode cX7_isUnder 31 = .ok (.istore_n 2, 1) := by decide +kernel
theorem dX7_isUnder_32 : decode cX7_isUnder 32 = .ok (.iinc 3 1, 3) := by decide +kernel
theorem dX7_isUnder_35 : decode cX7_isUnder 35 = .ok (.goto (-31), 3) := by decide +kernel
theorem dX7_isUnder_38 : decode cX7_isUnder 38 = .ok (.iconst 0, 1) := by decide +kernel
theorem dX7_isUnder_39 : decode cX7_isUnder 39 = .ok (.ireturn, 1) := by decide +kernel
theorem dX7_fitsHabit_0 : decode cX7_fitsHabit 0 = .ok (.iload_n 0, 1) := by decide +kernel
theorem dX7_fitsHabit_1 : decode cX7_fitsHabit 1 = .ok (.iconst 1, 1) := by decide +kernel
theorem dX7_fitsHabit_2 : decode cX7_fitsHabit 2 = .ok (.iconst 4, 1) := by decide +kernel
theorem dX7_fitsHabit_3 : decode cX7_fitsHabit 3 = .ok (.invokestatic 82, 3) := by decide +kernel
theorem dX7_fitsHabit_6 : decode cX7_fitsHabit 6 = .ok (.ifCond .eq 24, 3) := by decide +kernel
theorem dX7_fitsHabit_9 : decode cX7_fitsHabit 9 = .ok (.iload_n 1, 1) := by decide +kernel
theorem dX7_fitsHabit_10 : decode cX7_fitsHabit 10 = .ok (.getstatic 193, 3) := by decide +kernel
theorem dX7_fitsHabit_13 : decode cX7_fitsHabit 13 = .ok (.iload_n 0, 1) := by decide +kernel
theorem dX7_fitsHabit_14 : decode cX7_fitsHabit 14 = .ok (.iaload, 1) := by decide +kernel
theorem dX7_fitsHabit_15 : decode cX7_fitsHabit 15 = .ok (.getstatic 196, 3) := by decide +kernel
theorem dX7_fitsHabit_18 : decode cX7_fitsHabit 18 = .ok (.iload_n 0, 1) := by decide +kernel
theorem dX7_fitsHabit_19 : decode cX7_fitsHabit 19 = .ok (.iaload, 1) := by decide +kernel
theorem dX7_fitsHabit_20 : decode cX7_fitsHabit 20 = .ok (.invokestatic 82, 3) := by decide +kernel
theorem dX7_fitsHabit_23 : decode cX7_fitsHabit 23 = .ok (.ifCond .eq 7, 3) := by decide +kernel
theorem dX7_fitsHabit_26 : decode cX7_fitsHabit 26 = .ok (.iconst 1, 1) := by decide +kernel
theorem dX7_fitsHabit_27 : decode cX7_fitsHabit 27 = .ok (.goto 4, 3) := by decide +kernel
theorem dX7_fitsHabit_30 : decode cX7_fitsHabit 30 = .ok (.iconst 0, 1) := by decide +kernel
theorem dX7_fitsHabit_31 : decode cX7_fitsHabit 31 = .ok (.ireturn, 1) := by decide +kernel
theorem dX7_greatestShared_0 : decode cX7_greatestShared 0 = .ok (.lload_n 0, 1) := by decide +kernel
theorem dX7_greatestShared_1 : decode cX7_greatestShared 1 = .ok (.lstore 4, 2) := by decide +kernel
theorem dX7_greatestShared_3 : decode cX7_greatestShared 3 = .ok (.lload_n 2, 1) := by decide +kernel
theorem dX7_greatestShared_4 : decode cX7_greatestShared 4 = .ok (.lstore 6, 2) := by decide +kernel
theorem dX7_greatestShared_6 : decode cX7_greatestShared 6 = .ok (.iconst 0, 1) := by decide +kernel
theorem dX7_greatestShared_7 : decode cX7_greatestShared 7 = .ok (.istore 8, 2) := by decide +kernel
theorem dX7_greatestShared_9 : decode cX7_greatestShared 9 = .ok (.iload 8, 2) := by decide +kernel
theorem dX7_greatestShared_11 : decode cX7_greatestShared 11 = .ok (.sipush 128, 3) := by decide +kernel
theorem dX7_greatestShared_14 : decode cX7_greatestShared 14 = .ok (.if_icmp .ge 31, 3) := by decide +kernel
theorem dX7_greatestShared_17 : decode cX7_greatestShared 17 = .ok (.lload 6, 2) := by decide +kernel
theorem dX7_greatestShared_19 : decode cX7_greatestShared 19 = .ok (.lconst 0, 1) := by decide +kernel
theorem dX7_greatestShared_20 : decode cX7_greatestShared 20 = .ok (.lcmp, 1) := by decide +kernel
theorem dX7_greatestShared_21 : decode cX7_greatestShared 21 = .ok (.ifCond .eq 24, 3) := by decide +kernel
theorem dX7_greatestShared_24 : decode cX7_greatestShared 24 = .ok (.lload 4, 2) := by decide +kernel
theorem dX7_greatestShared_26 : decode cX7_greatestShared 26 = .ok (.lload 6, 2) := by decide +kernel
theorem dX7_greatestShared_28 : decode cX7_greatestShared 28 = .ok (.lrem, 1) := by decide +kernel
theorem dX7_greatestShared_29 : decode cX7_greatestShared 29 = .ok (.lstore 9, 2) := by decide +kernel
theorem dX7_greatestShared_31 : decode cX7_greatestShared 31 = .ok (.lload 6, 2) := by decide +kernel
theorem dX7_greatestShared_33 : decode cX7_greatestShared 33 = .ok (.lstore 4, 2) := by decide +kernel
theorem dX7_greatestShared_35 : decode cX7_greatestShared 35 = .ok (.lload 9, 2) := by decide +kernel
theorem dX7_greatestShared_37 : decode cX7_greatestShared 37 = .ok (.lstore 6, 2) := by decide +kernel
theorem dX7_greatestShared_39 : decode cX7_greatestShared 39 = .ok (.iinc 8 1, 3) := by decide +kernel
theorem dX7_greatestShared_42 : decode cX7_greatestShared 42 = .ok (.goto (-33), 3) := by decide +kernel
theorem dX7_greatestShared_45 : decode cX7_greatestShared 45 = .ok (.lload 4, 2) := by decide +kernel
theorem dX7_greatestShared_47 : decode cX7_greatestShared 47 = .ok (.lreturn, 1) := by decide +kernel
theorem dX7_feedBytesOf_0 : decode cX7_feedBytesOf 0 = .ok (.bipush 24, 2) := by decide +kernel
theorem dX7_feedBytesOf_2 : decode cX7_feedBytesOf 2 = .ok (.istore_n 2, 1) := by decide +kernel
theorem dX7_feedBytesOf_3 : decode cX7_feedBytesOf 3 = .ok (.iload_n 2, 1) := by decide +kernel
theorem dX7_feedBytesOf_4 : decode cX7_feedBytesOf 4 = .ok (.ifCond .lt 23, 3) := by decide +kernel
theorem dX7_feedBytesOf_7 : decode cX7_feedBytesOf 7 = .ok (.aload_n 0, 1) := by decide +kernel
theorem dX7_feedBytesOf_8 : decode cX7_feedBytesOf 8 = .ok (.getfield 37, 3) := by decide +kernel
theorem dX7_feedBytesOf_11 : decode cX7_feedBytesOf 11 = .ok (.iload_n 1, 1) := by decide +kernel
theorem dX7_feedBytesOf_12 : decode cX7_feedBytesOf 12 = .ok (.iload_n 2, 1) := by decide +kernel
theorem dX7_feedBytesOf_13 : decode cX7_feedBytesOf 13 = .ok (.iushr, 1) := by decide +kernel
theorem dX7_feedBytesOf_14 : decode cX7_feedBytesOf 14 = .ok (.sipush 255, 3) := by decide +kernel
theorem dX7_feedBytesOf_17 : decode cX7_feedBytesOf 17 = .ok (.iand, 1) := by decide +kernel
theorem dX7_feedBytesOf_18 : decode cX7_feedBytesOf 18 = .ok (.invokevirtual 324, 3) := by decide +kernel
theorem dX7_feedBytesOf_21 : decode cX7_feedBytesOf 21 = .ok (.iinc 2 (-8), 3) := by decide +kernel
theorem dX7_feedBytesOf_24 : decode cX7_feedBytesOf 24 = .ok (.goto (-21), 3) := by decide +kernel
theorem dX7_feedBytesOf_27 : decode cX7_feedBytesOf 27 = .ok (.return_, 1) := by decide +kernel
theorem dX7_sheetAt_0 : decode cX7_sheetAt 0 = .ok (.iload_n 1, 1) := by decide +kernel
theorem dX7_sheetAt_1 : decode cX7_sheetAt 1 = .ok (.iconst 0, 1) := by decide +kernel
theorem dX7_sheetAt_2 : decode cX7_sheetAt 2 = .ok (.aload_n 0, 1) := by decide +kernel
theorem dX7_sheetAt_3 : decode cX7_sheetAt 3 = .ok (.getfield 48, 3) := by decide +kernel
theorem dX7_sheetAt_6 : decode cX7_sheetAt 6 = .ok (.arraylength, 1) := by decide +kernel
theorem dX7_sheetAt_7 : decode cX7_sheetAt 7 = .ok (.iconst 1, 1) := by decide +kernel
theorem dX7_sheetAt_8 : decode cX7_sheetAt 8 = .ok (.isub, 1) := by decide +kernel
theorem dX7_sheetAt_9 : decode cX7_sheetAt 9 = .ok (.invokestatic 82, 3) := by decide +kernel
theorem dX7_sheetAt_12 : decode cX7_sheetAt 12 = .ok (.ifCond .eq 12, 3) := by decide +kernel
theorem dX7_sheetAt_15 : decode cX7_sheetAt 15 = .ok (.aload_n 0, 1) := by decide +kernel
theorem dX7_sheetAt_16 : decode cX7_sheetAt 16 = .ok (.getfield 48, 3) := by decide +kernel
theorem dX7_sheetAt_19 : decode cX7_sheetAt 19 = .ok (.iload_n 1, 1) := by decide +kernel
theorem dX7_sheetAt_20 : decode cX7_sheetAt 20 = .ok (.aaload, 1) := by decide +kernel
theorem dX7_sheetAt_21 : decode cX7_sheetAt 21 = .ok (.goto 4, 3) := by decide +kernel
theorem dX7_sheetAt_24 : decode cX7_sheetAt 24 = .ok (.aconst_null, 1) := by decide +kernel
theorem dX7_sheetAt_25 : decode cX7_sheetAt 25 = .ok (.areturn, 1) := by decide +kernel
theorem dX7_slotAt_0 : decode cX7_slotAt 0 = .ok (.iload_n 1, 1) := by decide +kernel
theorem dX7_slotAt_1 : decode cX7_slotAt 1 = .ok (.iconst 0, 1) := by decide +kernel
theorem dX7_slotAt_2 : decode cX7_slotAt 2 = .ok (.aload_n 0, 1) := by decide +kernel
theorem dX7_slotAt_3 : decode cX7_slotAt 3 = .ok (.getfield 54, 3) := by decide +kernel
theorem dX7_slotAt_6 : decode cX7_slotAt 6 = .ok (.arraylength, 1) := by decide +kernel
theorem dX7_slotAt_7 : decode cX7_slotAt 7 = .ok (.iconst 1, 1) := by decide +kernel
theorem dX7_slotAt_8 : decode cX7_slotAt 8 = .ok (.isub, 1) := by decide +kernel
theorem dX7_slotAt_9 : decode cX7_slotAt 9 = .ok (.invokestatic 82, 3) := by decide +kernel
theorem dX7_slotAt_12 : decode cX7_slotAt 12 = .ok (.ifCond .eq 12, 3) := by decide +kernel
theorem dX7_slotAt_15 : decode cX7_slotAt 15 = .ok (.aload_n 0, 1) := by decide +kernel
theorem dX7_slotAt_16 : decode cX7_slotAt 16 = .ok (.getfield 54, 3) := by decide +kernel
theorem dX7_slotAt_19 : decode cX7_slotAt 19 = .ok (.iload_n 1, 1) := by decide +kernel
theorem dX7_slotAt_20 : decode cX7_slotAt 20 = .ok (.aaload, 1) := by decide +kernel
theorem dX7_slotAt_21 : decode cX7_slotAt 21 = .ok (.goto 4, 3) := by decide +kernel
theorem dX7_slotAt_24 : decode cX7_slotAt 24 = .ok (.aconst_null, 1) := by decide +kernel
theorem dX7_slotAt_25 : decode cX7_slotAt 25 = .ok (.areturn, 1) := by decide +kernel
theorem dX7_firstUntrue_0 : decode cX7_firstUntrue 0 = .ok (.aload_n 0, 1) := by decide +kernel
theorem dX7_firstUntrue_1 : decode cX7_firstUntrue 1 = .ok (.getfield 16, 3) := by decide +kernel
theorem dX7_firstUntrue_4 : decode cX7_firstUntrue 4 = .ok (.aload_n 0, 1) := by decide +kernel
theorem dX7_firstUntrue_5 : decode cX7_firstUntrue 5 = .ok (.getfield 19, 3) := by decide +kernel
theorem dX7_firstUntrue_8 : decode cX7_firstUntrue 8 = .ok (.invokevirtual 170, 3) := by decide +kernel
theorem dX7_firstUntrue_11 : decode cX7_firstUntrue 11 = .ok (.iload_n 1, 1) := by decide +kernel
theorem dX7_firstUntrue_12 : decode cX7_firstUntrue 12 = .ok (.ldc_w 279, 3) := by decide +kernel
theorem dX7_firstUntrue_15 : decode cX7_firstUntrue 15 = .ok (.aload_n 0, 1) := by decide +kernel
theorem dX7_firstUntrue_16 : decode cX7_firstUntrue 16 = .ok (.getfield 16, 3) := by decide +kernel
theorem dX7_firstUntrue_19 : decode cX7_firstUntrue 19 = .ok (.getfield 333, 3) := by decide +kernel
theorem dX7_firstUntrue_22 : decode cX7_firstUntrue 22 = .ok (.isub, 1) := by decide +kernel
theorem dX7_firstUntrue_23 : decode cX7_firstUntrue 23 = .ok (.invokestatic 150, 3) := by decide +kernel
theorem dX7_firstUntrue_26 : decode cX7_firstUntrue 26 = .ok (.istore_n 2, 1) := by decide +kernel
theorem dX7_firstUntrue_27 : decode cX7_firstUntrue 27 = .ok (.iconst 0, 1) := by decide +kernel
theorem dX7_firstUntrue_28 : decode cX7_firstUntrue 28 = .ok (.istore_n 3, 1) := by decide +kernel
theorem dX7_firstUntrue_29 : decode cX7_firstUntrue 29 = .ok (.iload_n 3, 1) := by decide +kernel
theorem dX7_firstUntrue_30 : decode cX7_firstUntrue 30 = .ok (.iload_n 2, 1) := by decide +kernel
theorem dX7_firstUntrue_31 : decode cX7_firstUntrue 31 = .ok (.if_icmp .ge 66, 3) := by decide +kernel
theorem dX7_firstUntrue_34 : decode cX7_firstUntrue 34 = .ok (.aload_n 0, 1) := by decide +kernel
theorem dX7_firstUntrue_35 : decode cX7_firstUntrue 35 = .ok (.getfield 16, 3) := by decide +kernel
theorem dX7_firstUntrue_38 : decode cX7_firstUntrue 38 = .ok (.iconst 1, 1) := by decide +kernel
theorem dX7_firstUntrue_39 : decode cX7_firstUntrue 39 = .ok (.invokevirtual 164, 3) := by decide +kernel
theorem dX7_firstUntrue_42 : decode cX7_firstUntrue 42 = .ok (.pop, 1) := by decide +kernel
theorem dX7_firstUntrue_43 : decode cX7_firstUntrue 43 = .ok (.aload_n 0, 1) := by decide +kernel
theorem dX7_firstUntrue_44 : decode cX7_firstUntrue 44 = .ok (.iconst 2, 1) := by decide +kernel
theorem dX7_firstUntrue_45 : decode cX7_firstUntrue 45 = .ok (.iload_n 3, 1) := by decide +kernel
theorem dX7_firstUntrue_46 : decode cX7_firstUntrue 46 = .ok (.imul, 1) := by decide +kernel
theorem dX7_firstUntrue_47 : decode cX7_firstUntrue 47 = .ok (.aload_n 0, 1) := by decide +kernel
theorem dX7_firstUntrue_48 : decode cX7_firstUntrue 48 = .ok (.getfield 16, 3) := by decide +kernel
theorem dX7_firstUntrue_51 : decode cX7_firstUntrue 51 = .ok (.getfield 174, 3) := by decide +kernel
theorem dX7_firstUntrue_54 : decode cX7_firstUntrue 54 = .ok (.invokevirtual 336, 3) := by decide +kernel
theorem dX7_firstUntrue_57 : decode cX7_firstUntrue 57 = .ok (.ifCond .ne 9, 3) := by decide +kernel
theorem dX7_firstUntrue_60 : decode cX7_firstUntrue 60 = .ok (.iconst 2, 1) := by decide +kernel
theorem dX7_firstUntrue_61 : decode cX7_firstUntrue 61 = .ok (.iload_n 3, 1) := by decide +kernel
theorem dX7_firstUntrue_62 : decode cX7_firstUntrue 62 = .ok (.imul, 1) := by decide +kernel
theorem dX7_firstUntrue_63 : decode cX7_firstUntrue 63 = .ok (.iconst 1, 1) := by decide +kernel
theorem dX7_firstUntrue_64 : decode cX7_firstUntrue 64 = .ok (.iadd, 1) := by decide +kernel
theorem dX7_firstUntrue_65 : decode cX7_firstUntrue 65 = .ok (.ireturn, 1) := by decide +kernel
theorem dX7_firstUntrue_66 : decode cX7_firstUntrue 66 = .ok (.aload_n 0, 1) := by decide +kernel
theorem dX7_firstUntrue_67 : decode cX7_firstUntrue 67 = .ok (.iconst 2, 1) := by decide +kernel
theorem dX7_firstUntrue_68 : decode cX7_firstUntrue 68 = .ok (.iload_n 3, 1) := by decide +kernel
theorem dX7_firstUntrue_69 : decode cX7_firstUntrue 69 = .ok (.imul, 1) := by decide +kernel
theorem dX7_firstUntrue_70 : decode cX7_firstUntrue 70 = .ok (.iconst 1, 1) := by decide +kernel
theorem dX7_firstUntrue_71 : decode cX7_firstUntrue 71 = .ok (.iadd, 1) := by decide +kernel
theorem dX7_firstUntrue_72 : decode cX7_firstUntrue 72 = .ok (.aload_n 0, 1) := by decide +kernel
theorem dX7_firstUntrue_73 : decode cX7_firstUntrue 73 = .ok (.getfield 16, 3) := by decide +kernel
theorem dX7_firstUntrue_76 : decode cX7_firstUntrue 76 = .ok (.invokevirtual 330, 3) := by decide +kernel
theorem dX7_firstUntrue_79 : decode cX7_firstUntrue 79 = .ok (.invokevirtual 336, 3) := by decide +kernel
theorem dX7_firstUntrue_82 : decode cX7_firstUntrue 82 = .ok (.ifCond .ne 9, 3) := by decide +kernel
theorem dX7_firstUntrue_85 : decode cX7_firstUntrue 85 = .ok (.iconst 2, 1) := by decide +kernel
theorem dX7_firstUntrue_86 : decode cX7_firstUntrue 86 = .ok (.iload_n 3, 1) := by decide +kernel
theorem dX7_firstUntrue_87 : decode cX7_firstUntrue 87 = .ok (.imul, 1) := by decide +kernel
theorem dX7_firstUntrue_88 : decode cX7_firstUntrue 88 = .ok (.iconst 2, 1) := by decide +kernel
theorem dX7_firstUntrue_89 : decode cX7_firstUntrue 89 = .ok (.iadd, 1) := by decide +kernel
theorem dX7_firstUntrue_90 : decode cX7_firstUntrue 90 = .ok (.ireturn, 1) := by decide +kernel
theorem dX7_firstUntrue_91 : decode cX7_firstUntrue 91 = .ok (.iinc 3 1, 3) := by decide +kernel
theorem dX7_firstUntrue_94 : decode cX7_firstUntrue 94 = .ok (.goto (-65), 3) := by decide +kernel
theorem dX7_firstUntrue_97 : decode cX7_firstUntrue 97 = .ok (.aload_n 0, 1) := by decide +kernel
theorem dX7_firstUntrue_98 : decode cX7_firstUntrue 98 = .ok (.getfield 43, 3) := by decide +kernel
theorem dX7_firstUntrue_101 : decode cX7_firstUntrue 101 = .ok (.getfield 227, 3) := by decide +kernel
theorem dX7_firstUntrue_104 : decode cX7_firstUntrue 104 = .ok (.iconst 2, 1) := by decide +kernel
theorem dX7_firstUntrue_105 : decode cX7_firstUntrue 105 = .ok (.iload_n 2, 1) := by decide +kernel
theorem dX7_firstUntrue_106 : decode cX7_firstUntrue 106 = .ok (.imul, 1) := by decide +kernel
theorem dX7_firstUntrue_107 : decode cX7_firstUntrue 107 = .ok (.if_icmp .le 11, 3) := by decide +kernel
theorem dX7_firstUntrue_110 : decode cX7_firstUntrue 110 = .ok (.iconst 2, 1) := by decide +kernel
theorem dX7_firstUntrue_111 : decode cX7_firstUntrue 111 = .ok (.iload_n 2, 1) := by decide +kernel
theorem dX7_firstUntrue_112 : decode cX7_firstUntrue 112 = .ok (.imul, 1) := by decide +kernel
theorem dX7_firstUntrue_113 : decode cX7_firstUntrue 113 = .ok (.iconst 1, 1) := by decide +kernel
theorem dX7_firstUntrue_114 : decode cX7_firstUntrue 114 = .ok (.iadd, 1) := by decide +kernel
theorem dX7_firstUntrue_115 : decode cX7_firstUntrue 115 = .ok (.goto 4, 3) := by decide +kernel
theorem dX7_firstUntrue_118 : decode cX7_firstUntrue 118 = .ok (.iconst 0, 1) := by decide +kernel
theorem dX7_firstUntrue_119 : decode cX7_firstUntrue 119 = .ok (.ireturn, 1) := by decide +kernel
theorem dX7_isTold_0 : decode cX7_isTold 0 = .ok (.iload_n 1, 1) := by decide +kernel
theorem dX7_isTold_1 : decode cX7_isTold 1 = .ok (.aload_n 0, 1) := by decide +kernel
theorem dX7_isTold_2 : decode cX7_isTold 2 = .ok (.getfield 43, 3) := by decide +kernel
theorem dX7_isTold_5 : decode cX7_isTold 5 = .ok (.getfield 227, 3) := by decide +kernel
theorem dX7_isTold_8 : decode cX7_isTold 8 = .ok (.if_icmp .ge 19, 3) := by decide +kernel
theorem dX7_isTold_11 : decode cX7_isTold 11 = .ok (.aload_n 0, 1) := by decide +kernel
theorem dX7_isTold_12 : decode cX7_isTold 12 = .ok (.getfield 43, 3) := by decide +kernel
theorem dX7_isTold_15 : decode cX7_isTold 15 = .ok (.iload_n 1, 1) := by decide +kernel
theorem dX7_isTold_16 : decode cX7_isTold 16 = .ok (.invokevirtual 339, 3) := by decide +kernel
theorem dX7_isTold_19 : decode cX7_isTold 19 = .ok (.iload_n 2, 1) := by decide +kernel
theorem dX7_isTold_20 : decode cX7_isTold 20 = .ok (.if_icmp .ne 7, 3) := by decide +kernel
theorem dX7_isTold_23 : decode cX7_isTold 23 = .ok (.iconst 1, 1) := by decide +kernel
theorem dX7_isTold_24 : decode cX7_isTold 24 = .ok (.goto 4, 3) := by decide +kernel
theorem dX7_isTold_27 : decode cX7_isTold 27 = .ok (.iconst 0, 1) := by decide +kernel
theorem dX7_isTold_28 : decode cX7_isTold 28 = .ok (.ireturn, 1) := by decide +kernel
end
section
theorem dX8_init_0 : decode cX8_init 0 = .ok (.aload_n 0, 1) := by decide +kernel
theorem dX8_init_1 : decode cX8_init 1 = .ok (.invokespecial 1, 3) := by decide +kernel
theorem dX8_init_4 : decode cX8_init 4 = .ok (.aload_n 0, 1) := by decide +kernel
theorem dX8_init_5 : decode cX8_init 5 = .ok (.sipush 3108, 3) := by decide +kernel
theorem dX8_init_8 : decode cX8_init 8 = .ok (.newarray .int, 2) := by decide +kernel
theorem dX8_init_10 : decode cX8_init 10 = .ok (.putfield 7, 3) := by decide +kernel
theorem dX8_init_13 : decode cX8_init 13 = .ok (.aload_n 0, 1) := by decide +kernel
theorem dX8_init_14 : decode cX8_init 14 = .ok (.sipush 3108, 3) := by decide +kernel
theorem dX8_init_17 : decode cX8_init 17 = .ok (.newarray .int, 2) := by decide +kernel
theorem dX8_init_19 : decode cX8_init 19 = .ok (.putfield 13, 3) := by decide +kernel
theorem dX8_init_22 : decode cX8_init 22 = .ok (.aload_n 0, 1) := by decide +kernel
theorem dX8_init_23 : decode cX8_init 23 = .ok (.sipush 3108, 3) := by decide +kernel
theorem dX8_init_26 : decode cX8_init 26 = .ok (.newarray .int, 2) := by decide +kernel
theorem dX8_init_28 : decode cX8_init 28 = .ok (.putfield 16, 3) := by decide +kernel
theorem dX8_init_31 : decode cX8_init 31 = .ok (.aload_n 0, 1) := by decide +kernel
theorem dX8_init_32 : decode cX8_init 32 = .ok (.iconst 4, 1) := by decide +kernel
theorem dX8_init_33 : decode cX8_init 33 = .ok (.newarray .int, 2) := by decide +kernel
theorem dX8_init_35 : decode cX8_init 35 = .ok (.putfield 19, 3) := by decide +kernel
theorem dX8_init_38 : decode cX8_init 38 = .ok (.aload_n 0, 1) := by decide +kernel
theorem dX8_init_39 : decode cX8_init 39 = .ok (.iconst 4, 1) := by decide +kernel
theorem dX8_init_40 : decode cX8_init 40 = .ok (.newarray .int, 2) := by decide +kernel
theorem dX8_init_42 : decode cX8_init 42 = .ok (.putfield 22, 3) := by decide +kernel
theorem dX8_init_45 : decode cX8_init 45 = .ok (.aload_n 0, 1) := by decide +kernel
theorem dX8_init_46 : decode cX8_init 46 = .ok (.bipush 96, 2) := by decide +kernel
theorem dX8_init_48 : decode cX8_init 48 = .ok (.newarray .int, 2) := by decide +kernel
theorem dX8_init_50 : decode cX8_init 50 = .ok (.putfield 25, 3) := by decide +kernel
theorem dX8_init_53 : decode cX8_init 53 = .ok (.aload_n 0, 1) := by decide +kernel
theorem dX8_init_54 : decode cX8_init 54 = .ok (.iconst 5, 1) := by decide +kernel
theorem dX8_init_55 : decode cX8_init 55 = .ok (.newarray .int, 2) := by decide +kernel
theorem dX8_init_57 : decode cX8_init 57 = .ok (.putfield 28, 3) := by decide +kernel
theorem dX8_init_60 : decode cX8_init 60 = .ok (.aload_n 0, 1) := by decide +kernel
theorem dX8_init_61 : decode cX8_init 61 = .ok (.iconst 5, 1) := by decide +kernel
theorem dX8_init_62 : decode cX8_init 62 = .ok (.newarray .int, 2) := by decide +kernel
theorem dX8_init_64 : decode cX8_init 64 = .ok (.putfield 31, 3) := by decide +kernel
theorem dX8_init_67 : decode cX8_init 67 = .ok (.aload_n 0, 1) := by decide +kernel
theorem dX8_init_68 : decode cX8_init 68 = .ok (.iconst 5, 1) := by decide +kernel
theorem dX8_init_69 : decode cX8_init 69 = .ok (.newarray .int, 2) := by decide +kernel
theorem dX8_init_71 : decode cX8_init 71 = .ok (.putfield 34, 3) := by decide +kernel
theorem dX8_init_74 : decode cX8_init 74 = .ok (.aload_n 0, 1) := by decide +kernel
theorem dX8_init_75 : decode cX8_init 75 = .ok (.iconst 5, 1) := by decide +kernel
theorem dX8_init_76 : decode cX8_init 76 = .ok (.newarray .int, 2) := by decide +kernel
theorem dX8_init_78 : decode cX8_init 78 = .ok (.putfield 37, 3) := by decide +kernel
theorem dX8_init_81 : decode cX8_init 81 = .ok (.aload_n 0, 1) := by decide +kernel
theorem dX8_init_82 : decode cX8_init 82 = .ok (.bipush 120, 2) := by decide +kernel
theorem dX8_init_84 : decode cX8_init 84 = .ok (.newarray .int, 2) := by decide +kernel
theorem dX8_init_86 : decode cX8_init 86 = .ok (.putfield 40, 3) := by decide +kernel
theorem dX8_init_89 : decode cX8_init 89 = .ok (.aload_n 0, 1) := by decide +kernel
theorem dX8_init_90 : decode cX8_init 90 = .ok (.bipush 8, 2) := by decide +kernel
theorem dX8_init_92 : decode cX8_init 92 = .ok (.newarray .int, 2) := by decide +kernel
theorem dX8_init_94 : decode cX8_init 94 = .ok (.putfield 43, 3) := by decide +kernel
theorem dX8_init_97 : decode cX8_init 97 = .ok (.aload_n 0, 1) := by decide +kernel
theorem dX8_init_98 : decode cX8_init 98 = .ok (.iconst (-1), 1) := by decide +kernel
theorem dX8_init_99 : decode cX8_init 99 = .ok (.putfield 46, 3) := by decide +kernel
theorem dX8_init_102 : decode cX8_init 102 = .ok (.aload_n 0, 1) := by decide +kernel
theorem dX8_init_103 : decode cX8_init 103 = .ok (.bipush 108, 2) := by decide +kernel
theorem dX8_init_105 : decode cX8_init 105 = .ok (.newarray .int, 2) := by decide +kernel
theorem dX8_init_107 : decode cX8_init 107 = .ok (.putfield 50, 3) := by decide +kernel
theorem dX8_init_110 : decode cX8_init 110 = .ok (.aload_n 0, 1) := by decide +kernel
theorem dX8_init_111 : decode cX8_init 111 = .ok (.bipush 96, 2) := by decide +kernel
theorem dX8_init_113 : decode cX8_init 113 = .ok (.newarray .int, 2) := by decide +kernel
theorem dX8_init_115 : decode cX8_init 115 = .ok (.putfield 53, 3) := by decide +kernel
theorem dX8_init_118 : decode cX8_init 118 = .ok (.aload_n 0, 1) := by decide +kernel
theorem dX8_init_119 : decode cX8_init 119 = .ok (.sipush 128, 3) := by decide +kernel
theorem dX8_init_122 : decode cX8_init 122 = .ok (.newarray .int, 2) := by decide +kernel
theorem dX8_init_124 : decode cX8_init 124 = .ok (.putfield 56, 3) := by decide +kernel
theorem dX8_init_127 : decode cX8_init 127 = .ok (.aload_n 0, 1) := by decide +kernel
theorem dX8_init_128 : decode cX8_init 128 = .ok (.bipush 100, 2) := by decide +kernel
theorem dX8_init_130 : decode cX8_init 130 = .ok (.newarray .int, 2) := by decide +kernel
theorem dX8_init_132 : decode cX8_init 132 = .ok (.putfield 59, 3) := by decide +kernel
theorem dX8_init_135 : decode cX8_init 135 = .ok (.aload_n 0, 1) := by decide +kernel
theorem dX8_init_136 : decode cX8_init 136 = .ok (.bipush 24, 2) := by decide +kernel
theorem dX8_init_138 : decode cX8_init 138 = .ok (.newarray .int, 2) := by decide +kernel
theorem dX8_init_140 : decode cX8_init 140 = .ok (.putfield 62, 3) := by decide +kernel
theorem dX8_init_143 : decode cX8_init 143 = .ok (.aload_n 0, 1) := by decide +kernel
theorem dX8_init_144 : decode cX8_init 144 = .ok (.bipush 60, 2) := by decide +kernel
theorem dX8_init_146 : decode cX8_init 146 = .ok (.newarray .int, 2) := by decide +kernel
theorem dX8_init_148 : decode cX8_init 148 = .ok (.putfield 65, 3) := by decide +kernel
theorem dX8_init_151 : decode cX8_init 151 = .ok (.aload_n 0, 1) := by decide +kernel
theorem dX8_init_152 : decode cX8_init 152 = .ok (.bipush 60, 2) := by decide +kernel
theorem dX8_init_154 : decode cX8_init 154 = .ok (.newarray .int, 2) := by decide +kernel
theorem dX8_init_156 : decode cX8_init 156 = .ok (.putfield 68, 3) := by decide +kernel
theorem dX8_init_159 : decode cX8_init 159 = .ok (.aload_n 0, 1) := by decide +kernel
theorem dX8_init_160 : decode cX8_init 160 = .ok (.getfield 7, 3) := by decide +kernel
theorem dX8_init_163 : decode cX8_init 163 = .ok (.iconst 3, 1) := by decide +kernel
theorem dX8_init_164 : decode cX8_init 164 = .ok (.bipush 15, 2) := by decide +kernel
theorem dX8_init_166 : decode cX8_init 166 = .ok (.iastore, 1) := by decide +kernel
theorem dX8_init_167 : decode cX8_init 167 = .ok (.aload_n 0, 1) := by decide +kernel
theorem dX8_init_168 : decode cX8_init 168 = .ok (.getfield 7, 3) := by decide +kernel
theorem dX8_init_171 : decode cX8_init 171 = .ok (.iconst 4, 1) := by decide +kernel
theorem dX8_init_172 : decode cX8_init 172 = .ok (.bipush 9, 2) := by decide +kernel
theorem dX8_init_174 : decode cX8_init 174 = .ok (.iastore, 1) := by decide +kernel
theorem dX8_init_175 : decode cX8_init 175 = .ok (.aload_n 0, 1) := by decide +kernel
theorem dX8_init_176 : decode cX8_init 176 = .ok (.getfield 7, 3) := by decide +kernel
theorem dX8_init_179 : decode cX8_init 179 = .ok (.iconst 5, 1) := by decide +kernel
theorem dX8_init_180 : decode cX8_init 180 = .ok (.iconst 3, 1) := by decide +kernel
theorem dX8_init_181 : decode cX8_init 181 = .ok (.iastore, 1) := by decide +kernel
theorem dX8_init_182 : decode cX8_init 182 = .ok (.aload_n 0, 1) := by decide +kernel
theorem dX8_init_183 : decode cX8_init 183 = .ok (.getfield 7, 3) := by decide +kernel
theorem dX8_init_186 : decode cX8_init 186 = .ok (.bipush 6, 2) := by decide +kernel
theorem dX8_init_188 : decode cX8_init 188 = .ok (.iconst 1, 1) := by decide +kernel
theorem dX8_init_189 : decode cX8_init 189 = .ok (.iastore, 1) := by decide +kernel
theorem dX8_init_190 : decode cX8_init 190 = .ok (.aload_n 0, 1) := by decide +kernel
theorem dX8_init_191 : decode cX8_init 191 = .ok (.getfield 7, 3) := by decide +kernel
theorem dX8_init_194 : decode cX8_init 194 = .ok (.bipush 10, 2) := by decide +kernel
theorem dX8_init_196 : decode cX8_init 196 = .ok (.iconst 1, 1) := by decide +kernel
theorem dX8_init_197 : decode cX8_init 197 = .ok (.iastore, 1) := by decide +kernel
theorem dX8_init_198 : decode cX8_init 198 = .ok (.iconst 0, 1) := by decide +kernel
theorem dX8_init_199 : decode cX8_init 199 = .ok (.istore_n 1, 1) := by decide +kernel
theorem dX8_init_200 : decode cX8_init 200 = .ok (.iload_n 1, 1) := by decide +kernel
theorem dX8_init_201 : decode cX8_init 201 = .ok (.iconst 4, 1) := by decide +kernel
theorem dX8_init_202 : decode cX8_init 202 = .ok (.if_icmp .ge 16, 3) := by decide +kernel
theorem dX8_init_205 : decode cX8_init 205 = .ok (.aload_n 0, 1) := by decide +kernel
theorem dX8_init_206 : decode cX8_init 206 = .ok (.getfield 19, 3) := by decide +kernel
theorem dX8_init_209 : decode cX8_init 209 = .ok (.iload_n 1, 1) := by decide +kernel
theorem dX8_init_210 : decode cX8_init 210 = .ok (.iconst (-1), 1) := by decide +kernel
theorem dX8_init_211 : decode cX8_init 211 = .ok (.iastore, 1) := by decide +kernel
theorem dX8_init_212 : decode cX8_init 212 = .ok (.iinc 1 1, 3) := by decide +kernel
theorem dX8_init_215 : decode cX8_init 215 = .ok (.goto (-15), 3) := by decide +kernel
theorem dX8_init_218 : decode cX8_init 218 = .ok (.return_, 1) := by decide +kernel
theorem dX8_isIn_0 : decode cX8_isIn 0 = .ok (.lload_n 0, 1) := by decide +kernel
theorem dX8_isIn_1 : decode cX8_isIn 1 = .ok (.lload_n 2, 1) := by decide +kernel
theorem dX8_isIn_2 : decode cX8_isIn 2 = .ok (.lcmp, 1) := by decide +kernel
theorem dX8_isIn_3 : decode cX8_isIn 3 = .ok (.ifCond .lt 14, 3) := by decide +kernel
theorem dX8_isIn_6 : decode cX8_isIn 6 = .ok (.lload_n 0, 1) := by decide +kernel
theorem dX8_isIn_7 : decode cX8_isIn 7 = .ok (.lload 4, 2) := by decide +kernel
theorem dX8_isIn_9 : decode cX8_isIn 9 = .ok (.lcmp, 1) := by decide +kernel
theorem dX8_isIn_10 : decode cX8_isIn 10 = .ok (.ifCond .gt 7, 3) := by decide +kernel
theorem dX8_isIn_13 : decode cX8_isIn 13 = .ok (.iconst 1, 1) := by decide +kernel
theorem dX8_isIn_14 : decode cX8_isIn 14 = .ok (.goto 4, 3) := by decide +kernel
theorem dX8_isIn_17 : decode cX8_isIn 17 = .ok (.iconst 0, 1) := by decide +kernel
theorem dX8_isIn_18 : decode cX8_isIn 18 = .ok (.ireturn, 1) := by decide +kernel
theorem dX8_orNone_0 : decode cX8_orNone 0 = .ok (.iload_n 0, 1) := by decide +kernel
theorem dX8_orNone_1 : decode cX8_orNone 1 = .ok (.ifCond .ge 8, 3) := by decide +kernel
theorem dX8_orNone_4 : decode cX8_orNone 4 = .ok (.ldc 71, 2) := by decide +kernel
theorem dX8_orNone_6 : decode cX8_orNone 6 = .ok (.goto 4, 3) := by decide +kernel
theorem dX8_orNone_9 : decode cX8_orNone 9 = .ok (.iload_n 0, 1) := by decide +kernel
theorem dX8_orNone_10 : decode cX8_orNone 10 = .ok (.ireturn, 1) := by decide +kernel
theorem dX8_within_0 : decode cX8_within 0 = .ok (.iload_n 0, 1) := by decide +kernel
theorem dX8_within_1 : decode cX8_within 1 = .ok (.ifCond .ge 7, 3) := by decide +kernel
theorem dX8_within_4 : decode cX8_within 4 = .ok (.iconst 0, 1) := by decide +kernel
theorem dX8_within_5 : decode cX8_within 5 = .ok (.goto 13, 3) := by decide +kernel
theorem dX8_within_8 : decode cX8_within 8 = .ok (.iload_n 0, 1) := by decide +kernel
theorem dX8_within_9 : decode cX8_within 9 = .ok (.iload_n 1, 1) := by decide +kernel
theorem dX8_within_10 : decode cX8_within 10 = .ok (.if_icmp .le 7, 3) := by decide +kernel
theorem dX8_within_13 : decode cX8_within 13 = .ok (.iload_n 1, 1) := by decide +kernel
theorem dX8_within_14 : decode cX8_within 14 = .ok (.goto 4, 3) := by decide +kernel
theorem dX8_within_17 : decode cX8_within 17 = .ok (.iload_n 0, 1) := by decide +kernel
theorem dX8_within_18 : decode cX8_within 18 = .ok (.ireturn, 1) := by decide +kernel
theorem dX8_becomes_0 : decode cX8_becomes 0 = .ok (.aload_n 0, 1) := by decide +kernel
theorem dX8_becomes_1 : decode cX8_becomes 1 = .ok (.getfield 7, 3) := by decide +kernel
theorem dX8_becomes_4 : decode cX8_becomes 4 = .ok (.iload_n 1, 1) := by decide +kernel
theorem dX8_becomes_5 : decode cX8_becomes 5 = .ok (.iaload, 1) := by decide +kernel
theorem dX8_becomes_6 : decode cX8_becomes 6 = .ok (.istore_n 3, 1) := by decide +kernel
theorem dX8_becomes_7 : decode cX8_becomes 7 = .ok (.aload_n 0, 1) := by decide +kernel
theorem dX8_becomes_8 : decode cX8_becomes 8 = .ok (.getfield 7, 3) := by decide +kernel
theorem dX8_becomes_11 : decode cX8_becomes 11 = .ok (.iload_n 1, 1) := by decide +kernel
theorem dX8_becomes_12 : decode cX8_becomes 12 = .ok (.iload_n 2, 1) := by decide +kernel
theorem dX8_becomes_13 : decode cX8_becomes 13 = .ok (.iastore, 1) := by decide +kernel
theorem dX8_becomes_14 : decode cX8_becomes 14 = .ok (.iload_n 3, 1) := by decide +kernel
theorem dX8_becomes_15 : decode cX8_becomes 15 = .ok (.ireturn, 1) := by decide +kernel
theorem dX8_textAt_0 : decode cX8_textAt 0 = .ok (.bipush 108, 2) := by decide +kernel
theorem dX8_textAt_2 : decode cX8_textAt 2 = .ok (.sipush 200, 3) := by decide +kernel
theorem dX8_textAt_5 : decode cX8_textAt 5 = .ok (.iload_n 1, 1) := by decide +kernel
theorem dX8_textAt_6 : decode cX8_textAt 6 = .ok (.imul, 1) := by decide +kernel
theorem dX8_textAt_7 : decode cX8_textAt 7 = .ok (.iadd, 1) := by decide +kernel
theorem dX8_textAt_8 : decode cX8_textAt 8 = .ok (.ireturn, 1) := by decide +kernel
theorem dX8_of_0 : decode cX8_of 0 = .ok (.aload_n 0, 1) := by decide +kernel
theorem dX8_of_1 : decode cX8_of 1 = .ok (.getfield 7, 3) := by decide +kernel
theorem dX8_of_4 : decode cX8_of 4 = .ok (.bipush 12, 2) := by decide +kernel
theorem dX8_of_6 : decode cX8_of 6 = .ok (.bipush 12, 2) := by decide +kernel
theorem dX8_of_8 : decode cX8_of 8 = .ok (.iload_n 1, 1) := by decide +kernel
theorem dX8_of_9 : decode cX8_of 9 = .ok (.imul, 1) := by decide +kernel
theorem dX8_of_10 : decode cX8_of 10 = .ok (.iadd, 1) := by decide +kernel
theorem dX8_of_11 : decode cX8_of 11 = .ok (.iload_n 2, 1) := by decide +kernel
theorem dX8_of_12 : decode cX8_of 12 = .ok (.iadd, 1) := by decide +kernel
theorem dX8_of_13 : decode cX8_of 13 = .ok (.iaload, 1) := by decide +kernel
theorem dX8_of_14 : decode cX8_of 14 = .ok (.ireturn, 1) := by decide +kernel
theorem dX8_sets_0 : decode cX8_sets 0 = .ok (.aload_n 0, 1) := by decide +kernel
theorem dX8_sets_1 : decode cX8_sets 1 = .ok (.getfield 7, 3) := by decide +kernel
theorem dX8_sets_4 : decode cX8_sets 4 = .ok (.bipush 12, 2) := by decide +kernel
theorem dX8_sets_6 : decode cX8_sets 6 = .ok (.bipush 12, 2) := by decide +kernel
theorem dX8_sets_8 : decode cX8_sets 8 = .ok (.iload_n 1, 1) := by decide +kernel
theorem dX8_sets_9 : decode cX8_sets 9 = .ok (.imul, 1) := by decide +kernel
theorem dX8_sets_10 : decode cX8_sets 10 = .ok (.iadd, 1) := by decide +kernel
theorem dX8_sets_11 : decode cX8_sets 11 = .ok (.iload_n 2, 1) := by decide +kernel
theorem dX8_sets_12 : decode cX8_sets 12 = .ok (.iadd, 1) := by decide +kernel
theorem dX8_sets_13 : decode cX8_sets 13 = .ok (.iload_n 3, 1) := by decide +kernel
theorem dX8_sets_14 : decode cX8_sets 14 = .ok (.iastore, 1) := by decide +kernel
theorem dX8_sets_15 : decode cX8_sets 15 = .ok (.return_, 1) := by decide +kernel
theorem dX8_more_0 : decode cX8_more 0 = .ok (.aload_n 0, 1) := by decide +kernel
theorem dX8_more_1 : decode cX8_more 1 = .ok (.getfield 7, 3) := by decide +kernel
theorem dX8_more_4 : decode cX8_more 4 = .ok (.bipush 12, 2) := by decide +kernel
theorem dX8_more_6 : decode cX8_more 6 = .ok (.bipush 12, 2) := by decide +kernel
theorem dX8_more_8 : decode cX8_more 8 = .ok (.iload_n 1, 1) := by decide +kernel
theorem dX8_more_9 : decode cX8_more 9 = .ok (.imul, 1) := by decide +kernel
theorem dX8_more_10 : decode cX8_more 10 = .ok (.iadd, 1) := by decide +kernel
theorem dX8_more_11 : decode cX8_more 11 = .ok (.iload_n 2, 1) := by decide +kernel
theorem dX8_more_12 : decode cX8_more 12 = .ok (.iadd, 1) := by decide +kernel
theorem dX8_more_13 : decode cX8_more 13 = .ok (.dup2, 1) := by decide +kernel
theorem dX8_more_14 : decode cX8_more 14 = .ok (.iaload, 1) := by decide +kernel
theorem dX8_more_15 : decode cX8_more 15 = .ok (.iconst 1, 1) := by decide +kernel
theorem dX8_more_16 : decode cX8_more 16 = .ok (.iadd, 1) := by decide +kernel
theorem dX8_more_17 : decode cX8_more 17 = .ok (.iastore, 1) := by decide +kernel
theorem dX8_more_18 : decode cX8_more 18 = .ok (.return_, 1) := by decide +kernel
theorem dX8_isComer_0 : decode cX8_isComer 0 = .ok (.iload_n 1, 1) := by decide +kernel
theorem dX8_isComer_1 : decode cX8_isComer 1 = .ok (.i2l, 1) := by decide +kernel
theorem dX8_isComer_2 : decode cX8_isComer 2 = .ok (.lconst 0, 1) := by decide +kernel
theorem dX8_isComer_3 : decode cX8_isComer 3 = .ok (.aload_n 0, 1) := by decide +kernel
theorem dX8_isComer_4 : decode cX8_isComer 4 = .ok (.getfield 7, 3) := by decide +kernel
theorem dX8_isComer_7 : decode cX8_isComer 7 = .ok (.iconst 0, 1) := by decide +kernel
theorem dX8_isComer_8 : decode cX8_isComer 8 = .ok (.iaload, 1) := by decide +kernel
theorem dX8_isComer_9 : decode cX8_isComer 9 = .ok (.iconst 1, 1) := by decide +kernel
theorem dX8_isComer_10 : decode cX8_isComer 10 = .ok (.isub, 1) := by decide +kernel
theorem dX8_isComer_11 : decode cX8_isComer 11 = .ok (.i2l, 1) := by decide +kernel
theorem dX8_isComer_12 : decode cX8_isComer 12 = .ok (.invokestatic 72, 3) := by decide +kernel
theorem dX8_isComer_15 : decode cX8_isComer 15 = .ok (.ireturn, 1) := by decide +kernel
theorem dX8_isText_0 : decode cX8_isText 0 = .ok (.iload_n 1, 1) := by decide +kernel
theorem dX8_isText_1 : decode cX8_isText 1 = .ok (.i2l, 1) := by decide +kernel
theorem dX8_isText_2 : decode cX8_isText 2 = .ok (.lconst 0, 1) := by decide +kernel
theorem dX8_isText_3 : decode cX8_isText 3 = .ok (.aload_n 0, 1) := by decide +kernel
theorem dX8_isText_4 : decode cX8_isText 4 = .ok (.getfield 7, 3) := by decide +kernel
theorem dX8_isText_7 : decode cX8_isText 7 = .ok (.iconst 1, 1) := by decide +kernel
theorem dX8_isText_8 : decode cX8_isText 8 = .ok (.iaload, 1) := by decide +kernel
theorem dX8_isText_9 : decode cX8_isText 9 = .ok (.iconst 1, 1) := by decide +kernel
theorem dX8_isText_10 : decode cX8_isText 10 = .ok (.isub, 1) := by decide +kernel
theorem dX8_isText_11 : decode cX8_isText 11 = .ok (.i2l, 1) := by decide +kernel
theorem dX8_isText_12 : decode cX8_isText 12 = .ok (.invokestatic 72, 3) := by decide +kernel
theorem dX8_isText_15 : decode cX8_isText 15 = .ok (.ireturn, 1) := by decide +kernel
theorem dX8_drawn_0 : decode cX8_drawn 0 = .ok (.aload_n 0, 1) := by decide +kernel
theorem dX8_drawn_1 : decode cX8_drawn 1 = .ok (.getfield 7, 3) := by decide +kernel
theorem dX8_drawn_4 : decode cX8_drawn 4 = .ok (.bipush 10, 2) := by decide +kernel
theorem dX8_drawn_6 : decode cX8_drawn 6 = .ok (.aload_n 0, 1) := by decide +kernel
theorem dX8_drawn_7 : decode cX8_drawn 7 = .ok (.getfield 7, 3) := by decide +kernel
theorem dX8_drawn_10 : decode cX8_drawn 10 = .ok (.bipush 10, 2) := by decide +kernel
theorem dX8_drawn_12 : decode cX8_drawn 12 = .ok (.iaload, 1) := by decide +kernel
theorem dX8_drawn_13 : decode cX8_drawn 13 = .ok (.ldc 76, 2) := by decide +kernel
theorem dX8_drawn_15 : decode cX8_drawn 15 = .ok (.imul, 1) := by decide +kernel
theorem dX8_drawn_16 : decode cX8_drawn 16 = .ok (.sipush 12345, 3) := by decide +kernel
theorem dX8_drawn_19 : decode cX8_drawn 19 = .ok (.iadd, 1) := by decide +kernel
theorem dX8_drawn_20 : decode cX8_drawn 20 = .ok (.iastore, 1) := by decide +kernel
theorem dX8_drawn_21 : decode cX8_drawn 21 = .ok (.aload_n 0, 1) := by decide +kernel
theorem dX8_drawn_22 : decode cX8_drawn 22 = .ok (.getfield 7, 3) := by decide +kernel
theorem dX8_drawn_25 : decode cX8_drawn 25 = .ok (.bipush 10, 2) := by decide +kernel
theorem dX8_drawn_27 : decode cX8_drawn 27 = .ok (.iaload, 1) := by decide +kernel
theorem dX8_drawn_28 : decode cX8_drawn 28 = .ok (.bipush 8, 2) := by decide +kernel
theorem dX8_drawn_30 : decode cX8_drawn 30 = .ok (.iushr, 1) := by decide +kernel
theorem dX8_drawn_31 : decode cX8_drawn 31 = .ok (.ireturn, 1) := by decide +kernel
theorem dX8_comes_0 : decode cX8_comes 0 = .ok (.bipush 12, 2) := by decide +kernel
theorem dX8_comes_2 : decode cX8_comes 2 = .ok (.bipush 12, 2) := by decide +kernel
theorem dX8_comes_4 : decode cX8_comes 4 = .ok (.aload_n 0, 1) := by decide +kernel
theorem dX8_comes_5 : decode cX8_comes 5 = .ok (.getfield 7, 3) := by decide +kernel
theorem dX8_comes_8 : decode cX8_comes 8 = .ok (.iconst 0, 1) := by decide +kernel
theorem dX8_comes_9 : decode cX8_comes 9 = .ok (.iaload, 1) := by decide +kernel
theorem dX8_comes_10 : decode cX8_comes 10 = .ok (.imul, 1) := by decide +kernel
theorem dX8_comes_11 : decode cX8_comes 11 = .ok (.iadd, 1) := by decide +kernel
theorem dX8_comes_12 : decode cX8_comes 12 = .ok (.istore 5, 2) := by decide +kernel
theorem dX8_comes_14 : decode cX8_comes 14 = .ok (.iconst 0, 1) := by decide +kernel
theorem dX8_comes_15 : decode cX8_comes 15 = .ok (.istore 6, 2) := by decide +kernel
theorem dX8_comes_17 : decode cX8_comes 17 = .ok (.iload 6, 2) := by decide +kernel
theorem dX8_comes_19 : decode cX8_comes 19 = .ok (.bipush 12, 2) := by decide +kernel
theorem dX8_comes_21 : decode cX8_comes 21 = .ok (.if_icmp .ge 20, 3) := by decide +kernel
theorem dX8_comes_24 : decode cX8_comes 24 = .ok (.aload_n 0, 1) := by decide +kernel
theorem dX8_comes_25 : decode cX8_comes 25 = .ok (.getfield 7, 3) := by decide +kernel
theorem dX8_comes_28 : decode cX8_comes 28 = .ok (.iload 5, 2) := by decide +kernel
theorem dX8_comes_30 : decode cX8_comes 30 = .ok (.iload 6, 2) := by decide +kernel
theorem dX8_comes_32 : decode cX8_comes 32 = .ok (.iadd, 1) := by decide +kernel
theorem dX8_comes_33 : decode cX8_comes 33 = .ok (.iconst 0, 1) := by decide +kernel
theorem dX8_comes_34 : decode cX8_comes 34 = .ok (.iastore, 1) := by decide +kernel
theorem dX8_comes_35 : decode cX8_comes 35 = .ok (.iinc 6 1, 3) := by decide +kernel
theorem dX8_comes_38 : decode cX8_comes 38 = .ok (.goto (-21), 3) := by decide +kernel
theorem dX8_comes_41 : decode cX8_comes 41 = .ok (.aload_n 0, 1) := by decide +kernel
theorem dX8_comes_42 : decode cX8_comes 42 = .ok (.getfield 7, 3) := by decide +kernel
theorem dX8_comes_45 : decode cX8_comes 45 = .ok (.iload 5, 2) := by decide +kernel
theorem dX8_comes_47 : decode cX8_comes 47 = .ok (.iload_n 1, 1) := by decide +kernel
theorem dX8_comes_48 : decode cX8_comes 48 = .ok (.iastore, 1) := by decide +kernel
theorem dX8_comes_49 : decode cX8_comes 49 = .ok (.aload_n 0, 1) := by decide +kernel
theorem dX8_comes_50 : decode cX8_comes 50 = .ok (.getfield 7, 3) := by decide +kernel
theorem dX8_comes_53 : decode cX8_comes 53 = .ok (.iload 5, 2) := by decide +kernel
theorem dX8_comes_55 : decode cX8_comes 55 = .ok (.iconst 1, 1) := by decide +kernel
theorem dX8_comes_56 : decode cX8_comes 56 = .ok (.iadd, 1) := by decide +kernel
theorem dX8_comes_57 : decode cX8_comes 57 = .ok (.iload_n 2, 1) := by decide +kernel
theorem dX8_comes_58 : decode cX8_comes 58 = .ok (.iastore, 1) := by decide +kernel
theorem dX8_comes_59 : decode cX8_comes 59 = .ok (.aload_n 0, 1) := by decide +kernel
theorem dX8_comes_60 : decode cX8_comes 60 = .ok (.getfield 7, 3) := by decide +kernel
theorem dX8_comes_63 : decode cX8_comes 63 = .ok (.iload 5, 2) := by decide +kernel
theorem dX8_comes_65 : decode cX8_comes 65 = .ok (.iconst 2, 1) := by decide +kernel
theorem dX8_comes_66 : decode cX8_comes 66 = .ok (.iadd, 1) := by decide +kernel
theorem dX8_comes_67 : decode cX8_comes 67 = .ok (.iload_n 3, 1) := by decide +kernel
theorem dX8_comes_68 : decode cX8_comes 68 = .ok (.iastore, 1) := by decide +kernel
theorem dX8_comes_69 : decode cX8_comes 69 = .ok (.aload_n 0, 1) := by decide +kernel
theorem dX8_comes_70 : decode cX8_comes 70 = .ok (.getfield 7, 3) := by decide +kernel
theorem dX8_comes_73 : decode cX8_comes 73 = .ok (.iload 5, 2) := by decide +kernel
theorem dX8_comes_75 : decode cX8_comes 75 = .ok (.iconst 3, 1) := by decide +kernel
theorem dX8_comes_76 : decode cX8_comes 76 = .ok (.iadd, 1) := by decide +kernel
theorem dX8_comes_77 : decode cX8_comes 77 = .ok (.iload 4, 2) := by decide +kernel
theorem dX8_comes_79 : decode cX8_comes 79 = .ok (.iastore, 1) := by decide +kernel
theorem dX8_comes_80 : decode cX8_comes 80 = .ok (.aload_n 0, 1) := by decide +kernel
theorem dX8_comes_81 : decode cX8_comes 81 = .ok (.getfield 7, 3) := by decide +kernel
theorem dX8_comes_84 : decode cX8_comes 84 = .ok (.iload 5, 2) := by decide +kernel
theorem dX8_comes_86 : decode cX8_comes 86 = .ok (.iconst 4, 1) := by decide +kernel
theorem dX8_comes_87 : decode cX8_comes 87 = .ok (.iadd, 1) := by decide +kernel
theorem dX8_comes_88 : decode cX8_comes 88 = .ok (.iload 4, 2) := by decide +kernel
theorem dX8_comes_90 : decode cX8_comes 90 = .ok (.iastore, 1) := by decide +kernel
theorem dX8_comes_91 : decode cX8_comes 91 = .ok (.aload_n 0, 1) := by decide +kernel
theorem dX8_comes_92 : decode cX8_comes 92 = .ok (.getfield 7, 3) := by decide +kernel
theorem dX8_comes_95 : decode cX8_comes 95 = .ok (.iconst 0, 1) := by decide +kernel
theorem dX8_comes_96 : decode cX8_comes 96 = .ok (.dup2, 1) := by decide +kernel
theorem dX8_comes_97 : decode cX8_comes 97 = .ok (.iaload, 1) := by decide +kernel
theorem dX8_comes_98 : decode cX8_comes 98 = .ok (.iconst 1, 1) := by decide +kernel
theorem dX8_comes_99 : decode cX8_comes 99 = .ok (.iadd, 1) := by decide +kernel
theorem dX8_comes_100 : decode cX8_comes 100 = .ok (.iastore, 1) := by decide +kernel
theorem dX8_comes_101 : decode cX8_comes 101 = .ok (.return_, 1) := by decide +kernel
theorem dX8_comer_0 : decode cX8_comer 0 = .ok (.iload_n 1, 1) := by decide +kernel
theorem dX8_comer_1 : decode cX8_comer 1 = .ok (.i2l, 1) := by decide +kernel
theorem dX8_comer_2 : decode cX8_comer 2 = .ok (.lconst 0, 1) := by decide +kernel
theorem dX8_comer_3 : decode cX8_comer 3 = .ok (.ldc2_w 77, 3) := by decide +kernel
theorem dX8_comer_6 : decode cX8_comer 6 = .ok (.invokestatic 72, 3) := by decide +kernel
theorem dX8_comer_9 : decode cX8_comer 9 = .ok (.ifCond .eq 40, 3) := by decide +kernel
theorem dX8_comer_12 : decode cX8_comer 12 = .ok (.iload_n 2, 1) := by decide +kernel
theorem dX8_comer_13 : decode cX8_comer 13 = .ok (.i2l, 1) := by decide +kernel
theorem dX8_comer_14 : decode cX8_comer 14 = .ok (.lconst 0, 1) := by decide +kernel
theorem dX8_comer_15 : decode cX8_comer 15 = .ok (.ldc2_w 79, 3) := by decide +kernel
theorem dX8_comer_18 : decode cX8_comer 18 = .ok (.invokestatic 72, 3) := by decide +kernel
theorem dX8_comer_21 : decode cX8_comer 21 = .ok (.ifCond .eq 28, 3) := by decide +kernel
theorem dX8_comer_24 : decode cX8_comer 24 = .ok (.iload_n 3, 1) := by decide +kernel
theorem dX8_comer_25 : decode cX8_comer 25 = .ok (.i2l, 1) := by decide +kernel
theorem dX8_comer_26 : decode cX8_comer 26 = .ok (.lconst 1, 1) := by decide +kernel
theorem dX8_comer_27 : decode cX8_comer 27 = .ok (.ldc2_w 81, 3) := by decide +kernel
theorem dX8_comer_30 : decode cX8_comer 30 = .ok (.invokestatic 72, 3) := by decide +kernel
theorem dX8_comer_33 : decode cX8_comer 33 = .ok (.ifCond .eq 16, 3) := by decide +kernel
theorem dX8_comer_36 : decode cX8_comer 36 = .ok (.iload 4, 2) := by decide +kernel
theorem dX8_comer_38 : decode cX8_comer 38 = .ok (.i2l, 1) := by decide +kernel
theorem dX8_comer_39 : decode cX8_comer 39 = .ok (.lconst 0, 1) := by decide +kernel
theorem dX8_comer_40 : decode cX8_comer 40 = .ok (.ldc2_w 83, 3) := by decide +kernel
theorem dX8_comer_43 : decode cX8_comer 43 = .ok (.invokestatic 72, 3) := by decide +kernel
theorem dX8_comer_46 : decode cX8_comer 46 = .ok (.ifCond .ne 6, 3) := by decide +kernel
theorem dX8_comer_49 : decode cX8_comer 49 = .ok (.ldc 85, 2) := by decide +kernel
theorem dX8_comer_51 : decode cX8_comer 51 = .ok (.ireturn, 1) := by decide +kernel
theorem dX8_comer_52 : decode cX8_comer 52 = .ok (.aload_n 0, 1) := by decide +kernel
theorem dX8_comer_53 : decode cX8_comer 53 = .ok (.getfield 7, 3) := by decide +kernel
theorem dX8_comer_56 : decode cX8_comer 56 = .ok (.iconst 0, 1) := by decide +kernel
theorem dX8_comer_57 : decode cX8_comer 57 = .ok (.iaload, 1) := by decide +kernel
theorem dX8_comer_58 : decode cX8_comer 58 = .ok (.bipush 8, 2) := by decide +kernel
theorem dX8_comer_60 : decode cX8_comer 60 = .ok (.if_icmp .ne 6, 3) := by decide +kernel
theorem dX8_comer_63 : decode cX8_comer 63 = .ok (.ldc 86, 2) := by decide +kernel
theorem dX8_comer_65 : decode cX8_comer 65 = .ok (.ireturn, 1) := by decide +kernel
theorem dX8_comer_66 : decode cX8_comer 66 = .ok (.aload_n 0, 1) := by decide +kernel
theorem dX8_comer_67 : decode cX8_comer 67 = .ok (.iload_n 1, 1) := by decide +kernel
theorem dX8_comer_68 : decode cX8_comer 68 = .ok (.iload_n 2, 1) := by decide +kernel
theorem dX8_comer_69 : decode cX8_comer 69 = .ok (.iload_n 3, 1) := by decide +kernel
theorem dX8_comer_70 : decode cX8_comer 70 = .ok (.iload 4, 2) := by decide +kernel
theorem dX8_comer_72 : decode cX8_comer 72 = .ok (.invokevirtual 87, 3) := by decide +kernel
theorem dX8_comer_75 : decode cX8_comer 75 = .ok (.aload_n 0, 1) := by decide +kernel
theorem dX8_comer_76 : decode cX8_comer 76 = .ok (.getfield 7, 3) := by decide +kernel
theorem dX8_comer_79 : decode cX8_comer 79 = .ok (.iconst 0, 1) := by decide +kernel
theorem dX8_comer_80 : decode cX8_comer 80 = .ok (.iaload, 1) := by decide +kernel
theorem dX8_comer_81 : decode cX8_comer 81 = .ok (.iconst 1, 1) := by decide +kernel
theorem dX8_comer_82 : decode cX8_comer 82 = .ok (.isub, 1) := by decide +kernel
theorem dX8_comer_83 : decode cX8_comer 83 = .ok (.ireturn, 1) := by decide +kernel
theorem dX8_standing_0 : decode cX8_standing 0 = .ok (.iconst 0, 1) := by decide +kernel
theorem dX8_standing_1 : decode cX8_standing 1 = .ok (.istore_n 1, 1) := by decide +kernel
theorem dX8_standing_2 : decode cX8_standing 2 = .ok (.iconst 0, 1) := by decide +kernel
theorem dX8_standing_3 : decode cX8_standing 3 = .ok (.istore_n 2, 1) := by decide +kernel
theorem dX8_standing_4 : decode cX8_standing 4 = .ok (.iload_n 2, 1) := by decide +kernel
theorem dX8_standing_5 : decode cX8_standing 5 = .ok (.aload_n 0, 1) := by decide +kernel
theorem dX8_standing_6 : decode cX8_standing 6 = .ok (.getfield 7, 3) := by decide +kernel
theorem dX8_standing_9 : decode cX8_standing 9 = .ok (.iconst 0, 1) := by decide +kernel
theorem dX8_standing_10 : decode cX8_standing 10 = .ok (.iaload, 1) := by decide +kernel
theorem dX8_standing_11 : decode cX8_standing 11 = .ok (.if_icmp .ge 27, 3) := by decide +kernel
theorem dX8_standing_14 : decode cX8_standing 14 = .ok (.iload_n 1, 1) := by decide +kernel
theorem dX8_standing_15 : decode cX8_standing 15 = .ok (.aload_n 0, 1) := by decide +kernel
theorem dX8_standing_16 : decode cX8_standing 16 = .ok (.iload_n 2, 1) := by decide +kernel
theorem dX8_standing_17 : decode cX8_standing 17 = .ok (.iconst 5, 1) := by decide +kernel
theorem dX8_standing_18 : decode cX8_standing 18 = .ok (.invokevirtual 91, 3) := by decide +kernel
theorem dX8_standing_21 : decode cX8_standing 21 = .ok (.iconst 2, 1) := by decide +kernel
theorem dX8_standing_22 : decode cX8_standing 22 = .ok (.if_icmp .ne 7, 3) := by decide +kernel
theorem dX8_standing_25 : decode cX8_standing 25 = .ok (.iconst 1, 1) := by decide +kernel
theorem dX8_standing_26 : decode cX8_standing 26 = .ok (.goto 4, 3) := by decide +kernel
theorem dX8_standing_29 : decode cX8_standing 29 = .ok (.iconst 0, 1) := by decide +kernel
theorem dX8_standing_30 : decode cX8_standing 30 = .ok (.iadd, 1) := by decide +kernel
theorem dX8_standing_31 : decode cX8_standing 31 = .ok (.istore_n 1, 1) := by decide +kernel
theorem dX8_standing_32 : decode cX8_standing 32 = .ok (.iinc 2 1, 3) := by decide +kernel
theorem dX8_standing_35 : decode cX8_standing 35 = .ok (.goto (-31), 3) := by decide +kernel
theorem dX8_standing_38 : decode cX8_standing 38 = .ok (.iload_n 1, 1) := by decide +kernel
theorem dX8_standing_39 : decode cX8_standing 39 = .ok (.ireturn, 1) := by decide +kernel
theorem dX8_plainLeaves_0 : decode cX8_plainLeaves 0 = .ok (.aload_n 0, 1) := by decide +kernel
theorem dX8_plainLeaves_1 : decode cX8_plainLeaves 1 = .ok (.iconst 0, 1) := by decide +kernel
theorem dX8_plainLeaves_2 : decode cX8_plainLeaves 2 = .ok (.invokevirtual 95, 3) := by decide +kernel
theorem dX8_plainLeaves_5 : decode cX8_plainLeaves 5 = .ok (.istore_n 2, 1) := by decide +kernel
theorem dX8_plainLeaves_6 : decode cX8_plainLeaves 6 = .ok (.iload_n 2, 1) := by decide +kernel
theorem dX8_plainLeaves_7 : decode cX8_plainLeaves 7 = .ok (.ifCond .ge 27, 3) := by decide +kernel
theorem dX8_plainLeaves_10 : decode cX8_plainLeaves 10 = .ok (.aload_n 0, 1) := by decide +kernel
theorem dX8_plainLeaves_11 : decode cX8_plainLeaves 11 = .ok (.getfield 7, 3) := by decide +kernel
theorem dX8_plainLeaves_14 : decode cX8_plainLeaves 14 = .ok (.iconst 2, 1) := by decide +kernel
theorem dX8_plainLeaves_15 : decode cX8_plainLeaves 15 = .ok (.iaload, 1) := by decide +kernel
theorem dX8_plainLeaves_16 : decode cX8_plainLeaves 16 = .ok (.bipush 60, 2) := by decide +kernel
theorem dX8_plainLeaves_18 : decode cX8_plainLeaves 18 = .ok (.irem, 1) := by decide +kernel
theorem dX8_plainLeaves_19 : decode cX8_plainLeaves 19 = .ok (.aload_n 0, 1) := by decide +kernel
theorem dX8_plainLeaves_20 : decode cX8_plainLeaves 20 = .ok (.iload_n 1, 1) := by decide +kernel
theorem dX8_plainLeaves_21 : decode cX8_plainLeaves 21 = .ok (.iconst 1, 1) := by decide +kernel
theorem dX8_plainLeaves_22 : decode cX8_plainLeaves 22 = .ok (.invokevirtual 91, 3) := by decide +kernel
theorem dX8_plainLeaves_25 : decode cX8_plainLeaves 25 = .ok (.if_icmp .ne 7, 3) := by decide +kernel
theorem dX8_plainLeaves_28 : decode cX8_plainLeaves 28 = .ok (.iconst 1, 1) := by decide +kernel
theorem dX8_plainLeaves_29 : decode cX8_plainLeaves 29 = .ok (.goto 4, 3) := by decide +kernel
theorem dX8_plainLeaves_32 : decode cX8_plainLeaves 32 = .ok (.iconst 0, 1) := by decide +kernel
theorem dX8_plainLeaves_33 : decode cX8_plainLeaves 33 = .ok (.ireturn, 1) := by decide +kernel
theorem dX8_plainLeaves_34 : decode cX8_plainLeaves 34 = .ok (.aload_n 0, 1) := by decide +kernel
theorem dX8_plainLeaves_35 : decode cX8_plainLeaves 35 = .ok (.getfield 56, 3) := by decide +kernel
theorem dX8_plainLeaves_38 : decode cX8_plainLeaves 38 = .ok (.bipush 116, 2) := by decide +kernel
theorem dX8_plainLeaves_40 : decode cX8_plainLeaves 40 = .ok (.aload_n 0, 1) := by decide +kernel
theorem dX8_plainLeaves_41 : decode cX8_plainLeaves 41 = .ok (.getfield 7, 3) := by decide +kernel
theorem dX8_plainLeaves_44 : decode cX8_plainLeaves 44 = .ok (.iconst 2, 1) := by decide +kernel
theorem dX8_plainLeaves_45 : decode cX8_plainLeaves 45 = .ok (.iaload, 1) := by decide +kernel
theorem dX8_plainLeaves_46 : decode cX8_plainLeaves 46 = .ok (.sipush 1440, 3) := by decide +kernel
theorem dX8_plainLeaves_49 : decode cX8_plainLeaves 49 = .ok (.irem, 1) := by decide +kernel
theorem dX8_plainLeaves_50 : decode cX8_plainLeaves 50 = .ok (.iastore, 1) := by decide +kernel
theorem dX8_plainLeaves_51 : decode cX8_plainLeaves 51 = .ok (.aload_n 0, 1) := by decide +kernel
theorem dX8_plainLeaves_52 : decode cX8_plainLeaves 52 = .ok (.getfield 56, 3) := by decide +kernel
theorem dX8_plainLeaves_55 : decode cX8_plainLeaves 55 = .ok (.bipush 115, 2) := by decide +kernel
theorem dX8_plainLeaves_57 : decode cX8_plainLeaves 57 = .ok (.aload_n 0, 1) := by decide +kernel
theorem dX8_plainLeaves_58 : decode cX8_plainLeaves 58 = .ok (.iload_n 1, 1) := by decide +kernel
theorem dX8_plainLeaves_59 : decode cX8_plainLeaves 59 = .ok (.bipush 8, 2) := by decide +kernel
theorem dX8_plainLeaves_61 : decode cX8_plainLeaves 61 = .ok (.invokevirtual 91, 3) := by decide +kernel
theorem dX8_plainLeaves_64 : decode cX8_plainLeaves 64 = .ok (.iastore, 1) := by decide +kernel
theorem dX8_plainLeaves_65 : decode cX8_plainLeaves 65 = .ok (.aload_n 0, 1) := by decide +kernel
theorem dX8_plainLeaves_66 : decode cX8_plainLeaves 66 = .ok (.getfield 56, 3) := by decide +kernel
theorem dX8_plainLeaves_69 : decode cX8_plainLeaves 69 = .ok (.bipush 97, 2) := by decide +kernel
theorem dX8_plainLeaves_71 : decode cX8_plainLeaves 71 = .ok (.aload_n 0, 1) := by decide +kernel
theorem dX8_plainLeaves_72 : decode cX8_plainLeaves 72 = .ok (.iload_n 1, 1) := by decide +kernel
theorem dX8_plainLeaves_73 : decode cX8_plainLeaves 73 = .ok (.iconst 1, 1) := by decide +kernel
theorem dX8_plainLeaves_74 : decode cX8_plainLeaves 74 = .ok (.invokevirtual 91, 3) := by decide +kernel
theorem dX8_plainLeaves_77 : decode cX8_plainLeaves 77 = .ok (.iastore, 1) := by decide +kernel
theorem dX8_plainLeaves_78 : decode cX8_plainLeaves 78 = .ok (.aload_n 0, 1) := by decide +kernel
theorem dX8_plainLeaves_79 : decode cX8_plainLeaves 79 = .ok (.iload_n 2, 1) := by decide +kernel
theorem dX8_plainLeaves_80 : decode cX8_plainLeaves 80 = .ok (.invokevirtual 99, 3) := by decide +kernel
theorem dX8_plainLeaves_83 : decode cX8_plainLeaves 83 = .ok (.ifCond .eq 7, 3) := by decide +kernel
theorem dX8_plainLeaves_86 : decode cX8_plainLeaves 86 = .ok (.iconst 1, 1) := by decide +kernel
theorem dX8_plainLeaves_87 : decode cX8_plainLeaves 87 = .ok (.goto 4, 3) := by decide +kernel
theorem dX8_plainLeaves_90 : decode cX8_plainLeaves 90 = .ok (.iconst 0, 1) := by decide +kernel
theorem dX8_plainLeaves_91 : decode cX8_plainLeaves 91 = .ok (.ireturn, 1) := by decide +kernel
theorem dX8_wouldLeave_0 : decode cX8_wouldLeave 0 = .ok (.aload_n 0, 1) := by decide +kernel
theorem dX8_wouldLeave_1 : decode cX8_wouldLeave 1 = .ok (.iload_n 1, 1) := by decide +kernel
theorem dX8_wouldLeave_2 : decode cX8_wouldLeave 2 = .ok (.iconst 0, 1) := by decide +kernel
theorem dX8_wouldLeave_3 : decode cX8_wouldLeave 3 = .ok (.invokevirtual 91, 3) := by decide +kernel
theorem dX8_wouldLeave_6 : decode cX8_wouldLeave 6 = .ok (.tableswitch 108 1 5 #[34, 108, 56, 108, 87], 34) := by decide +kernel
theorem dX8_wouldLeave_40 : decode cX8_wouldLeave 40 = .ok (.aload_n 0, 1) := by decide +kernel
theorem dX8_wouldLeave_41 : decode cX8_wouldLeave 41 = .ok (.iload_n 1, 1) := by decide +kernel
theorem dX8_wouldLeave_42 : decode cX8_wouldLeave 42 = .ok (.bipush 8, 2) := by decide +kernel
theorem dX8_wouldLeave_44 : decode cX8_wouldLeave 44 = .ok (.invokevirtual 91, 3) := by decide +kernel
theorem dX8_wouldLeave_47 : decode cX8_wouldLeave 47 = .ok (.aload_n 0, 1) := by decide +kernel
theorem dX8_wouldLeave_48 : decode cX8_wouldLeave 48 = .ok (.iload_n 1, 1) := by decide +kernel
theorem dX8_wouldLeave_49 : decode cX8_wouldLeave 49 = .ok (.iconst 1, 1) := by decide +kernel
theorem dX8_wouldLeave_50 : decode cX8_wouldLeave 50 = .ok (.invokevirtual 91, 3) := by decide +kernel
theorem dX8_wouldLeave_53 : decode cX8_wouldLeave 53 = .ok (.if_icmp .lt 7, 3) := by decide +kernel
theorem dX8_wouldLeave_56 : decode cX8_wouldLeave 56 = .ok (.iconst 1, 1) := by decide +kernel
theorem dX8_wouldLeave_57 : decode cX8_wouldLeave 57 = .ok (.goto 4, 3) := by decide +kernel
theorem dX8_wouldLeave_60 : decode cX8_wouldLeave 60 = .ok (.iconst 0, 1) := by decide +kernel
theorem dX8_wouldLeave_61 : decode cX8_wouldLeave 61 = .ok (.ireturn, 1) := by decide +kernel
theorem dX8_wouldLeave_62 : decode cX8_wouldLeave 62 = .ok (.aload_n 0, 1) := by decide +kernel
theorem dX8_wouldLeave_63 : decode cX8_wouldLeave 63 = .ok (.iload_n 1, 1) := by decide +kernel
theorem dX8_wouldLeave_64 : decode cX8_wouldLeave 64 = .ok (.bipush 8, 2) := by decide +kernel
theorem dX8_wouldLeave_66 : decode cX8_wouldLeave 66 = .ok (.invokevirtual 91, 3) := by decide +kernel
theorem dX8_wouldLeave_69 : decode cX8_wouldLeave 69 = .ok (.aload_n 0, 1) := by decide +kernel
theorem dX8_wouldLeave_70 : decode cX8_wouldLeave 70 = .ok (.iload_n 1, 1) := by decide +kernel
theorem dX8_wouldLeave_71 : decode cX8_wouldLeave 71 = .ok (.iconst 1, 1) := by decide +kernel
theorem dX8_wouldLeave_72 : decode cX8_wouldLeave 72 = .ok (.invokevirtual 91, 3) := by decide +kernel
theorem dX8_wouldLeave_75 : decode cX8_wouldLeave 75 = .ok (.if_icmp .lt 16, 3) := by decide +kernel
theorem dX8_wouldLeave_78 : decode cX8_wouldLeave 78 = .ok (.aload_n 0, 1) := by decide +kernel
theorem dX8_wouldLeave_79 : decode cX8_wouldLeave 79 = .ok (.getfield 7, 3) := by decide +kernel
theorem dX8_wouldLeave_82 : decode cX8_wouldLeave 82 = .ok (.iconst 5, 1) := by decide +kernel
theorem dX8_wouldLeave_83 : decode cX8_wouldLeave 83 = .ok (.iaload, 1) := by decide +kernel
theorem dX8_wouldLeave_84 : decode cX8_wouldLeave 84 = .ok (.ifCond .le 7, 3) := by decide +kernel
theorem dX8_wouldLeave_87 : decode cX8_wouldLeave 87 = .ok (.iconst 1, 1) := by decide +kernel
theorem dX8_wouldLeave_88 : decode cX8_wouldLeave 88 = .ok (.goto 4, 3) := by decide +kernel
theorem dX8_wouldLeave_91 : decode cX8_wouldLeave 91 = .ok (.iconst 0, 1) := by decide +kernel
theorem dX8_wouldLeave_92 : decode cX8_wouldLeave 92 = .ok (.ireturn, 1) := by decide +kernel
theorem dX8_wouldLeave_93 : decode cX8_wouldLeave 93 = .ok (.aload_n 0, 1) := by decide +kernel
theorem dX8_wouldLeave_94 : decode cX8_wouldLeave 94 = .ok (.iload_n 1, 1) := by decide +kernel
theorem dX8_wouldLeave_95 : decode cX8_wouldLeave 95 = .ok (.invokevirtual 102, 3) := by decide +kernel
theorem dX8_wouldLeave_98 : decode cX8_wouldLeave 98 = .ok (.ifCond .eq 14, 3) := by decide +kernel
theorem dX8_wouldLeave_101 : decode cX8_wouldLeave 101 = .ok (.aload_n 0, 1) := by decide +kernel
theorem dX8_wouldLeave_102 : decode cX8_wouldLeave 102 = .ok (.invokevirtual 106, 3) := by decide +kernel
theorem dX8_wouldLeave_105 : decode cX8_wouldLeave 105 = .ok (.ifCond .ne 7, 3) := by decide +kernel
theorem dX8_wouldLeave_108 : decode cX8_wouldLeave 108 = .ok (.iconst 1, 1) := by decide +kernel
theorem dX8_wouldLeave_109 : decode cX8_wouldLeave 109 = .ok (.goto 4, 3) := by decide +kernel
theorem dX8_wouldLeave_112 : decode cX8_wouldLeave 112 = .ok (.iconst 0, 1) := by decide +kernel
theorem dX8_wouldLeave_113 : decode cX8_wouldLeave 113 = .ok (.ireturn, 1) := by decide +kernel
theorem dX8_wouldLeave_114 : decode cX8_wouldLeave 114 = .ok (.aload_n 0, 1) := by decide +kernel
theorem dX8_wouldLeave_115 : decode cX8_wouldLeave 115 = .ok (.iload_n 1, 1) := by decide +kernel
theorem dX8_wouldLeave_116 : decode cX8_wouldLeave 116 = .ok (.invokevirtual 102, 3) := by decide +kernel
theorem dX8_wouldLeave_119 : decode cX8_wouldLeave 119 = .ok (.ireturn, 1) := by decide +kernel
theorem dX8_stays_0 : decode cX8_stays 0 = .ok (.iconst 0, 1) := by decide +kernel
theorem dX8_stays_1 : decode cX8_stays 1 = .ok (.istore_n 2, 1) := by decide +kernel
theorem dX8_stays_2 : decode cX8_stays 2 = .ok (.aload_n 0, 1) := by decide +kernel
theorem dX8_stays_3 : decode cX8_stays 3 = .ok (.iconst 1, 1) := by decide +kernel
theorem dX8_stays_4 : decode cX8_stays 4 = .ok (.invokevirtual 95, 3) := by decide +kernel
theorem dX8_stays_7 : decode cX8_stays 7 = .ok (.istore_n 3, 1) := by decide +kernel
theorem dX8_stays_8 : decode cX8_stays 8 = .ok (.iload_n 3, 1) := by decide +kernel
theorem dX8_stays_9 : decode cX8_stays 9 = .ok (.ifCond .lt 51, 3) := by decide +kernel
theorem dX8_stays_12 : decode cX8_stays 12 = .ok (.aload_n 0, 1) := by decide +kernel
theorem dX8_stays_13 : decode cX8_stays 13 = .ok (.getfield 56, 3) := by decide +kernel
theorem dX8_stays_16 : decode cX8_stays 16 = .ok (.bipush 97, 2) := by decide +kernel
theorem dX8_stays_18 : decode cX8_stays 18 = .ok (.aload_n 0, 1) := by decide +kernel
theorem dX8_stays_19 : decode cX8_stays 19 = .ok (.iload_n 1, 1) := by decide +kernel
theorem dX8_stays_20 : decode cX8_stays 20 = .ok (.iconst 1, 1) := by decide +kernel
theorem dX8_stays_21 : decode cX8_stays 21 = .ok (.invokevirtual 91, 3) := by decide +kernel
theorem dX8_stays_24 : decode cX8_stays 24 = .ok (.iastore, 1) := by decide +kernel
theorem dX8_stays_25 : decode cX8_stays 25 = .ok (.aload_n 0, 1) := by decide +kernel
theorem dX8_stays_26 : decode cX8_stays 26 = .ok (.getfield 56, 3) := by decide +kernel
theorem dX8_stays_29 : decode cX8_stays 29 = .ok (.bipush 119, 2) := by decide +kernel
theorem dX8_stays_31 : decode cX8_stays 31 = .ok (.aload_n 0, 1) := by decide +kernel
theorem dX8_stays_32 : decode cX8_stays 32 = .ok (.getfield 7, 3) := by decide +kernel
theorem dX8_stays_35 : decode cX8_stays 35 = .ok (.iconst 5, 1) := by decide +kernel
theorem dX8_stays_36 : decode cX8_stays 36 = .ok (.iaload, 1) := by decide +kernel
theorem dX8_stays_37 : decode cX8_stays 37 = .ok (.iastore, 1) := by decide +kernel
theorem dX8_stays_38 : decode cX8_stays 38 = .ok (.aload_n 0, 1) := by decide +kernel
theorem dX8_stays_39 : decode cX8_stays 39 = .ok (.getfield 56, 3) := by decide +kernel
theorem dX8_stays_42 : decode cX8_stays 42 = .ok (.bipush 110, 2) := by decide +kernel
theorem dX8_stays_44 : decode cX8_stays 44 = .ok (.aload_n 0, 1) := by decide +kernel
theorem dX8_stays_45 : decode cX8_stays 45 = .ok (.invokevirtual 106, 3) := by decide +kernel
theorem dX8_stays_48 : decode cX8_stays 48 = .ok (.iastore, 1) := by decide +kernel
theorem dX8_stays_49 : decode cX8_stays 49 = .ok (.aload_n 0, 1) := by decide +kernel
theorem dX8_stays_50 : decode cX8_stays 50 = .ok (.iload_n 3, 1) := by decide +kernel
theorem dX8_stays_51 : decode cX8_stays 51 = .ok (.invokevirtual 99, 3) := by decide +kernel
theorem dX8_stays_54 : decode cX8_stays 54 = .ok (.bipush 99, 2) := by decide +kernel
theorem dX8_stays_56 : decode cX8_stays 56 = .ok (.invokestatic 110, 3) := by decide +kernel
theorem dX8_stays_59 : decode cX8_stays 59 = .ok (.istore_n 2, 1) := by decide +kernel
theorem dX8_stays_60 : decode cX8_stays 60 = .ok (.aload_n 0, 1) := by decide +kernel
theorem dX8_stays_61 : decode cX8_stays 61 = .ok (.iload_n 1, 1) := by decide +kernel
theorem dX8_stays_62 : decode cX8_stays 62 = .ok (.iconst 0, 1) := by decide +kernel
theorem dX8_stays_63 : decode cX8_stays 63 = .ok (.invokevirtual 91, 3) := by decide +kernel
theorem dX8_stays_66 : decode cX8_stays 66 = .ok (.istore 4, 2) := by decide +kernel
theorem dX8_stays_68 : decode cX8_stays 68 = .ok (.iload 4, 2) := by decide +kernel
theorem dX8_stays_70 : decode cX8_stays 70 = .ok (.iconst 2, 1) := by decide +kernel
theorem dX8_stays_71 : decode cX8_stays 71 = .ok (.if_icmp .ne 14, 3) := by decide +kernel
theorem dX8_stays_74 : decode cX8_stays 74 = .ok (.iload_n 2, 1) := by decide +kernel
theorem dX8_stays_75 : decode cX8_stays 75 = .ok (.aload_n 0, 1) := by decide +kernel
theorem dX8_stays_76 : decode cX8_stays 76 = .ok (.iload_n 1, 1) := by decide +kernel
theorem dX8_stays_77 : decode cX8_stays 77 = .ok (.iconst 1, 1) := by decide +kernel
theorem dX8_stays_78 : decode cX8_stays 78 = .ok (.invokevirtual 91, 3) := by decide +kernel
theorem dX8_stays_81 : decode cX8_stays 81 = .ok (.iadd, 1) := by decide +kernel
theorem dX8_stays_82 : decode cX8_stays 82 = .ok (.goto 23, 3) := by decide +kernel
theorem dX8_stays_85 : decode cX8_stays 85 = .ok (.iload 4, 2) := by decide +kernel
theorem dX8_stays_87 : decode cX8_stays 87 = .ok (.iconst 4, 1) := by decide +kernel
theorem dX8_stays_88 : decode cX8_stays 88 = .ok (.if_icmp .ne 16, 3) := by decide +kernel
theorem dX8_stays_91 : decode cX8_stays 91 = .ok (.iconst 2, 1) := by decide +kernel
theorem dX8_stays_92 : decode cX8_stays 92 = .ok (.iload_n 2, 1) := by decide +kernel
theorem dX8_stays_93 : decode cX8_stays 93 = .ok (.aload_n 0, 1) := by decide +kernel
theorem dX8_stays_94 : decode cX8_stays 94 = .ok (.iload_n 1, 1) := by decide +kernel
theorem dX8_stays_95 : decode cX8_stays 95 = .ok (.iconst 1, 1) := by decide +kernel
theorem dX8_stays_96 : decode cX8_stays 96 = .ok (.invokevirtual 91, 3) := by decide +kernel
theorem dX8_stays_99 : decode cX8_stays 99 = .ok (.iadd, 1) := by decide +kernel
theorem dX8_stays_100 : decode cX8_stays 100 = .ok (.imul, 1) := by decide +kernel
theorem dX8_stays_101 : decode cX8_stays 101 = .ok (.goto 4, 3) := by decide +kernel
theorem dX8_stays_104 : decode cX8_stays 104 = .ok (.iload_n 2, 1) := by decide +kernel
theorem dX8_stays_105 : decode cX8_stays 105 = .ok (.ireturn, 1) := by decide +kernel
theorem dX8_worth_0 : decode cX8_worth 0 = .ok (.aload_n 0, 1) := by decide +kernel
theorem dX8_worth_1 : decode cX8_worth 1 = .ok (.iload_n 1, 1) := by decide +kernel
theorem dX8_worth_2 : decode cX8_worth 2 = .ok (.iconst 1, 1) := by decide +kernel
theorem dX8_worth_3 : decode cX8_worth 3 = .ok (.invokevirtual 91, 3) := by decide +kernel
theorem dX8_worth_6 : decode cX8_worth 6 = .ok (.istore_n 2, 1) := by decide +kernel
theorem dX8_worth_7 : decode cX8_worth 7 = .ok (.aload_n 0, 1) := by decide +kernel
theorem dX8_worth_8 : decode cX8_worth 8 = .ok (.iload_n 1, 1) := by decide +kernel
theorem dX8_worth_9 : decode cX8_worth 9 = .ok (.iconst 0, 1) := by decide +kernel
theorem dX8_worth_10 : decode cX8_worth 10 = .ok (.invokevirtual 91, 3) := by decide +kernel
theorem dX8_worth_13 : decode cX8_worth 13 = .ok (.tableswitch 58 1 5 #[35, 39, 44, 50, 55], 35) := by decide +kernel
theorem dX8_worth_48 : decode cX8_worth 48 = .ok (.iload_n 2, 1) := by decide +kernel
theorem dX8_worth_49 : decode cX8_worth 49 = .ok (.iconst 3, 1) := by decide +kernel
theorem dX8_worth_50 : decode cX8_worth 50 = .ok (.iadd, 1) := by decide +kernel
theorem dX8_worth_51 : decode cX8_worth 51 = .ok (.ireturn, 1) := by decide +kernel
theorem dX8_worth_52 : decode cX8_worth 52 = .ok (.bipush 60, 2) := by decide +kernel
theorem dX8_worth_54 : decode cX8_worth 54 = .ok (.iload_n 2, 1) := by decide +kernel
theorem dX8_worth_55 : decode cX8_worth 55 = .ok (.isub, 1) := by decide +kernel
theorem dX8_worth_56 : decode cX8_worth 56 = .ok (.ireturn, 1) := by decide +kernel
theorem dX8_worth_57 : decode cX8_worth 57 = .ok (.iconst 2, 1) := by decide +kernel
theorem dX8_worth_58 : decode cX8_worth 58 = .ok (.iload_n 2, 1) := by decide +kernel
theorem dX8_worth_59 : decode cX8_worth 59 = .ok (.iconst 3, 1) := by decide +kernel
theorem dX8_worth_60 : decode cX8_worth 60 = .ok (.iadd, 1) := by decide +kernel
theorem dX8_worth_61 : decode cX8_worth 61 = .ok (.imul, 1) := by decide +kernel
theorem dX8_worth_62 : decode cX8_worth 62 = .ok (.ireturn, 1) := by decide +kernel
theorem dX8_worth_63 : decode cX8_worth 63 = .ok (.bipush 55, 2) := by decide +kernel
theorem dX8_worth_65 : decode cX8_worth 65 = .ok (.iload_n 2, 1) := by decide +kernel
theorem dX8_worth_66 : decode cX8_worth 66 = .ok (.isub, 1) := by decide +kernel
theorem dX8_worth_67 : decode cX8_worth 67 = .ok (.ireturn, 1) := by decide +kernel
theorem dX8_worth_68 : decode cX8_worth 68 = .ok (.bipush 30, 2) := by decide +kernel
theorem dX8_worth_70 : decode cX8_worth 70 = .ok (.ireturn, 1) := by decide +kernel
theorem dX8_worth_71 : decode cX8_worth 71 = .ok (.iload_n 2, 1) := by decide +kernel
theorem dX8_worth_72 : decode cX8_worth 72 = .ok (.ireturn, 1) := by decide +kernel
theorem dX8_told_0 : decode cX8_told 0 = .ok (.aload_n 0, 1) := by decide +kernel
theorem dX8_told_1 : decode cX8_told 1 = .ok (.iload_n 1, 1) := by decide +kernel
theorem dX8_told_2 : decode cX8_told 2 = .ok (.invokevirtual 113, 3) := by decide +kernel
theorem dX8_told_5 : decode cX8_told 5 = .ok (.ifCond .eq 15, 3) := by decide +kernel
theorem dX8_told_8 : decode cX8_told 8 = .ok (.iload_n 2, 1) := by decide +kernel
theorem dX8_told_9 : decode cX8_told 9 = .ok (.i2l, 1) := by decide +kernel
theorem dX8_told_10 : decode cX8_told 10 = .ok (.lconst 0, 1) := by decide +kernel
theorem dX8_told_11 : decode cX8_told 11 = .ok (.ldc2_w 116, 3) := by decide +kernel
theorem dX8_told_14 : decode cX8_told 14 = .ok (.invokestatic 72, 3) := by decide +kernel
theorem dX8_told_17 : decode cX8_told 17 = .ok (.ifCond .ne 6, 3) := by decide +kernel
theorem dX8_told_20 : decode cX8_told 20 = .ok (.ldc 85, 2) := by decide +kernel
theorem dX8_told_22 : decode cX8_told 22 = .ok (.ireturn, 1) := by decide +kernel
theorem dX8_told_23 : decode cX8_told 23 = .ok (.iload_n 2, 1) := by decide +kernel
theorem dX8_told_24 : decode cX8_told 24 = .ok (.bipush 12, 2) := by decide +kernel
theorem dX8_told_26 : decode cX8_told 26 = .ok (.if_icmp .ge 12, 3) := by decide +kernel
theorem dX8_told_29 : decode cX8_told 29 = .ok (.aload_n 0, 1) := by decide +kernel
theorem dX8_told_30 : decode cX8_told 30 = .ok (.iload_n 1, 1) := by decide +kernel
theorem dX8_told_31 : decode cX8_told 31 = .ok (.iload_n 2, 1) := by decide +kernel
theorem dX8_told_32 : decode cX8_told 32 = .ok (.invokevirtual 91, 3) := by decide +kernel
theorem dX8_told_35 : decode cX8_told 35 = .ok (.goto 44, 3) := by decide +kernel
theorem dX8_told_38 : decode cX8_told 38 = .ok (.iload_n 2, 1) := by decide +kernel
theorem dX8_told_39 : decode cX8_told 39 = .ok (.bipush 12, 2) := by decide +kernel
theorem dX8_told_41 : decode cX8_told 41 = .ok (.if_icmp .ne 11, 3) := by decide +kernel
theorem dX8_told_44 : decode cX8_told 44 = .ok (.aload_n 0, 1) := by decide +kernel
theorem dX8_told_45 : decode cX8_told 45 = .ok (.iload_n 1, 1) := by decide +kernel
theorem dX8_told_46 : decode cX8_told 46 = .ok (.invokevirtual 118, 3) := by decide +kernel
theorem dX8_told_49 : decode cX8_told 49 = .ok (.goto 30, 3) := by decide +kernel
theorem dX8_told_52 : decode cX8_told 52 = .ok (.iload_n 2, 1) := by decide +kernel
theorem dX8_told_53 : decode cX8_told 53 = .ok (.bipush 14, 2) := by decide +kernel
theorem dX8_told_55 : decode cX8_told 55 = .ok (.if_icmp .ne 11, 3) := by decide +kernel
theorem dX8_told_58 : decode cX8_told 58 = .ok (.aload_n 0, 1) := by decide +kernel
theorem dX8_told_59 : decode cX8_told 59 = .ok (.iload_n 1, 1) := by decide +kernel
theorem dX8_told_60 : decode cX8_told 60 = .ok (.invokevirtual 121, 3) := by decide +kernel
theorem dX8_told_63 : decode cX8_told 63 = .ok (.goto 16, 3) := by decide +kernel
theorem dX8_told_66 : decode cX8_told 66 = .ok (.aload_n 0, 1) := by decide +kernel
theorem dX8_told_67 : decode cX8_told 67 = .ok (.iload_n 1, 1) := by decide +kernel
theorem dX8_told_68 : decode cX8_told 68 = .ok (.invokevirtual 124, 3) := by decide +kernel
theorem dX8_told_71 : decode cX8_told 71 = .ok (.ifCond .eq 7, 3) := by decide +kernel
theorem dX8_told_74 : decode cX8_told 74 = .ok (.iconst 1, 1) := by decide +kernel
theorem dX8_told_75 : decode cX8_told 75 = .ok (.goto 4, 3) := by decide +kernel
theorem dX8_told_78 : decode cX8_told 78 = .ok (.iconst 0, 1) := by decide +kernel
theorem dX8_told_79 : decode cX8_told 79 = .ok (.ireturn, 1) := by decide +kernel
theorem dX8_isOf_0 : decode cX8_isOf 0 = .ok (.iload_n 0, 1) := by decide +kernel
theorem dX8_isOf_1 : decode cX8_isOf 1 = .ok (.iload_n 1, 1) := by decide +kernel
theorem dX8_isOf_2 : decode cX8_isOf 2 = .ok (.if_icmp .eq 27, 3) := by decide +kernel
theorem dX8_isOf_5 : decode cX8_isOf 5 = .ok (.iload_n 1, 1) := by decide +kernel
theorem dX8_isOf_6 : decode cX8_isOf 6 = .ok (.ifCond .eq 23, 3) := by decide +kernel
theorem dX8_isOf_9 : decode cX8_isOf 9 = .ok (.iload_n 1, 1) := by decide +kernel
theorem dX8_isOf_10 : decode cX8_isOf 10 = .ok (.iconst 1, 1) := by decide +kernel
theorem dX8_isOf_11 : decode cX8_isOf 11 = .ok (.if_icmp .ne 8, 3) := by decide +kernel
theorem dX8_isOf_14 : decode cX8_isOf 14 = .ok (.iload_n 0, 1) := by decide +kernel
theorem dX8_isOf_15 : decode cX8_isOf 15 = .ok (.iconst 3, 1) := by decide +kernel
theorem dX8_isOf_16 : decode cX8_isOf 16 = .ok (.if_icmp .eq 13, 3) := by decide +kernel
theorem dX8_isOf_19 : decode cX8_isOf 19 = .ok (.iload_n 1, 1) := by decide +kernel
theorem dX8_isOf_20 : decode cX8_isOf 20 = .ok (.iconst 2, 1) := by decide +kernel
theorem dX8_isOf_21 : decode cX8_isOf 21 = .ok (.if_icmp .ne 12, 3) := by decide +kernel
theorem dX8_isOf_24 : decode cX8_isOf 24 = .ok (.iload_n 0, 1) := by decide +kernel
theorem dX8_isOf_25 : decode cX8_isOf 25 = .ok (.iconst 4, 1) := by decide +kernel
theorem dX8_isOf_26 : decode cX8_isOf 26 = .ok (.if_icmp .ne 7, 3) := by decide +kernel
theorem dX8_isOf_29 : decode cX8_isOf 29 = .ok (.iconst 1, 1) := by decide +kernel
theorem dX8_isOf_30 : decode cX8_isOf 30 = .ok (.goto 4, 3) := by decide +kernel
theorem dX8_isOf_33 : decode cX8_isOf 33 = .ok (.iconst 0, 1) := by decide +kernel
theorem dX8_isOf_34 : decode cX8_isOf 34 = .ok (.ireturn, 1) := by decide +kernel
theorem dX8_as_0 : decode cX8_as 0 = .ok (.aload_n 0, 1) := by decide +kernel
theorem dX8_as_1 : decode cX8_as 1 = .ok (.iload_n 1, 1) := by decide +kernel
theorem dX8_as_2 : decode cX8_as 2 = .ok (.invokevirtual 113, 3) := by decide +kernel
theorem dX8_as_5 : decode cX8_as 5 = .ok (.ifCond .eq 15, 3) := by decide +kernel
theorem dX8_as_8 : decode cX8_as 8 = .ok (.iload_n 2, 1) := by decide +kernel
theorem dX8_as_9 : decode cX8_as 9 = .ok (.i2l, 1) := by decide +kernel
theorem dX8_as_10 : decode cX8_as 10 = .ok (.lconst 0, 1) := by decide +kernel
theorem dX8_as_11 : decode cX8_as 11 = .ok (.ldc2_w 77, 3) := by decide +kernel
theorem dX8_as_14 : decode cX8_as 14 = .ok (.invokestatic 72, 3) := by decide +kernel
theorem dX8_as_17 : decode cX8_as 17 = .ok (.ifCond .ne 6, 3) := by decide +kernel
theorem dX8_as_20 : decode cX8_as 20 = .ok (.ldc 85, 2) := by decide +kernel
theorem dX8_as_22 : decode cX8_as 22 = .ok (.ireturn, 1) := by decide +kernel
theorem dX8_as_23 : decode cX8_as 23 = .ok (.aload_n 0, 1) := by decide +kernel
theorem dX8_as_24 : decode cX8_as 24 = .ok (.iload_n 1, 1) := by decide +kernel
theorem dX8_as_25 : decode cX8_as 25 = .ok (.iconst 0, 1) := by decide +kernel
theorem dX8_as_26 : decode cX8_as 26 = .ok (.invokevirtual 91, 3) := by decide +kernel
theorem dX8_as_29 : decode cX8_as 29 = .ok (.iload_n 2, 1) := by decide +kernel
theorem dX8_as_30 : decode cX8_as 30 = .ok (.invokestatic 127, 3) := by decide +kernel
theorem dX8_as_33 : decode cX8_as 33 = .ok (.ifCond .eq 12, 3) := by decide +kernel
theorem dX8_as_36 : decode cX8_as 36 = .ok (.aload_n 0, 1) := by decide +kernel
theorem dX8_as_37 : decode cX8_as 37 = .ok (.iload_n 1, 1) := by decide +kernel
theorem dX8_as_38 : decode cX8_as 38 = .ok (.iconst 1, 1) := by decide +kernel
theorem dX8_as_39 : decode cX8_as 39 = .ok (.invokevirtual 91, 3) := by decide +kernel
theorem dX8_as_42 : decode cX8_as 42 = .ok (.goto 5, 3) := by decide +kernel
theorem dX8_as_45 : decode cX8_as 45 = .ok (.ldc 131, 2) := by decide +kernel
theorem dX8_as_47 : decode cX8_as 47 = .ok (.ireturn, 1) := by decide +kernel
theorem dX8_turns_0 : decode cX8_turns 0 = .ok (.aload_n 0, 1) := by decide +kernel
theorem dX8_turns_1 : decode cX8_turns 1 = .ok (.iload_n 1, 1) := by decide +kernel
theorem dX8_turns_2 : decode cX8_turns 2 = .ok (.invokevirtual 113, 3) := by decide +kernel
theorem dX8_turns_5 : decode cX8_turns 5 = .ok (.ifCond .eq 30, 3) := by decide +kernel
theorem dX8_turns_8 : decode cX8_turns 8 = .ok (.iload_n 2, 1) := by decide +kernel
theorem dX8_turns_9 : decode cX8_turns 9 = .ok (.i2l, 1) := by decide +kernel
theorem dX8_turns_10 : decode cX8_turns 10 = .ok (.lconst 0, 1) := by decide +kernel
theorem dX8_turns_11 : decode cX8_turns 11 = .ok (.ldc2_w 77, 3) := by decide +kernel
theorem dX8_turns_14 : decode cX8_turns 14 = .ok (.invokestatic 72, 3) := by decide +kernel
theorem dX8_turns_17 : decode cX8_turns 17 = .ok (.ifCond .eq 18, 3) := by decide +kernel
theorem dX8_turns_20 : decode cX8_turns 20 = .ok (.aload_n 0, 1) := by decide +kernel
theorem dX8_turns_21 : decode cX8_turns 21 = .ok (.bipush 12, 2) := by decide +kernel
theorem dX8_turns_23 : decode cX8_turns 23 = .ok (.bipush 12, 2) := by decide +kernel
theorem dX8_turns_25 : decode cX8_turns 25 = .ok (.iload_n 1, 1) := by decide +kernel
theorem dX8_turns_26 : decode cX8_turns 26 = .ok (.imul, 1) := by decide +kernel
theorem dX8_turns_27 : decode cX8_turns 27 = .ok (.iadd, 1) := by decide +kernel
theorem dX8_turns_28 : decode cX8_turns 28 = .ok (.iload_n 2, 1) := by decide +kernel
theorem dX8_turns_29 : decode cX8_turns 29 = .ok (.invokevirtual 132, 3) := by decide +kernel
theorem dX8_turns_32 : decode cX8_turns 32 = .ok (.goto 5, 3) := by decide +kernel
theorem dX8_turns_35 : decode cX8_turns 35 = .ok (.ldc 85, 2) := by decide +kernel
theorem dX8_turns_37 : decode cX8_turns 37 = .ok (.ireturn, 1) := by decide +kernel
theorem dX8_set_0 : decode cX8_set 0 = .ok (.aload_n 0, 1) := by decide +kernel
theorem dX8_set_1 : decode cX8_set 1 = .ok (.iload_n 1, 1) := by decide +kernel
theorem dX8_set_2 : decode cX8_set 2 = .ok (.invokevirtual 113, 3) := by decide +kernel
theorem dX8_set_5 : decode cX8_set 5 = .ok (.ifCond .eq 58, 3) := by decide +kernel
theorem dX8_set_8 : decode cX8_set 8 = .ok (.iload_n 2, 1) := by decide +kernel
theorem dX8_set_9 : decode cX8_set 9 = .ok (.i2l, 1) := by decide +kernel
theorem dX8_set_10 : decode cX8_set 10 = .ok (.lconst 1, 1) := by decide +kernel
theorem dX8_set_11 : decode cX8_set 11 = .ok (.ldc2_w 135, 3) := by decide +kernel
theorem dX8_set_14 : decode cX8_set 14 = .ok (.invokestatic 72, 3) := by decide +kernel
theorem dX8_set_17 : decode cX8_set 17 = .ok (.ifCond .eq 46, 3) := by decide +kernel
theorem dX8_set_20 : decode cX8_set 20 = .ok (.iload_n 3, 1) := by decide +kernel
theorem dX8_set_21 : decode cX8_set 21 = .ok (.i2l, 1) := by decide +kernel
theorem dX8_set_22 : decode cX8_set 22 = .ok (.iload_n 2, 1) := by decide +kernel
theorem dX8_set_23 : decode cX8_set 23 = .ok (.iconst 2, 1) := by decide +kernel
theorem dX8_set_24 : decode cX8_set 24 = .ok (.if_icmp .ne 7, 3) := by decide +kernel
theorem dX8_set_27 : decode cX8_set 27 = .ok (.lconst 1, 1) := by decide +kernel
theorem dX8_set_28 : decode cX8_set 28 = .ok (.goto 4, 3) := by decide +kernel
theorem dX8_set_31 : decode cX8_set 31 = .ok (.lconst 0, 1) := by decide +kernel
theorem dX8_set_32 : decode cX8_set 32 = .ok (.iload_n 2, 1) := by decide +kernel
theorem dX8_set_33 : decode cX8_set 33 = .ok (.iconst 1, 1) := by decide +kernel
theorem dX8_set_34 : decode cX8_set 34 = .ok (.if_icmp .ne 9, 3) := by decide +kernel
theorem dX8_set_37 : decode cX8_set 37 = .ok (.ldc2_w 79, 3) := by decide +kernel
theorem dX8_set_40 : decode cX8_set 40 = .ok (.goto 17, 3) := by decide +kernel
theorem dX8_set_43 : decode cX8_set 43 = .ok (.iload_n 2, 1) := by decide +kernel
theorem dX8_set_44 : decode cX8_set 44 = .ok (.iconst 2, 1) := by decide +kernel
theorem dX8_set_45 : decode cX8_set 45 = .ok (.if_icmp .ne 9, 3) := by decide +kernel
theorem dX8_set_48 : decode cX8_set 48 = .ok (.ldc2_w 81, 3) := by decide +kernel
theorem dX8_set_51 : decode cX8_set 51 = .ok (.goto 6, 3) := by decide +kernel
theorem dX8_set_54 : decode cX8_set 54 = .ok (.ldc2_w 83, 3) := by decide +kernel
theorem dX8_set_57 : decode cX8_set 57 = .ok (.invokestatic 72, 3) := by decide +kernel
theorem dX8_set_60 : decode cX8_set 60 = .ok (.ifCond .ne 6, 3) := by decide +kernel
theorem dX8_set_63 : decode cX8_set 63 = .ok (.ldc 85, 2) := by decide +kernel
theorem dX8_set_65 : decode cX8_set 65 = .ok (.ireturn, 1) := by decide +kernel
theorem dX8_set_66 : decode cX8_set 66 = .ok (.aload_n 0, 1) := by decide +kernel
theorem dX8_set_67 : decode cX8_set 67 = .ok (.bipush 12, 2) := by decide +kernel
theorem dX8_set_69 : decode cX8_set 69 = .ok (.bipush 12, 2) := by decide +kernel
theorem dX8_set_71 : decode cX8_set 71 = .ok (.iload_n 1, 1) := by decide +kernel
theorem dX8_set_72 : decode cX8_set 72 = .ok (.imul, 1) := by decide +kernel
theorem dX8_set_73 : decode cX8_set 73 = .ok (.iadd, 1) := by decide +kernel
theorem dX8_set_74 : decode cX8_set 74 = .ok (.iload_n 2, 1) := by decide +kernel
theorem dX8_set_75 : decode cX8_set 75 = .ok (.iadd, 1) := by decide +kernel
theorem dX8_set_76 : decode cX8_set 76 = .ok (.iload_n 3, 1) := by decide +kernel
theorem dX8_set_77 : decode cX8_set 77 = .ok (.invokevirtual 132, 3) := by decide +kernel
theorem dX8_set_80 : decode cX8_set 80 = .ok (.ireturn, 1) := by decide +kernel
theorem dX8_mayBe_0 : decode cX8_mayBe 0 = .ok (.iload_n 0, 1) := by decide +kernel
theorem dX8_mayBe_1 : decode cX8_mayBe 1 = .ok (.tableswitch 75 0 4 #[35, 45, 45, 55, 65], 35) := by decide +kernel
theorem dX8_mayBe_36 : decode cX8_mayBe 36 = .ok (.iload_n 1, 1) := by decide +kernel
theorem dX8_mayBe_37 : decode cX8_mayBe 37 = .ok (.i2l, 1) := by decide +kernel
theorem dX8_mayBe_38 : decode cX8_mayBe 38 = .ok (.lconst 1, 1) := by decide +kernel
theorem dX8_mayBe_39 : decode cX8_mayBe 39 = .ok (.ldc2_w 137, 3) := by decide +kernel
theorem dX8_mayBe_42 : decode cX8_mayBe 42 = .ok (.invokestatic 72, 3) := by decide +kernel
theorem dX8_mayBe_45 : decode cX8_mayBe 45 = .ok (.ireturn, 1) := by decide +kernel
theorem dX8_mayBe_46 : decode cX8_mayBe 46 = .ok (.iload_n 1, 1) := by decide +kernel
theorem dX8_mayBe_47 : decode cX8_mayBe 47 = .ok (.i2l, 1) := by decide +kernel
theorem dX8_mayBe_48 : decode cX8_mayBe 48 = .ok (.lconst 0, 1) := by decide +kernel
theorem dX8_mayBe_49 : decode cX8_mayBe 49 = .ok (.ldc2_w 139, 3) := by decide +kernel
theorem dX8_mayBe_52 : decode cX8_mayBe 52 = .ok (.invokestatic 72, 3) := by decide +kernel
theorem dX8_mayBe_55 : decode cX8_mayBe 55 = .ok (.ireturn, 1) := by decide +kernel
theorem dX8_mayBe_56 : decode cX8_mayBe 56 = .ok (.iload_n 1, 1) := by decide +kernel
theorem dX8_mayBe_57 : decode cX8_mayBe 57 = .ok (.i2l, 1) := by decide +kernel
theorem dX8_mayBe_58 : decode cX8_mayBe 58 = .ok (.lconst 1, 1) := by decide +kernel
theorem dX8_mayBe_59 : decode cX8_mayBe 59 = .ok (.ldc2_w 83, 3) := by decide +kernel
theorem dX8_mayBe_62 : decode cX8_mayBe 62 = .ok (.invokestatic 72, 3) := by decide +kernel
theorem dX8_mayBe_65 : decode cX8_mayBe 65 = .ok (.ireturn, 1) := by decide +kernel
theorem dX8_mayBe_66 : decode cX8_mayBe 66 = .ok (.iload_n 1, 1) := by decide +kernel
theorem dX8_mayBe_67 : decode cX8_mayBe 67 = .ok (.i2l, 1) := by decide +kernel
theorem dX8_mayBe_68 : decode cX8_mayBe 68 = .ok (.lconst 0, 1) := by decide +kernel
theorem dX8_mayBe_69 : decode cX8_mayBe 69 = .ok (.ldc2_w 141, 3) := by decide +kernel
theorem dX8_mayBe_72 : decode cX8_mayBe 72 = .ok (.invokestatic 72, 3) := by decide +kernel
theorem dX8_mayBe_75 : decode cX8_mayBe 75 = .ok (.ireturn, 1) := by decide +kernel
theorem dX8_mayBe_76 : decode cX8_mayBe 76 = .ok (.iconst 0, 1) := by decide +kernel
theorem dX8_mayBe_77 : decode cX8_mayBe 77 = .ok (.ireturn, 1) := by decide +kernel
theorem dX8_well_0 : decode cX8_well 0 = .ok (.iload_n 1, 1) := by decide +kernel
theorem dX8_well_1 : decode cX8_well 1 = .ok (.iload_n 2, 1) := by decide +kernel
theorem dX8_well_2 : decode cX8_well 2 = .ok (.invokestatic 143, 3) := by decide +kernel
theorem dX8_well_5 : decode cX8_well 5 = .ok (.ifCond .eq 14, 3) := by decide +kernel
theorem dX8_well_8 : decode cX8_well 8 = .ok (.aload_n 0, 1) := by decide +kernel
theorem dX8_well_9 : decode cX8_well 9 = .ok (.iconst 3, 1) := by decide +kernel
theorem dX8_well_10 : decode cX8_well 10 = .ok (.iload_n 1, 1) := by decide +kernel
theorem dX8_well_11 : decode cX8_well 11 = .ok (.iadd, 1) := by decide +kernel
theorem dX8_well_12 : decode cX8_well 12 = .ok (.iload_n 2, 1) := by decide +kernel
theorem dX8_well_13 : decode cX8_well 13 = .ok (.invokevirtual 132, 3) := by decide +kernel
theorem dX8_well_16 : decode cX8_well 16 = .ok (.goto 5, 3) := by decide +kernel
theorem dX8_well_19 : decode cX8_well 19 = .ok (.ldc 85, 2) := by decide +kernel
theorem dX8_well_21 : decode cX8_well 21 = .ok (.ireturn, 1) := by decide +kernel
theorem dX8_deal_0 : decode cX8_deal 0 = .ok (.iload_n 1, 1) := by decide +kernel
theorem dX8_deal_1 : decode cX8_deal 1 = .ok (.i2l, 1) := by decide +kernel
theorem dX8_deal_2 : decode cX8_deal 2 = .ok (.lconst 1, 1) := by decide +kernel
theorem dX8_deal_3 : decode cX8_deal 3 = .ok (.ldc2_w 146, 3) := by decide +kernel
theorem dX8_deal_6 : decode cX8_deal 6 = .ok (.invokestatic 72, 3) := by decide +kernel
theorem dX8_deal_9 : decode cX8_deal 9 = .ok (.ifCond .ne 6, 3) := by decide +kernel
theorem dX8_deal_12 : decode cX8_deal 12 = .ok (.ldc 85, 2) := by decide +kernel
theorem dX8_deal_14 : decode cX8_deal 14 = .ok (.ireturn, 1) := by decide +kernel
theorem dX8_deal_15 : decode cX8_deal 15 = .ok (.iconst 0, 1) := by decide +kernel
theorem dX8_deal_16 : decode cX8_deal 16 = .ok (.istore_n 2, 1) := by decide +kernel
theorem dX8_deal_17 : decode cX8_deal 17 = .ok (.iload_n 2, 1) := by decide +kernel
theorem dX8_deal_18 : decode cX8_deal 18 = .ok (.iload_n 1, 1) := by decide +kernel
theorem dX8_deal_19 : decode cX8_deal 19 = .ok (.if_icmp .ge 64, 3) := by decide +kernel
theorem dX8_deal_22 : decode cX8_deal 22 = .ok (.aload_n 0, 1) := by decide +kernel
theorem dX8_deal_23 : decode cX8_deal 23 = .ok (.getfield 7, 3) := by decide +kernel
theorem dX8_deal_26 : decode cX8_deal 26 = .ok (.iconst 0, 1) := by decide +kernel
theorem dX8_deal_27 : decode cX8_deal 27 = .ok (.iaload, 1) := by decide +kernel
theorem dX8_deal_28 : decode cX8_deal 28 = .ok (.bipush 8, 2) := by decide +kernel
theorem dX8_deal_30 : decode cX8_deal 30 = .ok (.if_icmp .ge 53, 3) := by decide +kernel
theorem dX8_deal_33 : decode cX8_deal 33 = .ok (.aload_n 0, 1) := by decide +kernel
theorem dX8_deal_34 : decode cX8_deal 34 = .ok (.invokevirtual 148, 3) := by decide +kernel
theorem dX8_deal_37 : decode cX8_deal 37 = .ok (.bipush 6, 2) := by decide +kernel
theorem dX8_deal_39 : decode cX8_deal 39 = .ok (.irem, 1) := by decide +kernel
theorem dX8_deal_40 : decode cX8_deal 40 = .ok (.istore_n 3, 1) := by decide +kernel
theorem dX8_deal_41 : decode cX8_deal 41 = .ok (.aload_n 0, 1) := by decide +kernel
theorem dX8_deal_42 : decode cX8_deal 42 = .ok (.invokevirtual 148, 3) := by decide +kernel
theorem dX8_deal_45 : decode cX8_deal 45 = .ok (.bipush 60, 2) := by decide +kernel
theorem dX8_deal_47 : decode cX8_deal 47 = .ok (.irem, 1) := by decide +kernel
theorem dX8_deal_48 : decode cX8_deal 48 = .ok (.istore 4, 2) := by decide +kernel
theorem dX8_deal_50 : decode cX8_deal 50 = .ok (.iconst 1, 1) := by decide +kernel
theorem dX8_deal_51 : decode cX8_deal 51 = .ok (.aload_n 0, 1) := by decide +kernel
theorem dX8_deal_52 : decode cX8_deal 52 = .ok (.invokevirtual 148, 3) := by decide +kernel
theorem dX8_deal_55 : decode cX8_deal 55 = .ok (.bipush 30, 2) := by decide +kernel
theorem dX8_deal_57 : decode cX8_deal 57 = .ok (.irem, 1) := by decide +kernel
theorem dX8_deal_58 : decode cX8_deal 58 = .ok (.iadd, 1) := by decide +kernel
theorem dX8_deal_59 : decode cX8_deal 59 = .ok (.istore 5, 2) := by decide +kernel
theorem dX8_deal_61 : decode cX8_deal 61 = .ok (.aload_n 0, 1) := by decide +kernel
theorem dX8_deal_62 : decode cX8_deal 62 = .ok (.iload_n 3, 1) := by decide +kernel
theorem dX8_deal_63 : decode cX8_deal 63 = .ok (.iload 4, 2) := by decide +kernel
theorem dX8_deal_65 : decode cX8_deal 65 = .ok (.iload 5, 2) := by decide +kernel
theorem dX8_deal_67 : decode cX8_deal 67 = .ok (.aload_n 0, 1) := by decide +kernel
theorem dX8_deal_68 : decode cX8_deal 68 = .ok (.invokevirtual 148, 3) := by decide +kernel
theorem dX8_deal_71 : decode cX8_deal 71 = .ok (.bipush 10, 2) := by decide +kernel
theorem dX8_deal_73 : decode cX8_deal 73 = .ok (.irem, 1) := by decide +kernel
theorem dX8_deal_74 : decode cX8_deal 74 = .ok (.invokevirtual 87, 3) := by decide +kernel
theorem dX8_deal_77 : decode cX8_deal 77 = .ok (.iinc 2 1, 3) := by decide +kernel
theorem dX8_deal_80 : decode cX8_deal 80 = .ok (.goto (-63), 3) := by decide +kernel
theorem dX8_deal_83 : decode cX8_deal 83 = .ok (.iload_n 2, 1) := by decide +kernel
theorem dX8_deal_84 : decode cX8_deal 84 = .ok (.ireturn, 1) := by decide +kernel
theorem dX8_seed_0 : decode cX8_seed 0 = .ok (.aload_n 0, 1) := by decide +kernel
theorem dX8_seed_1 : decode cX8_seed 1 = .ok (.bipush 10, 2) := by decide +kernel
theorem dX8_seed_3 : decode cX8_seed 3 = .ok (.iload_n 1, 1) := by decide +kernel
theorem dX8_seed_4 : decode cX8_seed 4 = .ok (.invokevirtual 132, 3) := by decide +kernel
theorem dX8_seed_7 : decode cX8_seed 7 = .ok (.ireturn, 1) := by decide +kernel
theorem dX8_goesBack_0 : decode cX8_goesBack 0 = .ok (.aload_n 0, 1) := by decide +kernel
theorem dX8_goesBack_1 : decode cX8_goesBack 1 = .ok (.iload_n 1, 1) := by decide +kernel
theorem dX8_goesBack_2 : decode cX8_goesBack 2 = .ok (.iconst 5, 1) := by decide +kernel
theorem dX8_goesBack_3 : decode cX8_goesBack 3 = .ok (.iconst 3, 1) := by decide +kernel
theorem dX8_goesBack_4 : decode cX8_goesBack 4 = .ok (.invokevirtual 151, 3) := by decide +kernel
theorem dX8_goesBack_7 : decode cX8_goesBack 7 = .ok (.aload_n 0, 1) := by decide +kernel
theorem dX8_goesBack_8 : decode cX8_goesBack 8 = .ok (.iload_n 1, 1) := by decide +kernel
theorem dX8_goesBack_9 : decode cX8_goesBack 9 = .ok (.bipush 6, 2) := by decide +kernel
theorem dX8_goesBack_11 : decode cX8_goesBack 11 = .ok (.aload_n 0, 1) := by decide +kernel
theorem dX8_goesBack_12 : decode cX8_goesBack 12 = .ok (.iload_n 1, 1) := by decide +kernel
theorem dX8_goesBack_13 : decode cX8_goesBack 13 = .ok (.iconst 2, 1) := by decide +kernel
theorem dX8_goesBack_14 : decode cX8_goesBack 14 = .ok (.invokevirtual 91, 3) := by decide +kernel
theorem dX8_goesBack_17 : decode cX8_goesBack 17 = .ok (.invokevirtual 151, 3) := by decide +kernel
theorem dX8_goesBack_20 : decode cX8_goesBack 20 = .ok (.return_, 1) := by decide +kernel
theorem dX8_isThere_0 : decode cX8_isThere 0 = .ok (.aload_n 0, 1) := by decide +kernel
theorem dX8_isThere_1 : decode cX8_isThere 1 = .ok (.iload_n 1, 1) := by decide +kernel
theorem dX8_isThere_2 : decode cX8_isThere 2 = .ok (.bipush 11, 2) := by decide +kernel
theorem dX8_isThere_4 : decode cX8_isThere 4 = .ok (.invokevirtual 155, 3) := by decide +kernel
theorem dX8_isThere_7 : decode cX8_isThere 7 = .ok (.aload_n 0, 1) := by decide +kernel
theorem dX8_isThere_8 : decode cX8_isThere 8 = .ok (.invokevirtual 106, 3) := by decide +kernel
theorem dX8_isThere_11 : decode cX8_isThere 11 = .ok (.ifCond .ne 110, 3) := by decide +kernel
theorem dX8_isThere_14 : decode cX8_isThere 14 = .ok (.aload_n 0, 1) := by decide +kernel
theorem dX8_isThere_15 : decode cX8_isThere 15 = .ok (.getfield 7, 3) := by decide +kernel
theorem dX8_isThere_18 : decode cX8_isThere 18 = .ok (.iconst 5, 1) := by decide +kernel
theorem dX8_isThere_19 : decode cX8_isThere 19 = .ok (.iaload, 1) := by decide +kernel
theorem dX8_isThere_20 : decode cX8_isThere 20 = .ok (.ifCond .le 101, 3) := by decide +kernel
theorem dX8_isThere_23 : decode cX8_isThere 23 = .ok (.aload_n 0, 1) := by decide +kernel
theorem dX8_isThere_24 : decode cX8_isThere 24 = .ok (.getfield 7, 3) := by decide +kernel
theorem dX8_isThere_27 : decode cX8_isThere 27 = .ok (.bipush 6, 2) := by decide +kernel
theorem dX8_isThere_29 : decode cX8_isThere 29 = .ok (.iaload, 1) := by decide +kernel
theorem dX8_isThere_30 : decode cX8_isThere 30 = .ok (.istore_n 2, 1) := by decide +kernel
theorem dX8_isThere_31 : decode cX8_isThere 31 = .ok (.aload_n 0, 1) := by decide +kernel
theorem dX8_isThere_32 : decode cX8_isThere 32 = .ok (.iload_n 1, 1) := by decide +kernel
theorem dX8_isThere_33 : decode cX8_isThere 33 = .ok (.iconst 4, 1) := by decide +kernel
theorem dX8_isThere_34 : decode cX8_isThere 34 = .ok (.invokevirtual 91, 3) := by decide +kernel
theorem dX8_isThere_37 : decode cX8_isThere 37 = .ok (.iload_n 2, 1) := by decide +kernel
theorem dX8_isThere_38 : decode cX8_isThere 38 = .ok (.if_icmp .ge 12, 3) := by decide +kernel
theorem dX8_isThere_41 : decode cX8_isThere 41 = .ok (.aload_n 0, 1) := by decide +kernel
theorem dX8_isThere_42 : decode cX8_isThere 42 = .ok (.iload_n 1, 1) := by decide +kernel
theorem dX8_isThere_43 : decode cX8_isThere 43 = .ok (.iconst 4, 1) := by decide +kernel
theorem dX8_isThere_44 : decode cX8_isThere 44 = .ok (.invokevirtual 91, 3) := by decide +kernel
theorem dX8_isThere_47 : decode cX8_isThere 47 = .ok (.goto 4, 3) := by decide +kernel
theorem dX8_isThere_50 : decode cX8_isThere 50 = .ok (.iload_n 2, 1) := by decide +kernel
theorem dX8_isThere_51 : decode cX8_isThere 51 = .ok (.istore_n 2, 1) := by decide +kernel
theorem dX8_isThere_52 : decode cX8_isThere 52 = .ok (.aload_n 0, 1) := by decide +kernel
theorem dX8_isThere_53 : decode cX8_isThere 53 = .ok (.getfield 7, 3) := by decide +kernel
theorem dX8_isThere_56 : decode cX8_isThere 56 = .ok (.iconst 5, 1) := by decide +kernel
theorem dX8_isThere_57 : decode cX8_isThere 57 = .ok (.iaload, 1) := by decide +kernel
theorem dX8_isThere_58 : decode cX8_isThere 58 = .ok (.iload_n 2, 1) := by decide +kernel
theorem dX8_isThere_59 : decode cX8_isThere 59 = .ok (.if_icmp .ge 12, 3) := by decide +kernel
theorem dX8_isThere_62 : decode cX8_isThere 62 = .ok (.aload_n 0, 1) := by decide +kernel
theorem dX8_isThere_63 : decode cX8_isThere 63 = .ok (.getfield 7, 3) := by decide +kernel
theorem dX8_isThere_66 : decode cX8_isThere 66 = .ok (.iconst 5, 1) := by decide +kernel
theorem dX8_isThere_67 : decode cX8_isThere 67 = .ok (.iaload, 1) := by decide +kernel
theorem dX8_isThere_68 : decode cX8_isThere 68 = .ok (.goto 4, 3) := by decide +kernel
theorem dX8_isThere_71 : decode cX8_isThere 71 = .ok (.iload_n 2, 1) := by decide +kernel
theorem dX8_isThere_72 : decode cX8_isThere 72 = .ok (.istore_n 2, 1) := by decide +kernel
theorem dX8_isThere_73 : decode cX8_isThere 73 = .ok (.aload_n 0, 1) := by decide +kernel
theorem dX8_isThere_74 : decode cX8_isThere 74 = .ok (.getfield 7, 3) := by decide +kernel
theorem dX8_isThere_77 : decode cX8_isThere 77 = .ok (.iconst 5, 1) := by decide +kernel
theorem dX8_isThere_78 : decode cX8_isThere 78 = .ok (.dup2, 1) := by decide +kernel
theorem dX8_isThere_79 : decode cX8_isThere 79 = .ok (.iaload, 1) := by decide +kernel
theorem dX8_isThere_80 : decode cX8_isThere 80 = .ok (.iload_n 2, 1) := by decide +kernel
theorem dX8_isThere_81 : decode cX8_isThere 81 = .ok (.isub, 1) := by decide +kernel
theorem dX8_isThere_82 : decode cX8_isThere 82 = .ok (.iastore, 1) := by decide +kernel
theorem dX8_isThere_83 : decode cX8_isThere 83 = .ok (.aload_n 0, 1) := by decide +kernel
theorem dX8_isThere_84 : decode cX8_isThere 84 = .ok (.iload_n 1, 1) := by decide +kernel
theorem dX8_isThere_85 : decode cX8_isThere 85 = .ok (.iconst 4, 1) := by decide +kernel
theorem dX8_isThere_86 : decode cX8_isThere 86 = .ok (.aload_n 0, 1) := by decide +kernel
theorem dX8_isThere_87 : decode cX8_isThere 87 = .ok (.iload_n 1, 1) := by decide +kernel
theorem dX8_isThere_88 : decode cX8_isThere 88 = .ok (.iconst 4, 1) := by decide +kernel
theorem dX8_isThere_89 : decode cX8_isThere 89 = .ok (.invokevirtual 91, 3) := by decide +kernel
theorem dX8_isThere_92 : decode cX8_isThere 92 = .ok (.iload_n 2, 1) := by decide +kernel
theorem dX8_isThere_93 : decode cX8_isThere 93 = .ok (.isub, 1) := by decide +kernel
theorem dX8_isThere_94 : decode cX8_isThere 94 = .ok (.invokevirtual 151, 3) := by decide +kernel
theorem dX8_isThere_97 : decode cX8_isThere 97 = .ok (.aload_n 0, 1) := by decide +kernel
theorem dX8_isThere_98 : decode cX8_isThere 98 = .ok (.iload_n 1, 1) := by decide +kernel
theorem dX8_isThere_99 : decode cX8_isThere 99 = .ok (.bipush 9, 2) := by decide +kernel
theorem dX8_isThere_101 : decode cX8_isThere 101 = .ok (.aload_n 0, 1) := by decide +kernel
theorem dX8_isThere_102 : decode cX8_isThere 102 = .ok (.iload_n 1, 1) := by decide +kernel
theorem dX8_isThere_103 : decode cX8_isThere 103 = .ok (.bipush 9, 2) := by decide +kernel
theorem dX8_isThere_105 : decode cX8_isThere 105 = .ok (.invokevirtual 91, 3) := by decide +kernel
theorem dX8_isThere_108 : decode cX8_isThere 108 = .ok (.iload_n 2, 1) := by decide +kernel
theorem dX8_isThere_109 : decode cX8_isThere 109 = .ok (.iadd, 1) := by decide +kernel
theorem dX8_isThere_110 : decode cX8_isThere 110 = .ok (.invokevirtual 151, 3) := by decide +kernel
theorem dX8_isThere_113 : decode cX8_isThere 113 = .ok (.aload_n 0, 1) := by decide +kernel
theorem dX8_isThere_114 : decode cX8_isThere 114 = .ok (.iload_n 1, 1) := by decide +kernel
theorem dX8_isThere_115 : decode cX8_isThere 115 = .ok (.invokevirtual 159, 3) := by decide +kernel
theorem dX8_isThere_118 : decode cX8_isThere 118 = .ok (.goto 41, 3) := by decide +kernel
theorem dX8_isThere_121 : decode cX8_isThere 121 = .ok (.aload_n 0, 1) := by decide +kernel
theorem dX8_isThere_122 : decode cX8_isThere 122 = .ok (.iload_n 1, 1) := by decide +kernel
theorem dX8_isThere_123 : decode cX8_isThere 123 = .ok (.invokevirtual 121, 3) := by decide +kernel
theorem dX8_isThere_126 : decode cX8_isThere 126 = .ok (.ifCond .le 21, 3) := by decide +kernel
theorem dX8_isThere_129 : decode cX8_isThere 129 = .ok (.aload_n 0, 1) := by decide +kernel
theorem dX8_isThere_130 : decode cX8_isThere 130 = .ok (.iload_n 1, 1) := by decide +kernel
theorem dX8_isThere_131 : decode cX8_isThere 131 = .ok (.iconst 5, 1) := by decide +kernel
theorem dX8_isThere_132 : decode cX8_isThere 132 = .ok (.iconst 2, 1) := by decide +kernel
theorem dX8_isThere_133 : decode cX8_isThere 133 = .ok (.invokevirtual 151, 3) := by decide +kernel
theorem dX8_isThere_136 : decode cX8_isThere 136 = .ok (.aload_n 0, 1) := by decide +kernel
theorem dX8_isThere_137 : decode cX8_isThere 137 = .ok (.iload_n 1, 1) := by decide +kernel
theorem dX8_isThere_138 : decode cX8_isThere 138 = .ok (.bipush 7, 2) := by decide +kernel
theorem dX8_isThere_140 : decode cX8_isThere 140 = .ok (.iconst 0, 1) := by decide +kernel
theorem dX8_isThere_141 : decode cX8_isThere 141 = .ok (.invokevirtual 151, 3) := by decide +kernel
theorem dX8_isThere_144 : decode cX8_isThere 144 = .ok (.goto 15, 3) := by decide +kernel
theorem dX8_isThere_147 : decode cX8_isThere 147 = .ok (.aload_n 0, 1) := by decide +kernel
theorem dX8_isThere_148 : decode cX8_isThere 148 = .ok (.iload_n 1, 1) := by decide +kernel
theorem dX8_isThere_149 : decode cX8_isThere 149 = .ok (.invokevirtual 159, 3) := by decide +kernel
theorem dX8_isThere_152 : decode cX8_isThere 152 = .ok (.aload_n 0, 1) := by decide +kernel
theorem dX8_isThere_153 : decode cX8_isThere 153 = .ok (.iload_n 1, 1) := by decide +kernel
theorem dX8_isThere_154 : decode cX8_isThere 154 = .ok (.bipush 10, 2) := by decide +kernel
theorem dX8_isThere_156 : decode cX8_isThere 156 = .ok (.invokevirtual 155, 3) := by decide +kernel
theorem dX8_isThere_159 : decode cX8_isThere 159 = .ok (.return_, 1) := by decide +kernel
theorem dX8_leaveHome_0 : decode cX8_leaveHome 0 = .ok (.iconst 0, 1) := by decide +kernel
theorem dX8_leaveHome_1 : decode cX8_leaveHome 1 = .ok (.istore_n 1, 1) := by decide +kernel
theorem dX8_leaveHome_2 : decode cX8_leaveHome 2 = .ok (.iload_n 1, 1) := by decide +kernel
theorem dX8_leaveHome_3 : decode cX8_leaveHome 3 = .ok (.aload_n 0, 1) := by decide +kernel
theorem dX8_leaveHome_4 : decode cX8_leaveHome 4 = .ok (.getfield 7, 3) := by decide +kernel
theorem dX8_leaveHome_7 : decode cX8_leaveHome 7 = .ok (.iconst 0, 1) := by decide +kernel
theorem dX8_leaveHome_8 : decode cX8_leaveHome 8 = .ok (.iaload, 1) := by decide +kernel
theorem dX8_leaveHome_9 : decode cX8_leaveHome 9 = .ok (.if_icmp .ge 92, 3) := by decide +kernel
theorem dX8_leaveHome_12 : decode cX8_leaveHome 12 = .ok (.aload_n 0, 1) := by decide +kernel
theorem dX8_leaveHome_13 : decode cX8_leaveHome 13 = .ok (.iload_n 1, 1) := by decide +kernel
theorem dX8_leaveHome_14 : decode cX8_leaveHome 14 = .ok (.iconst 5, 1) := by decide +kernel
theorem dX8_leaveHome_15 : decode cX8_leaveHome 15 = .ok (.invokevirtual 91, 3) := by decide +kernel
theorem dX8_leaveHome_18 : decode cX8_leaveHome 18 = .ok (.ifCond .ne 77, 3) := by decide +kernel
theorem dX8_leaveHome_21 : decode cX8_leaveHome 21 = .ok (.aload_n 0, 1) := by decide +kernel
theorem dX8_leaveHome_22 : decode cX8_leaveHome 22 = .ok (.iload_n 1, 1) := by decide +kernel
theorem dX8_leaveHome_23 : decode cX8_leaveHome 23 = .ok (.iconst 4, 1) := by decide +kernel
theorem dX8_leaveHome_24 : decode cX8_leaveHome 24 = .ok (.invokevirtual 91, 3) := by decide +kernel
theorem dX8_leaveHome_27 : decode cX8_leaveHome 27 = .ok (.ifCond .le 32, 3) := by decide +kernel
theorem dX8_leaveHome_30 : decode cX8_leaveHome 30 = .ok (.aload_n 0, 1) := by decide +kernel
theorem dX8_leaveHome_31 : decode cX8_leaveHome 31 = .ok (.iload_n 1, 1) := by decide +kernel
theorem dX8_leaveHome_32 : decode cX8_leaveHome 32 = .ok (.invokevirtual 124, 3) := by decide +kernel
theorem dX8_leaveHome_35 : decode cX8_leaveHome 35 = .ok (.ifCond .eq 24, 3) := by decide +kernel
theorem dX8_leaveHome_38 : decode cX8_leaveHome 38 = .ok (.aload_n 0, 1) := by decide +kernel
theorem dX8_leaveHome_39 : decode cX8_leaveHome 39 = .ok (.invokevirtual 148, 3) := by decide +kernel
theorem dX8_leaveHome_42 : decode cX8_leaveHome 42 = .ok (.bipush 100, 2) := by decide +kernel
theorem dX8_leaveHome_44 : decode cX8_leaveHome 44 = .ok (.irem, 1) := by decide +kernel
theorem dX8_leaveHome_45 : decode cX8_leaveHome 45 = .ok (.aload_n 0, 1) := by decide +kernel
theorem dX8_leaveHome_46 : decode cX8_leaveHome 46 = .ok (.getfield 7, 3) := by decide +kernel
theorem dX8_leaveHome_49 : decode cX8_leaveHome 49 = .ok (.bipush 7, 2) := by decide +kernel
theorem dX8_leaveHome_51 : decode cX8_leaveHome 51 = .ok (.iaload, 1) := by decide +kernel
theorem dX8_leaveHome_52 : decode cX8_leaveHome 52 = .ok (.if_icmp .lt 7, 3) := by decide +kernel
theorem dX8_leaveHome_55 : decode cX8_leaveHome 55 = .ok (.iconst 1, 1) := by decide +kernel
theorem dX8_leaveHome_56 : decode cX8_leaveHome 56 = .ok (.goto 4, 3) := by decide +kernel
theorem dX8_leaveHome_59 : decode cX8_leaveHome 59 = .ok (.iconst 0, 1) := by decide +kernel
theorem dX8_leaveHome_60 : decode cX8_leaveHome 60 = .ok (.istore_n 2, 1) := by decide +kernel
theorem dX8_leaveHome_61 : decode cX8_leaveHome 61 = .ok (.iload_n 2, 1) := by decide +kernel
theorem dX8_leaveHome_62 : decode cX8_leaveHome 62 = .ok (.ifCond .eq 26, 3) := by decide +kernel
theorem dX8_leaveHome_65 : decode cX8_leaveHome 65 = .ok (.aload_n 0, 1) := by decide +kernel
theorem dX8_leaveHome_66 : decode cX8_leaveHome 66 = .ok (.iload_n 1, 1) := by decide +kernel
theorem dX8_leaveHome_67 : decode cX8_leaveHome 67 = .ok (.iconst 5, 1) := by decide +kernel
theorem dX8_leaveHome_68 : decode cX8_leaveHome 68 = .ok (.iconst 1, 1) := by decide +kernel
theorem dX8_leaveHome_69 : decode cX8_leaveHome 69 = .ok (.invokevirtual 151, 3) := by decide +kernel
theorem dX8_leaveHome_72 : decode cX8_leaveHome 72 = .ok (.aload_n 0, 1) := by decide +kernel
theorem dX8_leaveHome_73 : decode cX8_leaveHome 73 = .ok (.iload_n 1, 1) := by decide +kernel
theorem dX8_leaveHome_74 : decode cX8_leaveHome 74 = .ok (.bipush 6, 2) := by decide +kernel
theorem dX8_leaveHome_76 : decode cX8_leaveHome 76 = .ok (.aload_n 0, 1) := by decide +kernel
theorem dX8_leaveHome_77 : decode cX8_leaveHome 77 = .ok (.iload_n 1, 1) := by decide +kernel
theorem dX8_leaveHome_78 : decode cX8_leaveHome 78 = .ok (.iconst 2, 1) := by decide +kernel
theorem dX8_leaveHome_79 : decode cX8_leaveHome 79 = .ok (.invokevirtual 91, 3) := by decide +kernel
theorem dX8_leaveHome_82 : decode cX8_leaveHome 82 = .ok (.invokevirtual 151, 3) := by decide +kernel
theorem dX8_leaveHome_85 : decode cX8_leaveHome 85 = .ok (.goto 10, 3) := by decide +kernel
theorem dX8_leaveHome_88 : decode cX8_leaveHome 88 = .ok (.aload_n 0, 1) := by decide +kernel
theorem dX8_leaveHome_89 : decode cX8_leaveHome 89 = .ok (.iload_n 1, 1) := by decide +kernel
theorem dX8_leaveHome_90 : decode cX8_leaveHome 90 = .ok (.bipush 8, 2) := by decide +kernel
theorem dX8_leaveHome_92 : decode cX8_leaveHome 92 = .ok (.invokevirtual 155, 3) := by decide +kernel
theorem dX8_leaveHome_95 : decode cX8_leaveHome 95 = .ok (.iinc 1 1, 3) := by decide +kernel
theorem dX8_leaveHome_98 : decode cX8_leaveHome 98 = .ok (.goto (-96), 3) := by decide +kernel
theorem dX8_leaveHome_101 : decode cX8_leaveHome 101 = .ok (.return_, 1) := by decide +kernel
theorem dX8_comeThere_0 : decode cX8_comeThere 0 = .ok (.iconst 0, 1) := by decide +kernel
theorem dX8_comeThere_1 : decode cX8_comeThere 1 = .ok (.istore_n 1, 1) := by decide +kernel
theorem dX8_comeThere_2 : decode cX8_comeThere 2 = .ok (.iconst 0, 1) := by decide +kernel
theorem dX8_comeThere_3 : decode cX8_comeThere 3 = .ok (.istore_n 2, 1) := by decide +kernel
theorem dX8_comeThere_4 : decode cX8_comeThere 4 = .ok (.iload_n 2, 1) := by decide +kernel
theorem dX8_comeThere_5 : decode cX8_comeThere 5 = .ok (.aload_n 0, 1) := by decide +kernel
theorem dX8_comeThere_6 : decode cX8_comeThere 6 = .ok (.getfield 7, 3) := by decide +kernel
theorem dX8_comeThere_9 : decode cX8_comeThere 9 = .ok (.iconst 0, 1) := by decide +kernel
theorem dX8_comeThere_10 : decode cX8_comeThere 10 = .ok (.iaload, 1) := by decide +kernel
theorem dX8_comeThere_11 : decode cX8_comeThere 11 = .ok (.if_icmp .ge 52, 3) := by decide +kernel
theorem dX8_comeThere_14 : decode cX8_comeThere 14 = .ok (.aload_n 0, 1) := by decide +kernel
theorem dX8_comeThere_15 : decode cX8_comeThere 15 = .ok (.iload_n 2, 1) := by decide +kernel
theorem dX8_comeThere_16 : decode cX8_comeThere 16 = .ok (.iconst 5, 1) := by decide +kernel
theorem dX8_comeThere_17 : decode cX8_comeThere 17 = .ok (.invokevirtual 91, 3) := by decide +kernel
theorem dX8_comeThere_20 : decode cX8_comeThere 20 = .ok (.iconst 1, 1) := by decide +kernel
theorem dX8_comeThere_21 : decode cX8_comeThere 21 = .ok (.if_icmp .ne 36, 3) := by decide +kernel
theorem dX8_comeThere_24 : decode cX8_comeThere 24 = .ok (.aload_n 0, 1) := by decide +kernel
theorem dX8_comeThere_25 : decode cX8_comeThere 25 = .ok (.iload_n 2, 1) := by decide +kernel
theorem dX8_comeThere_26 : decode cX8_comeThere 26 = .ok (.bipush 6, 2) := by decide +kernel
theorem dX8_comeThere_28 : decode cX8_comeThere 28 = .ok (.aload_n 0, 1) := by decide +kernel
theorem dX8_comeThere_29 : decode cX8_comeThere 29 = .ok (.iload_n 2, 1) := by decide +kernel
theorem dX8_comeThere_30 : decode cX8_comeThere 30 = .ok (.bipush 6, 2) := by decide +kernel
theorem dX8_comeThere_32 : decode cX8_comeThere 32 = .ok (.invokevirtual 91, 3) := by decide +kernel
theorem dX8_comeThere_35 : decode cX8_comeThere 35 = .ok (.iconst 1, 1) := by decide +kernel
theorem dX8_comeThere_36 : decode cX8_comeThere 36 = .ok (.isub, 1) := by decide +kernel
theorem dX8_comeThere_37 : decode cX8_comeThere 37 = .ok (.invokevirtual 151, 3) := by decide +kernel
theorem dX8_comeThere_40 : decode cX8_comeThere 40 = .ok (.aload_n 0, 1) := by decide +kernel
theorem dX8_comeThere_41 : decode cX8_comeThere 41 = .ok (.iload_n 2, 1) := by decide +kernel
theorem dX8_comeThere_42 : decode cX8_comeThere 42 = .ok (.bipush 6, 2) := by decide +kernel
theorem dX8_comeThere_44 : decode cX8_comeThere 44 = .ok (.invokevirtual 91, 3) := by decide +kernel
theorem dX8_comeThere_47 : decode cX8_comeThere 47 = .ok (.ifCond .ne 10, 3) := by decide +kernel
theorem dX8_comeThere_50 : decode cX8_comeThere 50 = .ok (.aload_n 0, 1) := by decide +kernel
theorem dX8_comeThere_51 : decode cX8_comeThere 51 = .ok (.iload_n 2, 1) := by decide +kernel
theorem dX8_comeThere_52 : decode cX8_comeThere 52 = .ok (.invokevirtual 163, 3) := by decide +kernel
theorem dX8_comeThere_55 : decode cX8_comeThere 55 = .ok (.iconst 1, 1) := by decide +kernel
theorem dX8_comeThere_56 : decode cX8_comeThere 56 = .ok (.istore_n 1, 1) := by decide +kernel
theorem dX8_comeThere_57 : decode cX8_comeThere 57 = .ok (.iinc 2 1, 3) := by decide +kernel
theorem dX8_comeThere_60 : decode cX8_comeThere 60 = .ok (.goto (-56), 3) := by decide +kernel
theorem dX8_comeThere_63 : decode cX8_comeThere 63 = .ok (.iload_n 1, 1) := by decide +kernel
theorem dX8_comeThere_64 : decode cX8_comeThere 64 = .ok (.ireturn, 1) := by decide +kernel
theorem dX8_waitOrGo_0 : decode cX8_waitOrGo 0 = .ok (.iconst 0, 1) := by decide +kernel
theorem dX8_waitOrGo_1 : decode cX8_waitOrGo 1 = .ok (.istore_n 1, 1) := by decide +kernel
theorem dX8_waitOrGo_2 : decode cX8_waitOrGo 2 = .ok (.iload_n 1, 1) := by decide +kernel
theorem dX8_waitOrGo_3 : decode cX8_waitOrGo 3 = .ok (.aload_n 0, 1) := by decide +kernel
theorem dX8_waitOrGo_4 : decode cX8_waitOrGo 4 = .ok (.getfield 7, 3) := by decide +kernel
theorem dX8_waitOrGo_7 : decode cX8_waitOrGo 7 = .ok (.iconst 0, 1) := by decide +kernel
theorem dX8_waitOrGo_8 : decode cX8_waitOrGo 8 = .ok (.iaload, 1) := by decide +kernel
theorem dX8_waitOrGo_9 : decode cX8_waitOrGo 9 = .ok (.if_icmp .ge 115, 3) := by decide +kernel
theorem dX8_waitOrGo_12 : decode cX8_waitOrGo 12 = .ok (.aload_n 0, 1) := by decide +kernel
theorem dX8_waitOrGo_13 : decode cX8_waitOrGo 13 = .ok (.getfield 43, 3) := by decide +kernel
theorem dX8_waitOrGo_16 : decode cX8_waitOrGo 16 = .ok (.iload_n 1, 1) := by decide +kernel
theorem dX8_waitOrGo_17 : decode cX8_waitOrGo 17 = .ok (.iaload, 1) := by decide +kernel
theorem dX8_waitOrGo_18 : decode cX8_waitOrGo 18 = .ok (.iconst 2, 1) := by decide +kernel
theorem dX8_waitOrGo_19 : decode cX8_waitOrGo 19 = .ok (.if_icmp .ne 48, 3) := by decide +kernel
theorem dX8_waitOrGo_22 : decode cX8_waitOrGo 22 = .ok (.aload_n 0, 1) := by decide +kernel
theorem dX8_waitOrGo_23 : decode cX8_waitOrGo 23 = .ok (.iload_n 1, 1) := by decide +kernel
theorem dX8_waitOrGo_24 : decode cX8_waitOrGo 24 = .ok (.bipush 7, 2) := by decide +kernel
theorem dX8_waitOrGo_26 : decode cX8_waitOrGo 26 = .ok (.invokevirtual 155, 3) := by decide +kernel
theorem dX8_waitOrGo_29 : decode cX8_waitOrGo 29 = .ok (.aload_n 0, 1) := by decide +kernel
theorem dX8_waitOrGo_30 : decode cX8_waitOrGo 30 = .ok (.getfield 7, 3) := by decide +kernel
theorem dX8_waitOrGo_33 : decode cX8_waitOrGo 33 = .ok (.bipush 9, 2) := by decide +kernel
theorem dX8_waitOrGo_35 : decode cX8_waitOrGo 35 = .ok (.dup2, 1) := by decide +kernel
theorem dX8_waitOrGo_36 : decode cX8_waitOrGo 36 = .ok (.iaload, 1) := by decide +kernel
theorem dX8_waitOrGo_37 : decode cX8_waitOrGo 37 = .ok (.iconst 1, 1) := by decide +kernel
theorem dX8_waitOrGo_38 : decode cX8_waitOrGo 38 = .ok (.iadd, 1) := by decide +kernel
theorem dX8_waitOrGo_39 : decode cX8_waitOrGo 39 = .ok (.iastore, 1) := by decide +kernel
theorem dX8_waitOrGo_40 : decode cX8_waitOrGo 40 = .ok (.aload_n 0, 1) := by decide +kernel
theorem dX8_waitOrGo_41 : decode cX8_waitOrGo 41 = .ok (.iload_n 1, 1) := by decide +kernel
theorem dX8_waitOrGo_42 : decode cX8_waitOrGo 42 = .ok (.bipush 7, 2) := by decide +kernel
theorem dX8_waitOrGo_44 : decode cX8_waitOrGo 44 = .ok (.invokevirtual 91, 3) := by decide +kernel
theorem dX8_waitOrGo_47 : decode cX8_waitOrGo 47 = .ok (.aload_n 0, 1) := by decide +kernel
theorem dX8_waitOrGo_48 : decode cX8_waitOrGo 48 = .ok (.iload_n 1, 1) := by decide +kernel
theorem dX8_waitOrGo_49 : decode cX8_waitOrGo 49 = .ok (.invokevirtual 121, 3) := by decide +kernel
theorem dX8_waitOrGo_52 : decode cX8_waitOrGo 52 = .ok (.if_icmp .lt 15, 3) := by decide +kernel
theorem dX8_waitOrGo_55 : decode cX8_waitOrGo 55 = .ok (.aload_n 0, 1) := by decide +kernel
theorem dX8_waitOrGo_56 : decode cX8_waitOrGo 56 = .ok (.iload_n 1, 1) := by decide +kernel
theorem dX8_waitOrGo_57 : decode cX8_waitOrGo 57 = .ok (.invokevirtual 159, 3) := by decide +kernel
theorem dX8_waitOrGo_60 : decode cX8_waitOrGo 60 = .ok (.aload_n 0, 1) := by decide +kernel
theorem dX8_waitOrGo_61 : decode cX8_waitOrGo 61 = .ok (.iload_n 1, 1) := by decide +kernel
theorem dX8_waitOrGo_62 : decode cX8_waitOrGo 62 = .ok (.bipush 10, 2) := by decide +kernel
theorem dX8_waitOrGo_64 : decode cX8_waitOrGo 64 = .ok (.invokevirtual 155, 3) := by decide +kernel
theorem dX8_waitOrGo_67 : decode cX8_waitOrGo 67 = .ok (.aload_n 0, 1) := by decide +kernel
theorem dX8_waitOrGo_68 : decode cX8_waitOrGo 68 = .ok (.getfield 43, 3) := by decide +kernel
theorem dX8_waitOrGo_71 : decode cX8_waitOrGo 71 = .ok (.iload_n 1, 1) := by decide +kernel
theorem dX8_waitOrGo_72 : decode cX8_waitOrGo 72 = .ok (.iaload, 1) := by decide +kernel
theorem dX8_waitOrGo_73 : decode cX8_waitOrGo 73 = .ok (.iconst 3, 1) := by decide +kernel
theorem dX8_waitOrGo_74 : decode cX8_waitOrGo 74 = .ok (.if_icmp .ne 44, 3) := by decide +kernel
theorem dX8_waitOrGo_77 : decode cX8_waitOrGo 77 = .ok (.aload_n 0, 1) := by decide +kernel
theorem dX8_waitOrGo_78 : decode cX8_waitOrGo 78 = .ok (.iload_n 1, 1) := by decide +kernel
theorem dX8_waitOrGo_79 : decode cX8_waitOrGo 79 = .ok (.bipush 6, 2) := by decide +kernel
theorem dX8_waitOrGo_81 : decode cX8_waitOrGo 81 = .ok (.aload_n 0, 1) := by decide +kernel
theorem dX8_waitOrGo_82 : decode cX8_waitOrGo 82 = .ok (.iload_n 1, 1) := by decide +kernel
theorem dX8_waitOrGo_83 : decode cX8_waitOrGo 83 = .ok (.bipush 6, 2) := by decide +kernel
theorem dX8_waitOrGo_85 : decode cX8_waitOrGo 85 = .ok (.invokevirtual 91, 3) := by decide +kernel
theorem dX8_waitOrGo_88 : decode cX8_waitOrGo 88 = .ok (.iconst 1, 1) := by decide +kernel
theorem dX8_waitOrGo_89 : decode cX8_waitOrGo 89 = .ok (.isub, 1) := by decide +kernel
theorem dX8_waitOrGo_90 : decode cX8_waitOrGo 90 = .ok (.invokevirtual 151, 3) := by decide +kernel
theorem dX8_waitOrGo_93 : decode cX8_waitOrGo 93 = .ok (.aload_n 0, 1) := by decide +kernel
theorem dX8_waitOrGo_94 : decode cX8_waitOrGo 94 = .ok (.iload_n 1, 1) := by decide +kernel
theorem dX8_waitOrGo_95 : decode cX8_waitOrGo 95 = .ok (.bipush 6, 2) := by decide +kernel
theorem dX8_waitOrGo_97 : decode cX8_waitOrGo 97 = .ok (.invokevirtual 91, 3) := by decide +kernel
theorem dX8_waitOrGo_100 : decode cX8_waitOrGo 100 = .ok (.ifCond .ne 18, 3) := by decide +kernel
theorem dX8_waitOrGo_103 : decode cX8_waitOrGo 103 = .ok (.aload_n 0, 1) := by decide +kernel
theorem dX8_waitOrGo_104 : decode cX8_waitOrGo 104 = .ok (.iload_n 1, 1) := by decide +kernel
theorem dX8_waitOrGo_105 : decode cX8_waitOrGo 105 = .ok (.iconst 5, 1) := by decide +kernel
theorem dX8_waitOrGo_106 : decode cX8_waitOrGo 106 = .ok (.iconst 0, 1) := by decide +kernel
theorem dX8_waitOrGo_107 : decode cX8_waitOrGo 107 = .ok (.invokevirtual 151, 3) := by decide +kernel
theorem dX8_waitOrGo_110 : decode cX8_waitOrGo 110 = .ok (.aload_n 0, 1) := by decide +kernel
theorem dX8_waitOrGo_111 : decode cX8_waitOrGo 111 = .ok (.iload_n 1, 1) := by decide +kernel
theorem dX8_waitOrGo_112 : decode cX8_waitOrGo 112 = .ok (.bipush 8, 2) := by decide +kernel
theorem dX8_waitOrGo_114 : decode cX8_waitOrGo 114 = .ok (.iconst 0, 1) := by decide +kernel
theorem dX8_waitOrGo_115 : decode cX8_waitOrGo 115 = .ok (.invokevirtual 151, 3) := by decide +kernel
theorem dX8_waitOrGo_118 : decode cX8_waitOrGo 118 = .ok (.iinc 1 1, 3) := by decide +kernel
theorem dX8_waitOrGo_121 : decode cX8_waitOrGo 121 = .ok (.goto (-119), 3) := by decide +kernel
theorem dX8_waitOrGo_124 : decode cX8_waitOrGo 124 = .ok (.return_, 1) := by decide +kernel
theorem dX8_goesOn_0 : decode cX8_goesOn 0 = .ok (.iconst 0, 1) := by decide +kernel
theorem dX8_goesOn_1 : decode cX8_goesOn 1 = .ok (.istore_n 1, 1) := by decide +kernel
theorem dX8_goesOn_2 : decode cX8_goesOn 2 = .ok (.iload_n 1, 1) := by decide +kernel
theorem dX8_goesOn_3 : decode cX8_goesOn 3 = .ok (.aload_n 0, 1) := by decide +kernel
theorem dX8_goesOn_4 : decode cX8_goesOn 4 = .ok (.getfield 7, 3) := by decide +kernel
theorem dX8_goesOn_7 : decode cX8_goesOn 7 = .ok (.iconst 0, 1) := by decide +kernel
theorem dX8_goesOn_8 : decode cX8_goesOn 8 = .ok (.iaload, 1) := by decide +kernel
theorem dX8_goesOn_9 : decode cX8_goesOn 9 = .ok (.if_icmp .ge 21, 3) := by decide +kernel
theorem dX8_goesOn_12 : decode cX8_goesOn 12 = .ok (.aload_n 0, 1) := by decide +kernel
theorem dX8_goesOn_13 : decode cX8_goesOn 13 = .ok (.getfield 43, 3) := by decide +kernel
theorem dX8_goesOn_16 : decode cX8_goesOn 16 = .ok (.iload_n 1, 1) := by decide +kernel
theorem dX8_goesOn_17 : decode cX8_goesOn 17 = .ok (.aload_n 0, 1) := by decide +kernel
theorem dX8_goesOn_18 : decode cX8_goesOn 18 = .ok (.iload_n 1, 1) := by decide +kernel
theorem dX8_goesOn_19 : decode cX8_goesOn 19 = .ok (.iconst 5, 1) := by decide +kernel
theorem dX8_goesOn_20 : decode cX8_goesOn 20 = .ok (.invokevirtual 91, 3) := by decide +kernel
theorem dX8_goesOn_23 : decode cX8_goesOn 23 = .ok (.iastore, 1) := by decide +kernel
theorem dX8_goesOn_24 : decode cX8_goesOn 24 = .ok (.iinc 1 1, 3) := by decide +kernel
theorem dX8_goesOn_27 : decode cX8_goesOn 27 = .ok (.goto (-25), 3) := by decide +kernel
theorem dX8_goesOn_30 : decode cX8_goesOn 30 = .ok (.aload_n 0, 1) := by decide +kernel
theorem dX8_goesOn_31 : decode cX8_goesOn 31 = .ok (.invokevirtual 166, 3) := by decide +kernel
theorem dX8_goesOn_34 : decode cX8_goesOn 34 = .ok (.aload_n 0, 1) := by decide +kernel
theorem dX8_goesOn_35 : decode cX8_goesOn 35 = .ok (.invokevirtual 169, 3) := by decide +kernel
theorem dX8_goesOn_38 : decode cX8_goesOn 38 = .ok (.istore_n 1, 1) := by decide +kernel
theorem dX8_goesOn_39 : decode cX8_goesOn 39 = .ok (.aload_n 0, 1) := by decide +kernel
theorem dX8_goesOn_40 : decode cX8_goesOn 40 = .ok (.invokevirtual 173, 3) := by decide +kernel
theorem dX8_goesOn_43 : decode cX8_goesOn 43 = .ok (.aload_n 0, 1) := by decide +kernel
theorem dX8_goesOn_44 : decode cX8_goesOn 44 = .ok (.invokevirtual 106, 3) := by decide +kernel
theorem dX8_goesOn_47 : decode cX8_goesOn 47 = .ok (.ifCond .le 7, 3) := by decide +kernel
theorem dX8_goesOn_50 : decode cX8_goesOn 50 = .ok (.iconst 1, 1) := by decide +kernel
theorem dX8_goesOn_51 : decode cX8_goesOn 51 = .ok (.goto 4, 3) := by decide +kernel
theorem dX8_goesOn_54 : decode cX8_goesOn 54 = .ok (.iconst 0, 1) := by decide +kernel
theorem dX8_goesOn_55 : decode cX8_goesOn 55 = .ok (.istore_n 2, 1) := by decide +kernel
theorem dX8_goesOn_56 : decode cX8_goesOn 56 = .ok (.aload_n 0, 1) := by decide +kernel
theorem dX8_goesOn_57 : decode cX8_goesOn 57 = .ok (.dup, 1) := by decide +kernel
theorem dX8_goesOn_58 : decode cX8_goesOn 58 = .ok (.getfield 176, 3) := by decide +kernel
theorem dX8_goesOn_61 : decode cX8_goesOn 61 = .ok (.iload_n 2, 1) := by decide +kernel
theorem dX8_goesOn_62 : decode cX8_goesOn 62 = .ok (.ifCond .eq 7, 3) := by decide +kernel
theorem dX8_goesOn_65 : decode cX8_goesOn 65 = .ok (.iconst 1, 1) := by decide +kernel
theorem dX8_goesOn_66 : decode cX8_goesOn 66 = .ok (.goto 4, 3) := by decide +kernel
theorem dX8_goesOn_69 : decode cX8_goesOn 69 = .ok (.iconst 0, 1) := by decide +kernel
theorem dX8_goesOn_70 : decode cX8_goesOn 70 = .ok (.iadd, 1) := by decide +kernel
theorem dX8_goesOn_71 : decode cX8_goesOn 71 = .ok (.putfield 176, 3) := by decide +kernel
theorem dX8_goesOn_74 : decode cX8_goesOn 74 = .ok (.aload_n 0, 1) := by decide +kernel
theorem dX8_goesOn_75 : decode cX8_goesOn 75 = .ok (.getfield 7, 3) := by decide +kernel
theorem dX8_goesOn_78 : decode cX8_goesOn 78 = .ok (.bipush 8, 2) := by decide +kernel
theorem dX8_goesOn_80 : decode cX8_goesOn 80 = .ok (.iload_n 1, 1) := by decide +kernel
theorem dX8_goesOn_81 : decode cX8_goesOn 81 = .ok (.ifCond .ne 7, 3) := by decide +kernel
theorem dX8_goesOn_84 : decode cX8_goesOn 84 = .ok (.iload_n 2, 1) := by decide +kernel
theorem dX8_goesOn_85 : decode cX8_goesOn 85 = .ok (.ifCond .eq 7, 3) := by decide +kernel
theorem dX8_goesOn_88 : decode cX8_goesOn 88 = .ok (.iconst 0, 1) := by decide +kernel
theorem dX8_goesOn_89 : decode cX8_goesOn 89 = .ok (.goto 12, 3) := by decide +kernel
theorem dX8_goesOn_92 : decode cX8_goesOn 92 = .ok (.aload_n 0, 1) := by decide +kernel
theorem dX8_goesOn_93 : decode cX8_goesOn 93 = .ok (.getfield 7, 3) := by decide +kernel
theorem dX8_goesOn_96 : decode cX8_goesOn 96 = .ok (.bipush 8, 2) := by decide +kernel
theorem dX8_goesOn_98 : decode cX8_goesOn 98 = .ok (.iaload, 1) := by decide +kernel
theorem dX8_goesOn_99 : decode cX8_goesOn 99 = .ok (.iconst 1, 1) := by decide +kernel
theorem dX8_goesOn_100 : decode cX8_goesOn 100 = .ok (.iadd, 1) := by decide +kernel
theorem dX8_goesOn_101 : decode cX8_goesOn 101 = .ok (.iastore, 1) := by decide +kernel
theorem dX8_goesOn_102 : decode cX8_goesOn 102 = .ok (.iload_n 1, 1) := by decide +kernel
theorem dX8_goesOn_103 : decode cX8_goesOn 103 = .ok (.ifCond .ne 60, 3) := by decide +kernel
theorem dX8_goesOn_106 : decode cX8_goesOn 106 = .ok (.iload_n 2, 1) := by decide +kernel
theorem dX8_goesOn_107 : decode cX8_goesOn 107 = .ok (.ifCond .ne 56, 3) := by decide +kernel
theorem dX8_goesOn_110 : decode cX8_goesOn 110 = .ok (.aload_n 0, 1) := by decide +kernel
theorem dX8_goesOn_111 : decode cX8_goesOn 111 = .ok (.getfield 7, 3) := by decide +kernel
theorem dX8_goesOn_114 : decode cX8_goesOn 114 = .ok (.bipush 8, 2) := by decide +kernel
theorem dX8_goesOn_116 : decode cX8_goesOn 116 = .ok (.iaload, 1) := by decide +kernel
theorem dX8_goesOn_117 : decode cX8_goesOn 117 = .ok (.aload_n 0, 1) := by decide +kernel
theorem dX8_goesOn_118 : decode cX8_goesOn 118 = .ok (.getfield 7, 3) := by decide +kernel
theorem dX8_goesOn_121 : decode cX8_goesOn 121 = .ok (.iconst 3, 1) := by decide +kernel
theorem dX8_goesOn_122 : decode cX8_goesOn 122 = .ok (.iaload, 1) := by decide +kernel
theorem dX8_goesOn_123 : decode cX8_goesOn 123 = .ok (.if_icmp .lt 40, 3) := by decide +kernel
theorem dX8_goesOn_126 : decode cX8_goesOn 126 = .ok (.aload_n 0, 1) := by decide +kernel
theorem dX8_goesOn_127 : decode cX8_goesOn 127 = .ok (.getfield 7, 3) := by decide +kernel
theorem dX8_goesOn_130 : decode cX8_goesOn 130 = .ok (.bipush 8, 2) := by decide +kernel
theorem dX8_goesOn_132 : decode cX8_goesOn 132 = .ok (.iconst 0, 1) := by decide +kernel
theorem dX8_goesOn_133 : decode cX8_goesOn 133 = .ok (.iastore, 1) := by decide +kernel
theorem dX8_goesOn_134 : decode cX8_goesOn 134 = .ok (.aload_n 0, 1) := by decide +kernel
theorem dX8_goesOn_135 : decode cX8_goesOn 135 = .ok (.getfield 7, 3) := by decide +kernel
theorem dX8_goesOn_138 : decode cX8_goesOn 138 = .ok (.iconst 5, 1) := by decide +kernel
theorem dX8_goesOn_139 : decode cX8_goesOn 139 = .ok (.dup2, 1) := by decide +kernel
theorem dX8_goesOn_140 : decode cX8_goesOn 140 = .ok (.iaload, 1) := by decide +kernel
theorem dX8_goesOn_141 : decode cX8_goesOn 141 = .ok (.aload_n 0, 1) := by decide +kernel
theorem dX8_goesOn_142 : decode cX8_goesOn 142 = .ok (.getfield 7, 3) := by decide +kernel
theorem dX8_goesOn_145 : decode cX8_goesOn 145 = .ok (.iconst 5, 1) := by decide +kernel
theorem dX8_goesOn_146 : decode cX8_goesOn 146 = .ok (.iaload, 1) := by decide +kernel
theorem dX8_goesOn_147 : decode cX8_goesOn 147 = .ok (.aload_n 0, 1) := by decide +kernel
theorem dX8_goesOn_148 : decode cX8_goesOn 148 = .ok (.getfield 7, 3) := by decide +kernel
theorem dX8_goesOn_151 : decode cX8_goesOn 151 = .ok (.iconst 4, 1) := by decide +kernel
theorem dX8_goesOn_152 : decode cX8_goesOn 152 = .ok (.iaload, 1) := by decide +kernel
theorem dX8_goesOn_153 : decode cX8_goesOn 153 = .ok (.if_icmp .ge 7, 3) := by decide +kernel
theorem dX8_goesOn_156 : decode cX8_goesOn 156 = .ok (.iconst 1, 1) := by decide +kernel
theorem dX8_goesOn_157 : decode cX8_goesOn 157 = .ok (.goto 4, 3) := by decide +kernel
theorem dX8_goesOn_160 : decode cX8_goesOn 160 = .ok (.iconst 0, 1) := by decide +kernel
theorem dX8_goesOn_161 : decode cX8_goesOn 161 = .ok (.iadd, 1) := by decide +kernel
theorem dX8_goesOn_162 : decode cX8_goesOn 162 = .ok (.iastore, 1) := by decide +kernel
theorem dX8_goesOn_163 : decode cX8_goesOn 163 = .ok (.aload_n 0, 1) := by decide +kernel
theorem dX8_goesOn_164 : decode cX8_goesOn 164 = .ok (.getfield 7, 3) := by decide +kernel
theorem dX8_goesOn_167 : decode cX8_goesOn 167 = .ok (.iconst 2, 1) := by decide +kernel
theorem dX8_goesOn_168 : decode cX8_goesOn 168 = .ok (.dup2, 1) := by decide +kernel
theorem dX8_goesOn_169 : decode cX8_goesOn 169 = .ok (.iaload, 1) := by decide +kernel
theorem dX8_goesOn_170 : decode cX8_goesOn 170 = .ok (.iconst 1, 1) := by decide +kernel
theorem dX8_goesOn_171 : decode cX8_goesOn 171 = .ok (.iadd, 1) := by decide +kernel
theorem dX8_goesOn_172 : decode cX8_goesOn 172 = .ok (.iastore, 1) := by decide +kernel
theorem dX8_goesOn_173 : decode cX8_goesOn 173 = .ok (.iconst 0, 1) := by decide +kernel
theorem dX8_goesOn_174 : decode cX8_goesOn 174 = .ok (.istore_n 3, 1) := by decide +kernel
theorem dX8_goesOn_175 : decode cX8_goesOn 175 = .ok (.iload_n 3, 1) := by decide +kernel
theorem dX8_goesOn_176 : decode cX8_goesOn 176 = .ok (.aload_n 0, 1) := by decide +kernel
theorem dX8_goesOn_177 : decode cX8_goesOn 177 = .ok (.getfield 7, 3) := by decide +kernel
theorem dX8_goesOn_180 : decode cX8_goesOn 180 = .ok (.iconst 0, 1) := by decide +kernel
theorem dX8_goesOn_181 : decode cX8_goesOn 181 = .ok (.iaload, 1) := by decide +kernel
theorem dX8_goesOn_182 : decode cX8_goesOn 182 = .ok (.if_icmp .ge 53, 3) := by decide +kernel
theorem dX8_goesOn_185 : decode cX8_goesOn 185 = .ok (.aload_n 0, 1) := by decide +kernel
theorem dX8_goesOn_186 : decode cX8_goesOn 186 = .ok (.getfield 7, 3) := by decide +kernel
theorem dX8_goesOn_189 : decode cX8_goesOn 189 = .ok (.iconst 2, 1) := by decide +kernel
theorem dX8_goesOn_190 : decode cX8_goesOn 190 = .ok (.iaload, 1) := by decide +kernel
theorem dX8_goesOn_191 : decode cX8_goesOn 191 = .ok (.sipush 1440, 3) := by decide +kernel
theorem dX8_goesOn_194 : decode cX8_goesOn 194 = .ok (.irem, 1) := by decide +kernel
theorem dX8_goesOn_195 : decode cX8_goesOn 195 = .ok (.ifCond .ne 40, 3) := by decide +kernel
theorem dX8_goesOn_198 : decode cX8_goesOn 198 = .ok (.aload_n 0, 1) := by decide +kernel
theorem dX8_goesOn_199 : decode cX8_goesOn 199 = .ok (.iload_n 3, 1) := by decide +kernel
theorem dX8_goesOn_200 : decode cX8_goesOn 200 = .ok (.iconst 4, 1) := by decide +kernel
theorem dX8_goesOn_201 : decode cX8_goesOn 201 = .ok (.aload_n 0, 1) := by decide +kernel
theorem dX8_goesOn_202 : decode cX8_goesOn 202 = .ok (.getfield 46, 3) := by decide +kernel
theorem dX8_goesOn_205 : decode cX8_goesOn 205 = .ok (.ifCond .lt 15, 3) := by decide +kernel
theorem dX8_goesOn_208 : decode cX8_goesOn 208 = .ok (.aload_n 0, 1) := by decide +kernel
theorem dX8_goesOn_209 : decode cX8_goesOn 209 = .ok (.getfield 46, 3) := by decide +kernel
theorem dX8_goesOn_212 : decode cX8_goesOn 212 = .ok (.iload_n 3, 1) := by decide +kernel
theorem dX8_goesOn_213 : decode cX8_goesOn 213 = .ok (.if_icmp .eq 7, 3) := by decide +kernel
theorem dX8_goesOn_216 : decode cX8_goesOn 216 = .ok (.iconst 0, 1) := by decide +kernel
theorem dX8_goesOn_217 : decode cX8_goesOn 217 = .ok (.goto 9, 3) := by decide +kernel
theorem dX8_goesOn_220 : decode cX8_goesOn 220 = .ok (.aload_n 0, 1) := by decide +kernel
theorem dX8_goesOn_221 : decode cX8_goesOn 221 = .ok (.iload_n 3, 1) := by decide +kernel
theorem dX8_goesOn_222 : decode cX8_goesOn 222 = .ok (.iconst 3, 1) := by decide +kernel
theorem dX8_goesOn_223 : decode cX8_goesOn 223 = .ok (.invokevirtual 91, 3) := by decide +kernel
theorem dX8_goesOn_226 : decode cX8_goesOn 226 = .ok (.invokevirtual 151, 3) := by decide +kernel
theorem dX8_goesOn_229 : decode cX8_goesOn 229 = .ok (.iinc 3 1, 3) := by decide +kernel
theorem dX8_goesOn_232 : decode cX8_goesOn 232 = .ok (.goto (-57), 3) := by decide +kernel
theorem dX8_goesOn_235 : decode cX8_goesOn 235 = .ok (.return_, 1) := by decide +kernel
theorem dX8_ofAll_0 : decode cX8_ofAll 0 = .ok (.iconst 0, 1) := by decide +kernel
theorem dX8_ofAll_1 : decode cX8_ofAll 1 = .ok (.istore_n 2, 1) := by decide +kernel
theorem dX8_ofAll_2 : decode cX8_ofAll 2 = .ok (.iconst 0, 1) := by decide +kernel
theorem dX8_ofAll_3 : decode cX8_ofAll 3 = .ok (.istore_n 3, 1) := by decide +kernel
theorem dX8_ofAll_4 : decode cX8_ofAll 4 = .ok (.iload_n 3, 1) := by decide +kernel
theorem dX8_ofAll_5 : decode cX8_ofAll 5 = .ok (.aload_n 0, 1) := by decide +kernel
theorem dX8_ofAll_6 : decode cX8_ofAll 6 = .ok (.getfield 7, 3) := by decide +kernel
theorem dX8_ofAll_9 : decode cX8_ofAll 9 = .ok (.iconst 0, 1) := by decide +kernel
theorem dX8_ofAll_10 : decode cX8_ofAll 10 = .ok (.iaload, 1) := by decide +kernel
theorem dX8_ofAll_11 : decode cX8_ofAll 11 = .ok (.if_icmp .ge 18, 3) := by decide +kernel
theorem dX8_ofAll_14 : decode cX8_ofAll 14 = .ok (.iload_n 2, 1) := by decide +kernel
theorem dX8_ofAll_15 : decode cX8_ofAll 15 = .ok (.aload_n 0, 1) := by decide +kernel
theorem dX8_ofAll_16 : decode cX8_ofAll 16 = .ok (.iload_n 3, 1) := by decide +kernel
theorem dX8_ofAll_17 : decode cX8_ofAll 17 = .ok (.iload_n 1, 1) := by decide +kernel
theorem dX8_ofAll_18 : decode cX8_ofAll 18 = .ok (.invokevirtual 91, 3) := by decide +kernel
theorem dX8_ofAll_21 : decode cX8_ofAll 21 = .ok (.iadd, 1) := by decide +kernel
theorem dX8_ofAll_22 : decode cX8_ofAll 22 = .ok (.istore_n 2, 1) := by decide +kernel
theorem dX8_ofAll_23 : decode cX8_ofAll 23 = .ok (.iinc 3 1, 3) := by decide +kernel
theorem dX8_ofAll_26 : decode cX8_ofAll 26 = .ok (.goto (-22), 3) := by decide +kernel
theorem dX8_ofAll_29 : decode cX8_ofAll 29 = .ok (.iload_n 2, 1) := by decide +kernel
theorem dX8_ofAll_30 : decode cX8_ofAll 30 = .ok (.ireturn, 1) := by decide +kernel
theorem dX8_run_0 : decode cX8_run 0 = .ok (.iload_n 1, 1) := by decide +kernel
theorem dX8_run_1 : decode cX8_run 1 = .ok (.i2l, 1) := by decide +kernel
theorem dX8_run_2 : decode cX8_run 2 = .ok (.lconst 1, 1) := by decide +kernel
theorem dX8_run_3 : decode cX8_run 3 = .ok (.ldc2_w 179, 3) := by decide +kernel
theorem dX8_run_6 : decode cX8_run 6 = .ok (.invokestatic 72, 3) := by decide +kernel
theorem dX8_run_9 : decode cX8_run 9 = .ok (.ifCond .ne 6, 3) := by decide +kernel
theorem dX8_run_12 : decode cX8_run 12 = .ok (.ldc 85, 2) := by decide +kernel
theorem dX8_run_14 : decode cX8_run 14 = .ok (.ireturn, 1) := by decide +kernel
theorem dX8_run_15 : decode cX8_run 15 = .ok (.iconst 0, 1) := by decide +kernel
theorem dX8_run_16 : decode cX8_run 16 = .ok (.istore_n 2, 1) := by decide +kernel
theorem dX8_run_17 : decode cX8_run 17 = .ok (.iload_n 2, 1) := by decide +kernel
theorem dX8_run_18 : decode cX8_run 18 = .ok (.iload_n 1, 1) := by decide +kernel
theorem dX8_run_19 : decode cX8_run 19 = .ok (.if_icmp .ge 24, 3) := by decide +kernel
theorem dX8_run_22 : decode cX8_run 22 = .ok (.aload_n 0, 1) := by decide +kernel
theorem dX8_run_23 : decode cX8_run 23 = .ok (.getfield 7, 3) := by decide +kernel
theorem dX8_run_26 : decode cX8_run 26 = .ok (.iconst 2, 1) := by decide +kernel
theorem dX8_run_27 : decode cX8_run 27 = .ok (.iaload, 1) := by decide +kernel
theorem dX8_run_28 : decode cX8_run 28 = .ok (.ldc 181, 2) := by decide +kernel
theorem dX8_run_30 : decode cX8_run 30 = .ok (.if_icmp .ge 13, 3) := by decide +kernel
theorem dX8_run_33 : decode cX8_run 33 = .ok (.aload_n 0, 1) := by decide +kernel
theorem dX8_run_34 : decode cX8_run 34 = .ok (.invokevirtual 182, 3) := by decide +kernel
theorem dX8_run_37 : decode cX8_run 37 = .ok (.iinc 2 1, 3) := by decide +kernel
theorem dX8_run_40 : decode cX8_run 40 = .ok (.goto (-23), 3) := by decide +kernel
theorem dX8_run_43 : decode cX8_run 43 = .ok (.aload_n 0, 1) := by decide +kernel
theorem dX8_run_44 : decode cX8_run 44 = .ok (.bipush 9, 2) := by decide +kernel
theorem dX8_run_46 : decode cX8_run 46 = .ok (.invokevirtual 185, 3) := by decide +kernel
theorem dX8_run_49 : decode cX8_run 49 = .ok (.ireturn, 1) := by decide +kernel
theorem dX8_laysBy_0 : decode cX8_laysBy 0 = .ok (.iconst 0, 1) := by decide +kernel
theorem dX8_laysBy_1 : decode cX8_laysBy 1 = .ok (.istore_n 1, 1) := by decide +kernel
theorem dX8_laysBy_2 : decode cX8_laysBy 2 = .ok (.iload_n 1, 1) := by decide +kernel
theorem dX8_laysBy_3 : decode cX8_laysBy 3 = .ok (.bipush 108, 2) := by decide +kernel
theorem dX8_laysBy_5 : decode cX8_laysBy 5 = .ok (.if_icmp .ge 21, 3) := by decide +kernel
theorem dX8_laysBy_8 : decode cX8_laysBy 8 = .ok (.aload_n 0, 1) := by decide +kernel
theorem dX8_laysBy_9 : decode cX8_laysBy 9 = .ok (.getfield 50, 3) := by decide +kernel
theorem dX8_laysBy_12 : decode cX8_laysBy 12 = .ok (.iload_n 1, 1) := by decide +kernel
theorem dX8_laysBy_13 : decode cX8_laysBy 13 = .ok (.aload_n 0, 1) := by decide +kernel
theorem dX8_laysBy_14 : decode cX8_laysBy 14 = .ok (.getfield 7, 3) := by decide +kernel
theorem dX8_laysBy_17 : decode cX8_laysBy 17 = .ok (.iload_n 1, 1) := by decide +kernel
theorem dX8_laysBy_18 : decode cX8_laysBy 18 = .ok (.iaload, 1) := by decide +kernel
theorem dX8_laysBy_19 : decode cX8_laysBy 19 = .ok (.iastore, 1) := by decide +kernel
theorem dX8_laysBy_20 : decode cX8_laysBy 20 = .ok (.iinc 1 1, 3) := by decide +kernel
theorem dX8_laysBy_23 : decode cX8_laysBy 23 = .ok (.goto (-21), 3) := by decide +kernel
theorem dX8_laysBy_26 : decode cX8_laysBy 26 = .ok (.return_, 1) := by decide +kernel
theorem dX8_laysBack_0 : decode cX8_laysBack 0 = .ok (.iconst 0, 1) := by decide +kernel
theorem dX8_laysBack_1 : decode cX8_laysBack 1 = .ok (.istore_n 1, 1) := by decide +kernel
theorem dX8_laysBack_2 : decode cX8_laysBack 2 = .ok (.iload_n 1, 1) := by decide +kernel
theorem dX8_laysBack_3 : decode cX8_laysBack 3 = .ok (.bipush 108, 2) := by decide +kernel
theorem dX8_laysBack_5 : decode cX8_laysBack 5 = .ok (.if_icmp .ge 21, 3) := by decide +kernel
theorem dX8_laysBack_8 : decode cX8_laysBack 8 = .ok (.aload_n 0, 1) := by decide +kernel
theorem dX8_laysBack_9 : decode cX8_laysBack 9 = .ok (.getfield 7, 3) := by decide +kernel
theorem dX8_laysBack_12 : decode cX8_laysBack 12 = .ok (.iload_n 1, 1) := by decide +kernel
theorem dX8_laysBack_13 : decode cX8_laysBack 13 = .ok (.aload_n 0, 1) := by decide +kernel
theorem dX8_laysBack_14 : decode cX8_laysBack 14 = .ok (.getfield 50, 3) := by decide +kernel
theorem dX8_laysBack_17 : decode cX8_laysBack 17 = .ok (.iload_n 1, 1) := by decide +kernel
theorem dX8_laysBack_18 : decode cX8_laysBack 18 = .ok (.iaload, 1) := by decide +kernel
theorem dX8_laysBack_19 : decode cX8_laysBack 19 = .ok (.iastore, 1) := by decide +kernel
theorem dX8_laysBack_20 : decode cX8_laysBack 20 = .ok (.iinc 1 1, 3) := by decide +kernel
theorem dX8_laysBack_23 : decode cX8_laysBack 23 = .ok (.goto (-21), 3) := by decide +kernel
theorem dX8_laysBack_26 : decode cX8_laysBack 26 = .ok (.return_, 1) := by decide +kernel
theorem dX8_goesOnMany_0 : decode cX8_goesOnMany 0 = .ok (.iconst 0, 1) := by decide +kernel
theorem dX8_goesOnMany_1 : decode cX8_goesOnMany 1 = .ok (.istore_n 2, 1) := by decide +kernel
theorem dX8_goesOnMany_2 : decode cX8_goesOnMany 2 = .ok (.iload_n 2, 1) := by decide +kernel
theorem dX8_goesOnMany_3 : decode cX8_goesOnMany 3 = .ok (.iload_n 1, 1) := by decide +kernel
theorem dX8_goesOnMany_4 : decode cX8_goesOnMany 4 = .ok (.if_icmp .ge 13, 3) := by decide +kernel
theorem dX8_goesOnMany_7 : decode cX8_goesOnMany 7 = .ok (.aload_n 0, 1) := by decide +kernel
theorem dX8_goesOnMany_8 : decode cX8_goesOnMany 8 = .ok (.invokevirtual 182, 3) := by decide +kernel
theorem dX8_goesOnMany_11 : decode cX8_goesOnMany 11 = .ok (.iinc 2 1, 3) := by decide +kernel
theorem dX8_goesOnMany_14 : decode cX8_goesOnMany 14 = .ok (.goto (-12), 3) := by decide +kernel
theorem dX8_goesOnMany_17 : decode cX8_goesOnMany 17 = .ok (.return_, 1) := by decide +kernel
theorem dX8_behind_0 : decode cX8_behind 0 = .ok (.iload_n 1, 1) := by decide +kernel
theorem dX8_behind_1 : decode cX8_behind 1 = .ok (.i2l, 1) := by decide +kernel
theorem dX8_behind_2 : decode cX8_behind 2 = .ok (.lconst 0, 1) := by decide +kernel
theorem dX8_behind_3 : decode cX8_behind 3 = .ok (.ldc2_w 179, 3) := by decide +kernel
theorem dX8_behind_6 : decode cX8_behind 6 = .ok (.invokestatic 72, 3) := by decide +kernel
theorem dX8_behind_9 : decode cX8_behind 9 = .ok (.ifCond .eq 15, 3) := by decide +kernel
theorem dX8_behind_12 : decode cX8_behind 12 = .ok (.iload_n 2, 1) := by decide +kernel
theorem dX8_behind_13 : decode cX8_behind 13 = .ok (.i2l, 1) := by decide +kernel
theorem dX8_behind_14 : decode cX8_behind 14 = .ok (.lconst 0, 1) := by decide +kernel
theorem dX8_behind_15 : decode cX8_behind 15 = .ok (.ldc2_w 188, 3) := by decide +kernel
theorem dX8_behind_18 : decode cX8_behind 18 = .ok (.invokestatic 72, 3) := by decide +kernel
theorem dX8_behind_21 : decode cX8_behind 21 = .ok (.ifCond .ne 6, 3) := by decide +kernel
theorem dX8_behind_24 : decode cX8_behind 24 = .ok (.ldc 85, 2) := by decide +kernel
theorem dX8_behind_26 : decode cX8_behind 26 = .ok (.ireturn, 1) := by decide +kernel
theorem dX8_behind_27 : decode cX8_behind 27 = .ok (.aload_n 0, 1) := by decide +kernel
theorem dX8_behind_28 : decode cX8_behind 28 = .ok (.invokevirtual 190, 3) := by decide +kernel
theorem dX8_behind_31 : decode cX8_behind 31 = .ok (.aload_n 0, 1) := by decide +kernel
theorem dX8_behind_32 : decode cX8_behind 32 = .ok (.iconst 0, 1) := by decide +kernel
theorem dX8_behind_33 : decode cX8_behind 33 = .ok (.putfield 176, 3) := by decide +kernel
theorem dX8_behind_36 : decode cX8_behind 36 = .ok (.aload_n 0, 1) := by decide +kernel
theorem dX8_behind_37 : decode cX8_behind 37 = .ok (.iload_n 1, 1) := by decide +kernel
theorem dX8_behind_38 : decode cX8_behind 38 = .ok (.invokevirtual 193, 3) := by decide +kernel
theorem dX8_behind_41 : decode cX8_behind 41 = .ok (.iload_n 2, 1) := by decide +kernel
theorem dX8_behind_42 : decode cX8_behind 42 = .ok (.ifCond .ne 12, 3) := by decide +kernel
theorem dX8_behind_45 : decode cX8_behind 45 = .ok (.aload_n 0, 1) := by decide +kernel
theorem dX8_behind_46 : decode cX8_behind 46 = .ok (.getfield 7, 3) := by decide +kernel
theorem dX8_behind_49 : decode cX8_behind 49 = .ok (.iconst 5, 1) := by decide +kernel
theorem dX8_behind_50 : decode cX8_behind 50 = .ok (.iaload, 1) := by decide +kernel
theorem dX8_behind_51 : decode cX8_behind 51 = .ok (.goto 35, 3) := by decide +kernel
theorem dX8_behind_54 : decode cX8_behind 54 = .ok (.iload_n 2, 1) := by decide +kernel
theorem dX8_behind_55 : decode cX8_behind 55 = .ok (.iconst 1, 1) := by decide +kernel
theorem dX8_behind_56 : decode cX8_behind 56 = .ok (.if_icmp .ne 12, 3) := by decide +kernel
theorem dX8_behind_59 : decode cX8_behind 59 = .ok (.aload_n 0, 1) := by decide +kernel
theorem dX8_behind_60 : decode cX8_behind 60 = .ok (.bipush 9, 2) := by decide +kernel
theorem dX8_behind_62 : decode cX8_behind 62 = .ok (.invokevirtual 185, 3) := by decide +kernel
theorem dX8_behind_65 : decode cX8_behind 65 = .ok (.goto 21, 3) := by decide +kernel
theorem dX8_behind_68 : decode cX8_behind 68 = .ok (.iload_n 2, 1) := by decide +kernel
theorem dX8_behind_69 : decode cX8_behind 69 = .ok (.iconst 2, 1) := by decide +kernel
theorem dX8_behind_70 : decode cX8_behind 70 = .ok (.if_icmp .ne 12, 3) := by decide +kernel
theorem dX8_behind_73 : decode cX8_behind 73 = .ok (.aload_n 0, 1) := by decide +kernel
theorem dX8_behind_74 : decode cX8_behind 74 = .ok (.bipush 10, 2) := by decide +kernel
theorem dX8_behind_76 : decode cX8_behind 76 = .ok (.invokevirtual 185, 3) := by decide +kernel
theorem dX8_behind_79 : decode cX8_behind 79 = .ok (.goto 7, 3) := by decide +kernel
theorem dX8_behind_82 : decode cX8_behind 82 = .ok (.aload_n 0, 1) := by decide +kernel
theorem dX8_behind_83 : decode cX8_behind 83 = .ok (.getfield 176, 3) := by decide +kernel
theorem dX8_behind_86 : decode cX8_behind 86 = .ok (.istore_n 3, 1) := by decide +kernel
theorem dX8_behind_87 : decode cX8_behind 87 = .ok (.aload_n 0, 1) := by decide +kernel
theorem dX8_behind_88 : decode cX8_behind 88 = .ok (.invokevirtual 196, 3) := by decide +kernel
theorem dX8_behind_91 : decode cX8_behind 91 = .ok (.iload_n 3, 1) := by decide +kernel
theorem dX8_behind_92 : decode cX8_behind 92 = .ok (.ireturn, 1) := by decide +kernel
theorem dX8_fullIn_0 : decode cX8_fullIn 0 = .ok (.iload_n 1, 1) := by decide +kernel
theorem dX8_fullIn_1 : decode cX8_fullIn 1 = .ok (.i2l, 1) := by decide +kernel
theorem dX8_fullIn_2 : decode cX8_fullIn 2 = .ok (.lconst 0, 1) := by decide +kernel
theorem dX8_fullIn_3 : decode cX8_fullIn 3 = .ok (.ldc2_w 139, 3) := by decide +kernel
theorem dX8_fullIn_6 : decode cX8_fullIn 6 = .ok (.invokestatic 72, 3) := by decide +kernel
theorem dX8_fullIn_9 : decode cX8_fullIn 9 = .ok (.ifCond .ne 6, 3) := by decide +kernel
theorem dX8_fullIn_12 : decode cX8_fullIn 12 = .ok (.ldc 85, 2) := by decide +kernel
theorem dX8_fullIn_14 : decode cX8_fullIn 14 = .ok (.ireturn, 1) := by decide +kernel
theorem dX8_fullIn_15 : decode cX8_fullIn 15 = .ok (.aload_n 0, 1) := by decide +kernel
theorem dX8_fullIn_16 : decode cX8_fullIn 16 = .ok (.getfield 7, 3) := by decide +kernel
theorem dX8_fullIn_19 : decode cX8_fullIn 19 = .ok (.iconst 5, 1) := by decide +kernel
theorem dX8_fullIn_20 : decode cX8_fullIn 20 = .ok (.iaload, 1) := by decide +kernel
theorem dX8_fullIn_21 : decode cX8_fullIn 21 = .ok (.iload_n 1, 1) := by decide +kernel
theorem dX8_fullIn_22 : decode cX8_fullIn 22 = .ok (.if_icmp .lt 5, 3) := by decide +kernel
theorem dX8_fullIn_25 : decode cX8_fullIn 25 = .ok (.iconst 0, 1) := by decide +kernel
theorem dX8_fullIn_26 : decode cX8_fullIn 26 = .ok (.ireturn, 1) := by decide +kernel
theorem dX8_fullIn_27 : decode cX8_fullIn 27 = .ok (.iload_n 1, 1) := by decide +kernel
theorem dX8_fullIn_28 : decode cX8_fullIn 28 = .ok (.aload_n 0, 1) := by decide +kernel
theorem dX8_fullIn_29 : decode cX8_fullIn 29 = .ok (.getfield 7, 3) := by decide +kernel
theorem dX8_fullIn_32 : decode cX8_fullIn 32 = .ok (.iconst 4, 1) := by decide +kernel
theorem dX8_fullIn_33 : decode cX8_fullIn 33 = .ok (.iaload, 1) := by decide +kernel
theorem dX8_fullIn_34 : decode cX8_fullIn 34 = .ok (.if_icmp .le 6, 3) := by decide +kernel
theorem dX8_fullIn_37 : decode cX8_fullIn 37 = .ok (.ldc 71, 2) := by decide +kernel
theorem dX8_fullIn_39 : decode cX8_fullIn 39 = .ok (.ireturn, 1) := by decide +kernel
theorem dX8_fullIn_40 : decode cX8_fullIn 40 = .ok (.aload_n 0, 1) := by decide +kernel
theorem dX8_fullIn_41 : decode cX8_fullIn 41 = .ok (.getfield 7, 3) := by decide +kernel
theorem dX8_fullIn_44 : decode cX8_fullIn 44 = .ok (.iconst 3, 1) := by decide +kernel
theorem dX8_fullIn_45 : decode cX8_fullIn 45 = .ok (.iaload, 1) := by decide +kernel
theorem dX8_fullIn_46 : decode cX8_fullIn 46 = .ok (.aload_n 0, 1) := by decide +kernel
theorem dX8_fullIn_47 : decode cX8_fullIn 47 = .ok (.getfield 7, 3) := by decide +kernel
theorem dX8_fullIn_50 : decode cX8_fullIn 50 = .ok (.bipush 8, 2) := by decide +kernel
theorem dX8_fullIn_52 : decode cX8_fullIn 52 = .ok (.iaload, 1) := by decide +kernel
theorem dX8_fullIn_53 : decode cX8_fullIn 53 = .ok (.isub, 1) := by decide +kernel
theorem dX8_fullIn_54 : decode cX8_fullIn 54 = .ok (.istore_n 2, 1) := by decide +kernel
theorem dX8_fullIn_55 : decode cX8_fullIn 55 = .ok (.iload_n 2, 1) := by decide +kernel
theorem dX8_fullIn_56 : decode cX8_fullIn 56 = .ok (.iconst 1, 1) := by decide +kernel
theorem dX8_fullIn_57 : decode cX8_fullIn 57 = .ok (.if_icmp .ge 7, 3) := by decide +kernel
theorem dX8_fullIn_60 : decode cX8_fullIn 60 = .ok (.iconst 1, 1) := by decide +kernel
theorem dX8_fullIn_61 : decode cX8_fullIn 61 = .ok (.goto 4, 3) := by decide +kernel
theorem dX8_fullIn_64 : decode cX8_fullIn 64 = .ok (.iload_n 2, 1) := by decide +kernel
theorem dX8_fullIn_65 : decode cX8_fullIn 65 = .ok (.iload_n 1, 1) := by decide +kernel
theorem dX8_fullIn_66 : decode cX8_fullIn 66 = .ok (.aload_n 0, 1) := by decide +kernel
theorem dX8_fullIn_67 : decode cX8_fullIn 67 = .ok (.getfield 7, 3) := by decide +kernel
theorem dX8_fullIn_70 : decode cX8_fullIn 70 = .ok (.iconst 5, 1) := by decide +kernel
theorem dX8_fullIn_71 : decode cX8_fullIn 71 = .ok (.iaload, 1) := by decide +kernel
theorem dX8_fullIn_72 : decode cX8_fullIn 72 = .ok (.isub, 1) := by decide +kernel
theorem dX8_fullIn_73 : decode cX8_fullIn 73 = .ok (.iconst 1, 1) := by decide +kernel
theorem dX8_fullIn_74 : decode cX8_fullIn 74 = .ok (.isub, 1) := by decide +kernel
theorem dX8_fullIn_75 : decode cX8_fullIn 75 = .ok (.aload_n 0, 1) := by decide +kernel
theorem dX8_fullIn_76 : decode cX8_fullIn 76 = .ok (.getfield 7, 3) := by decide +kernel
theorem dX8_fullIn_79 : decode cX8_fullIn 79 = .ok (.iconst 3, 1) := by decide +kernel
theorem dX8_fullIn_80 : decode cX8_fullIn 80 = .ok (.iaload, 1) := by decide +kernel
theorem dX8_fullIn_81 : decode cX8_fullIn 81 = .ok (.imul, 1) := by decide +kernel
theorem dX8_fullIn_82 : decode cX8_fullIn 82 = .ok (.iadd, 1) := by decide +kernel
theorem dX8_fullIn_83 : decode cX8_fullIn 83 = .ok (.ireturn, 1) := by decide +kernel
theorem dX8_best_0 : decode cX8_best 0 = .ok (.aload_n 0, 1) := by decide +kernel
theorem dX8_best_1 : decode cX8_best 1 = .ok (.iload_n 1, 1) := by decide +kernel
theorem dX8_best_2 : decode cX8_best 2 = .ok (.invokevirtual 113, 3) := by decide +kernel
theorem dX8_best_5 : decode cX8_best 5 = .ok (.ifCond .eq 25, 3) := by decide +kernel
theorem dX8_best_8 : decode cX8_best 8 = .ok (.iload_n 2, 1) := by decide +kernel
theorem dX8_best_9 : decode cX8_best 9 = .ok (.i2l, 1) := by decide +kernel
theorem dX8_best_10 : decode cX8_best 10 = .ok (.lconst 1, 1) := by decide +kernel
theorem dX8_best_11 : decode cX8_best 11 = .ok (.ldc2_w 199, 3) := by decide +kernel
theorem dX8_best_14 : decode cX8_best 14 = .ok (.invokestatic 72, 3) := by decide +kernel
theorem dX8_best_17 : decode cX8_best 17 = .ok (.ifCond .eq 13, 3) := by decide +kernel
theorem dX8_best_20 : decode cX8_best 20 = .ok (.iload_n 3, 1) := by decide +kernel
theorem dX8_best_21 : decode cX8_best 21 = .ok (.i2l, 1) := by decide +kernel
theorem dX8_best_22 : decode cX8_best 22 = .ok (.lconst 0, 1) := by decide +kernel
theorem dX8_best_23 : decode cX8_best 23 = .ok (.lconst 1, 1) := by decide +kernel
theorem dX8_best_24 : decode cX8_best 24 = .ok (.invokestatic 72, 3) := by decide +kernel
theorem dX8_best_27 : decode cX8_best 27 = .ok (.ifCond .ne 6, 3) := by decide +kernel
theorem dX8_best_30 : decode cX8_best 30 = .ok (.ldc 85, 2) := by decide +kernel
theorem dX8_best_32 : decode cX8_best 32 = .ok (.ireturn, 1) := by decide +kernel
theorem dX8_best_33 : decode cX8_best 33 = .ok (.aload_n 0, 1) := by decide +kernel
theorem dX8_best_34 : decode cX8_best 34 = .ok (.invokevirtual 190, 3) := by decide +kernel
theorem dX8_best_37 : decode cX8_best 37 = .ok (.iconst (-1), 1) := by decide +kernel
theorem dX8_best_38 : decode cX8_best 38 = .ok (.istore 4, 2) := by decide +kernel
theorem dX8_best_40 : decode cX8_best 40 = .ok (.iconst 0, 1) := by decide +kernel
theorem dX8_best_41 : decode cX8_best 41 = .ok (.istore 5, 2) := by decide +kernel
theorem dX8_best_43 : decode cX8_best 43 = .ok (.iconst 0, 1) := by decide +kernel
theorem dX8_best_44 : decode cX8_best 44 = .ok (.istore 6, 2) := by decide +kernel
theorem dX8_best_46 : decode cX8_best 46 = .ok (.iload 6, 2) := by decide +kernel
theorem dX8_best_48 : decode cX8_best 48 = .ok (.bipush 60, 2) := by decide +kernel
theorem dX8_best_50 : decode cX8_best 50 = .ok (.if_icmp .ge 55, 3) := by decide +kernel
theorem dX8_best_53 : decode cX8_best 53 = .ok (.aload_n 0, 1) := by decide +kernel
theorem dX8_best_54 : decode cX8_best 54 = .ok (.iload_n 1, 1) := by decide +kernel
theorem dX8_best_55 : decode cX8_best 55 = .ok (.iconst 1, 1) := by decide +kernel
theorem dX8_best_56 : decode cX8_best 56 = .ok (.iload 6, 2) := by decide +kernel
theorem dX8_best_58 : decode cX8_best 58 = .ok (.invokevirtual 151, 3) := by decide +kernel
theorem dX8_best_61 : decode cX8_best 61 = .ok (.aload_n 0, 1) := by decide +kernel
theorem dX8_best_62 : decode cX8_best 62 = .ok (.iload_n 2, 1) := by decide +kernel
theorem dX8_best_63 : decode cX8_best 63 = .ok (.invokevirtual 193, 3) := by decide +kernel
theorem dX8_best_66 : decode cX8_best 66 = .ok (.aload_n 0, 1) := by decide +kernel
theorem dX8_best_67 : decode cX8_best 67 = .ok (.iload_n 1, 1) := by decide +kernel
theorem dX8_best_68 : decode cX8_best 68 = .ok (.bipush 9, 2) := by decide +kernel
theorem dX8_best_70 : decode cX8_best 70 = .ok (.invokevirtual 91, 3) := by decide +kernel
theorem dX8_best_73 : decode cX8_best 73 = .ok (.istore 7, 2) := by decide +kernel
theorem dX8_best_75 : decode cX8_best 75 = .ok (.iload 4, 2) := by decide +kernel
theorem dX8_best_77 : decode cX8_best 77 = .ok (.ifCond .lt 10, 3) := by decide +kernel
theorem dX8_best_80 : decode cX8_best 80 = .ok (.iload 7, 2) := by decide +kernel
theorem dX8_best_82 : decode cX8_best 82 = .ok (.iload 5, 2) := by decide +kernel
theorem dX8_best_84 : decode cX8_best 84 = .ok (.if_icmp .le 11, 3) := by decide +kernel
theorem dX8_best_87 : decode cX8_best 87 = .ok (.iload 6, 2) := by decide +kernel
theorem dX8_best_89 : decode cX8_best 89 = .ok (.istore 4, 2) := by decide +kernel
theorem dX8_best_91 : decode cX8_best 91 = .ok (.iload 7, 2) := by decide +kernel
theorem dX8_best_93 : decode cX8_best 93 = .ok (.istore 5, 2) := by decide +kernel
theorem dX8_best_95 : decode cX8_best 95 = .ok (.aload_n 0, 1) := by decide +kernel
theorem dX8_best_96 : decode cX8_best 96 = .ok (.invokevirtual 196, 3) := by decide +kernel
theorem dX8_best_99 : decode cX8_best 99 = .ok (.iinc 6 1, 3) := by decide +kernel
theorem dX8_best_102 : decode cX8_best 102 = .ok (.goto (-56), 3) := by decide +kernel
theorem dX8_best_105 : decode cX8_best 105 = .ok (.iload_n 3, 1) := by decide +kernel
theorem dX8_best_106 : decode cX8_best 106 = .ok (.ifCond .ne 8, 3) := by decide +kernel
theorem dX8_best_109 : decode cX8_best 109 = .ok (.iload 4, 2) := by decide +kernel
theorem dX8_best_111 : decode cX8_best 111 = .ok (.goto 5, 3) := by decide +kernel
theorem dX8_best_114 : decode cX8_best 114 = .ok (.iload 5, 2) := by decide +kernel
theorem dX8_best_116 : decode cX8_best 116 = .ok (.ireturn, 1) := by decide +kernel
theorem dX8_alone_0 : decode cX8_alone 0 = .ok (.aload_n 0, 1) := by decide +kernel
theorem dX8_alone_1 : decode cX8_alone 1 = .ok (.iload_n 1, 1) := by decide +kernel
theorem dX8_alone_2 : decode cX8_alone 2 = .ok (.invokevirtual 113, 3) := by decide +kernel
theorem dX8_alone_5 : decode cX8_alone 5 = .ok (.ifCond .eq 15, 3) := by decide +kernel
theorem dX8_alone_8 : decode cX8_alone 8 = .ok (.iload_n 2, 1) := by decide +kernel
theorem dX8_alone_9 : decode cX8_alone 9 = .ok (.i2l, 1) := by decide +kernel
theorem dX8_alone_10 : decode cX8_alone 10 = .ok (.lconst 1, 1) := by decide +kernel
theorem dX8_alone_11 : decode cX8_alone 11 = .ok (.ldc2_w 179, 3) := by decide +kernel
theorem dX8_alone_14 : decode cX8_alone 14 = .ok (.invokestatic 72, 3) := by decide +kernel
theorem dX8_alone_17 : decode cX8_alone 17 = .ok (.ifCond .ne 6, 3) := by decide +kernel
theorem dX8_alone_20 : decode cX8_alone 20 = .ok (.ldc 85, 2) := by decide +kernel
theorem dX8_alone_22 : decode cX8_alone 22 = .ok (.ireturn, 1) := by decide +kernel
theorem dX8_alone_23 : decode cX8_alone 23 = .ok (.aload_n 0, 1) := by decide +kernel
theorem dX8_alone_24 : decode cX8_alone 24 = .ok (.invokevirtual 190, 3) := by decide +kernel
theorem dX8_alone_27 : decode cX8_alone 27 = .ok (.aload_n 0, 1) := by decide +kernel
theorem dX8_alone_28 : decode cX8_alone 28 = .ok (.iload_n 2, 1) := by decide +kernel
theorem dX8_alone_29 : decode cX8_alone 29 = .ok (.invokevirtual 193, 3) := by decide +kernel
theorem dX8_alone_32 : decode cX8_alone 32 = .ok (.aload_n 0, 1) := by decide +kernel
theorem dX8_alone_33 : decode cX8_alone 33 = .ok (.iload_n 1, 1) := by decide +kernel
theorem dX8_alone_34 : decode cX8_alone 34 = .ok (.bipush 9, 2) := by decide +kernel
theorem dX8_alone_36 : decode cX8_alone 36 = .ok (.invokevirtual 91, 3) := by decide +kernel
theorem dX8_alone_39 : decode cX8_alone 39 = .ok (.istore_n 3, 1) := by decide +kernel
theorem dX8_alone_40 : decode cX8_alone 40 = .ok (.aload_n 0, 1) := by decide +kernel
theorem dX8_alone_41 : decode cX8_alone 41 = .ok (.invokevirtual 196, 3) := by decide +kernel
theorem dX8_alone_44 : decode cX8_alone 44 = .ok (.iconst 0, 1) := by decide +kernel
theorem dX8_alone_45 : decode cX8_alone 45 = .ok (.istore 4, 2) := by decide +kernel
theorem dX8_alone_47 : decode cX8_alone 47 = .ok (.iload 4, 2) := by decide +kernel
theorem dX8_alone_49 : decode cX8_alone 49 = .ok (.aload_n 0, 1) := by decide +kernel
theorem dX8_alone_50 : decode cX8_alone 50 = .ok (.getfield 7, 3) := by decide +kernel
theorem dX8_alone_53 : decode cX8_alone 53 = .ok (.iconst 0, 1) := by decide +kernel
theorem dX8_alone_54 : decode cX8_alone 54 = .ok (.iaload, 1) := by decide +kernel
theorem dX8_alone_55 : decode cX8_alone 55 = .ok (.if_icmp .ge 31, 3) := by decide +kernel
theorem dX8_alone_58 : decode cX8_alone 58 = .ok (.iload 4, 2) := by decide +kernel
theorem dX8_alone_60 : decode cX8_alone 60 = .ok (.iload_n 1, 1) := by decide +kernel
theorem dX8_alone_61 : decode cX8_alone 61 = .ok (.if_icmp .eq 19, 3) := by decide +kernel
theorem dX8_alone_64 : decode cX8_alone 64 = .ok (.aload_n 0, 1) := by decide +kernel
theorem dX8_alone_65 : decode cX8_alone 65 = .ok (.iload 4, 2) := by decide +kernel
theorem dX8_alone_67 : decode cX8_alone 67 = .ok (.iconst 5, 1) := by decide +kernel
theorem dX8_alone_68 : decode cX8_alone 68 = .ok (.iconst 0, 1) := by decide +kernel
theorem dX8_alone_69 : decode cX8_alone 69 = .ok (.invokevirtual 151, 3) := by decide +kernel
theorem dX8_alone_72 : decode cX8_alone 72 = .ok (.aload_n 0, 1) := by decide +kernel
theorem dX8_alone_73 : decode cX8_alone 73 = .ok (.iload 4, 2) := by decide +kernel
theorem dX8_alone_75 : decode cX8_alone 75 = .ok (.iconst 4, 1) := by decide +kernel
theorem dX8_alone_76 : decode cX8_alone 76 = .ok (.iconst 0, 1) := by decide +kernel
theorem dX8_alone_77 : decode cX8_alone 77 = .ok (.invokevirtual 151, 3) := by decide +kernel
theorem dX8_alone_80 : decode cX8_alone 80 = .ok (.iinc 4 1, 3) := by decide +kernel
theorem dX8_alone_83 : decode cX8_alone 83 = .ok (.goto (-36), 3) := by decide +kernel
theorem dX8_alone_86 : decode cX8_alone 86 = .ok (.aload_n 0, 1) := by decide +kernel
theorem dX8_alone_87 : decode cX8_alone 87 = .ok (.iload_n 1, 1) := by decide +kernel
theorem dX8_alone_88 : decode cX8_alone 88 = .ok (.putfield 46, 3) := by decide +kernel
theorem dX8_alone_91 : decode cX8_alone 91 = .ok (.aload_n 0, 1) := by decide +kernel
theorem dX8_alone_92 : decode cX8_alone 92 = .ok (.iload_n 2, 1) := by decide +kernel
theorem dX8_alone_93 : decode cX8_alone 93 = .ok (.invokevirtual 193, 3) := by decide +kernel
theorem dX8_alone_96 : decode cX8_alone 96 = .ok (.aload_n 0, 1) := by decide +kernel
theorem dX8_alone_97 : decode cX8_alone 97 = .ok (.iconst (-1), 1) := by decide +kernel
theorem dX8_alone_98 : decode cX8_alone 98 = .ok (.putfield 46, 3) := by decide +kernel
theorem dX8_alone_101 : decode cX8_alone 101 = .ok (.aload_n 0, 1) := by decide +kernel
theorem dX8_alone_102 : decode cX8_alone 102 = .ok (.iload_n 1, 1) := by decide +kernel
theorem dX8_alone_103 : decode cX8_alone 103 = .ok (.bipush 9, 2) := by decide +kernel
theorem dX8_alone_105 : decode cX8_alone 105 = .ok (.invokevirtual 91, 3) := by decide +kernel
theorem dX8_alone_108 : decode cX8_alone 108 = .ok (.istore 4, 2) := by decide +kernel
theorem dX8_alone_110 : decode cX8_alone 110 = .ok (.aload_n 0, 1) := by decide +kernel
theorem dX8_alone_111 : decode cX8_alone 111 = .ok (.invokevirtual 196, 3) := by decide +kernel
theorem dX8_alone_114 : decode cX8_alone 114 = .ok (.iload 4, 2) := by decide +kernel
theorem dX8_alone_116 : decode cX8_alone 116 = .ok (.iload_n 3, 1) := by decide +kernel
theorem dX8_alone_117 : decode cX8_alone 117 = .ok (.isub, 1) := by decide +kernel
theorem dX8_alone_118 : decode cX8_alone 118 = .ok (.ireturn, 1) := by decide +kernel
theorem dX8_mean_0 : decode cX8_mean 0 = .ok (.iload_n 1, 1) := by decide +kernel
theorem dX8_mean_1 : decode cX8_mean 1 = .ok (.i2l, 1) := by decide +kernel
theorem dX8_mean_2 : decode cX8_mean 2 = .ok (.lconst 0, 1) := by decide +kernel
theorem dX8_mean_3 : decode cX8_mean 3 = .ok (.lconst 1, 1) := by decide +kernel
theorem dX8_mean_4 : decode cX8_mean 4 = .ok (.invokestatic 72, 3) := by decide +kernel
theorem dX8_mean_7 : decode cX8_mean 7 = .ok (.ifCond .ne 7, 3) := by decide +kernel
theorem dX8_mean_10 : decode cX8_mean 10 = .ok (.ldc2_w 201, 3) := by decide +kernel
theorem dX8_mean_13 : decode cX8_mean 13 = .ok (.lreturn, 1) := by decide +kernel
theorem dX8_mean_14 : decode cX8_mean 14 = .ok (.aload_n 0, 1) := by decide +kernel
theorem dX8_mean_15 : decode cX8_mean 15 = .ok (.bipush 11, 2) := by decide +kernel
theorem dX8_mean_17 : decode cX8_mean 17 = .ok (.invokevirtual 185, 3) := by decide +kernel
theorem dX8_mean_20 : decode cX8_mean 20 = .ok (.istore_n 2, 1) := by decide +kernel
theorem dX8_mean_21 : decode cX8_mean 21 = .ok (.iload_n 2, 1) := by decide +kernel
theorem dX8_mean_22 : decode cX8_mean 22 = .ok (.ifCond .ne 6, 3) := by decide +kernel
theorem dX8_mean_25 : decode cX8_mean 25 = .ok (.iload_n 1, 1) := by decide +kernel
theorem dX8_mean_26 : decode cX8_mean 26 = .ok (.i2l, 1) := by decide +kernel
theorem dX8_mean_27 : decode cX8_mean 27 = .ok (.lreturn, 1) := by decide +kernel
theorem dX8_mean_28 : decode cX8_mean 28 = .ok (.aload_n 0, 1) := by decide +kernel
theorem dX8_mean_29 : decode cX8_mean 29 = .ok (.getfield 7, 3) := by decide +kernel
theorem dX8_mean_32 : decode cX8_mean 32 = .ok (.bipush 9, 2) := by decide +kernel
theorem dX8_mean_34 : decode cX8_mean 34 = .ok (.iaload, 1) := by decide +kernel
theorem dX8_mean_35 : decode cX8_mean 35 = .ok (.istore_n 3, 1) := by decide +kernel
theorem dX8_mean_36 : decode cX8_mean 36 = .ok (.iload_n 2, 1) := by decide +kernel
theorem dX8_mean_37 : decode cX8_mean 37 = .ok (.istore 4, 2) := by decide +kernel
theorem dX8_mean_39 : decode cX8_mean 39 = .ok (.iload 4, 2) := by decide +kernel
theorem dX8_mean_41 : decode cX8_mean 41 = .ok (.ifCond .le 19, 3) := by decide +kernel
theorem dX8_mean_44 : decode cX8_mean 44 = .ok (.iload_n 3, 1) := by decide +kernel
theorem dX8_mean_45 : decode cX8_mean 45 = .ok (.iload 4, 2) := by decide +kernel
theorem dX8_mean_47 : decode cX8_mean 47 = .ok (.irem, 1) := by decide +kernel
theorem dX8_mean_48 : decode cX8_mean 48 = .ok (.istore 5, 2) := by decide +kernel
theorem dX8_mean_50 : decode cX8_mean 50 = .ok (.iload 4, 2) := by decide +kernel
theorem dX8_mean_52 : decode cX8_mean 52 = .ok (.istore_n 3, 1) := by decide +kernel
theorem dX8_mean_53 : decode cX8_mean 53 = .ok (.iload 5, 2) := by decide +kernel
theorem dX8_mean_55 : decode cX8_mean 55 = .ok (.istore 4, 2) := by decide +kernel
theorem dX8_mean_57 : decode cX8_mean 57 = .ok (.goto (-18), 3) := by decide +kernel
theorem dX8_mean_60 : decode cX8_mean 60 = .ok (.iload_n 1, 1) := by decide +kernel
theorem dX8_mean_61 : decode cX8_mean 61 = .ok (.ifCond .ne 13, 3) := by decide +kernel
theorem dX8_mean_64 : decode cX8_mean 64 = .ok (.aload_n 0, 1) := by decide +kernel
theorem dX8_mean_65 : decode cX8_mean 65 = .ok (.getfield 7, 3) := by decide +kernel
theorem dX8_mean_68 : decode cX8_mean 68 = .ok (.bipush 9, 2) := by decide +kernel
theorem dX8_mean_70 : decode cX8_mean 70 = .ok (.iaload, 1) := by decide +kernel
theorem dX8_mean_71 : decode cX8_mean 71 = .ok (.goto 4, 3) := by decide +kernel
theorem dX8_mean_74 : decode cX8_mean 74 = .ok (.iload_n 2, 1) := by decide +kernel
theorem dX8_mean_75 : decode cX8_mean 75 = .ok (.iload_n 3, 1) := by decide +kernel
theorem dX8_mean_76 : decode cX8_mean 76 = .ok (.idiv, 1) := by decide +kernel
theorem dX8_mean_77 : decode cX8_mean 77 = .ok (.i2l, 1) := by decide +kernel
theorem dX8_mean_78 : decode cX8_mean 78 = .ok (.lreturn, 1) := by decide +kernel
theorem dX8_least_0 : decode cX8_least 0 = .ok (.iconst (-1), 1) := by decide +kernel
theorem dX8_least_1 : decode cX8_least 1 = .ok (.istore_n 1, 1) := by decide +kernel
theorem dX8_least_2 : decode cX8_least 2 = .ok (.iconst 0, 1) := by decide +kernel
theorem dX8_least_3 : decode cX8_least 3 = .ok (.istore_n 2, 1) := by decide +kernel
theorem dX8_least_4 : decode cX8_least 4 = .ok (.iload_n 2, 1) := by decide +kernel
theorem dX8_least_5 : decode cX8_least 5 = .ok (.aload_n 0, 1) := by decide +kernel
theorem dX8_least_6 : decode cX8_least 6 = .ok (.getfield 7, 3) := by decide +kernel
theorem dX8_least_9 : decode cX8_least 9 = .ok (.iconst 0, 1) := by decide +kernel
theorem dX8_least_10 : decode cX8_least 10 = .ok (.iaload, 1) := by decide +kernel
theorem dX8_least_11 : decode cX8_least 11 = .ok (.if_icmp .ge 80, 3) := by decide +kernel
theorem dX8_least_14 : decode cX8_least 14 = .ok (.iload_n 1, 1) := by decide +kernel
theorem dX8_least_15 : decode cX8_least 15 = .ok (.ifCond .lt 54, 3) := by decide +kernel
theorem dX8_least_18 : decode cX8_least 18 = .ok (.aload_n 0, 1) := by decide +kernel
theorem dX8_least_19 : decode cX8_least 19 = .ok (.iload_n 2, 1) := by decide +kernel
theorem dX8_least_20 : decode cX8_least 20 = .ok (.bipush 10, 2) := by decide +kernel
theorem dX8_least_22 : decode cX8_least 22 = .ok (.invokevirtual 91, 3) := by decide +kernel
theorem dX8_least_25 : decode cX8_least 25 = .ok (.aload_n 0, 1) := by decide +kernel
theorem dX8_least_26 : decode cX8_least 26 = .ok (.iload_n 1, 1) := by decide +kernel
theorem dX8_least_27 : decode cX8_least 27 = .ok (.bipush 10, 2) := by decide +kernel
theorem dX8_least_29 : decode cX8_least 29 = .ok (.invokevirtual 91, 3) := by decide +kernel
theorem dX8_least_32 : decode cX8_least 32 = .ok (.if_icmp .gt 37, 3) := by decide +kernel
theorem dX8_least_35 : decode cX8_least 35 = .ok (.aload_n 0, 1) := by decide +kernel
theorem dX8_least_36 : decode cX8_least 36 = .ok (.iload_n 2, 1) := by decide +kernel
theorem dX8_least_37 : decode cX8_least 37 = .ok (.bipush 10, 2) := by decide +kernel
theorem dX8_least_39 : decode cX8_least 39 = .ok (.invokevirtual 91, 3) := by decide +kernel
theorem dX8_least_42 : decode cX8_least 42 = .ok (.aload_n 0, 1) := by decide +kernel
theorem dX8_least_43 : decode cX8_least 43 = .ok (.iload_n 1, 1) := by decide +kernel
theorem dX8_least_44 : decode cX8_least 44 = .ok (.bipush 10, 2) := by decide +kernel
theorem dX8_least_46 : decode cX8_least 46 = .ok (.invokevirtual 91, 3) := by decide +kernel
theorem dX8_least_49 : decode cX8_least 49 = .ok (.if_icmp .ne 24, 3) := by decide +kernel
theorem dX8_least_52 : decode cX8_least 52 = .ok (.aload_n 0, 1) := by decide +kernel
theorem dX8_least_53 : decode cX8_least 53 = .ok (.iload_n 2, 1) := by decide +kernel
theorem dX8_least_54 : decode cX8_least 54 = .ok (.bipush 9, 2) := by decide +kernel
theorem dX8_least_56 : decode cX8_least 56 = .ok (.invokevirtual 91, 3) := by decide +kernel
theorem dX8_least_59 : decode cX8_least 59 = .ok (.aload_n 0, 1) := by decide +kernel
theorem dX8_least_60 : decode cX8_least 60 = .ok (.iload_n 1, 1) := by decide +kernel
theorem dX8_least_61 : decode cX8_least 61 = .ok (.bipush 9, 2) := by decide +kernel
theorem dX8_least_63 : decode cX8_least 63 = .ok (.invokevirtual 91, 3) := by decide +kernel
theorem dX8_least_66 : decode cX8_least 66 = .ok (.if_icmp .ge 7, 3) := by decide +kernel
theorem dX8_least_69 : decode cX8_least 69 = .ok (.iconst 1, 1) := by decide +kernel
theorem dX8_least_70 : decode cX8_least 70 = .ok (.goto 4, 3) := by decide +kernel
theorem dX8_least_73 : decode cX8_least 73 = .ok (.iconst 0, 1) := by decide +kernel
theorem dX8_least_74 : decode cX8_least 74 = .ok (.istore_n 3, 1) := by decide +kernel
theorem dX8_least_75 : decode cX8_least 75 = .ok (.iload_n 3, 1) := by decide +kernel
theorem dX8_least_76 : decode cX8_least 76 = .ok (.ifCond .eq 7, 3) := by decide +kernel
theorem dX8_least_79 : decode cX8_least 79 = .ok (.iload_n 2, 1) := by decide +kernel
theorem dX8_least_80 : decode cX8_least 80 = .ok (.goto 4, 3) := by decide +kernel
theorem dX8_least_83 : decode cX8_least 83 = .ok (.iload_n 1, 1) := by decide +kernel
theorem dX8_least_84 : decode cX8_least 84 = .ok (.istore_n 1, 1) := by decide +kernel
theorem dX8_least_85 : decode cX8_least 85 = .ok (.iinc 2 1, 3) := by decide +kernel
theorem dX8_least_88 : decode cX8_least 88 = .ok (.goto (-84), 3) := by decide +kernel
theorem dX8_least_91 : decode cX8_least 91 = .ok (.iload_n 1, 1) := by decide +kernel
theorem dX8_least_92 : decode cX8_least 92 = .ok (.invokestatic 203, 3) := by decide +kernel
theorem dX8_least_95 : decode cX8_least 95 = .ok (.ireturn, 1) := by decide +kernel
theorem dX8_fine_0 : decode cX8_fine 0 = .ok (.aload_n 0, 1) := by decide +kernel
theorem dX8_fine_1 : decode cX8_fine 1 = .ok (.iload_n 1, 1) := by decide +kernel
theorem dX8_fine_2 : decode cX8_fine 2 = .ok (.invokevirtual 113, 3) := by decide +kernel
theorem dX8_fine_5 : decode cX8_fine 5 = .ok (.ifCond .ne 6, 3) := by decide +kernel
theorem dX8_fine_8 : decode cX8_fine 8 = .ok (.ldc 85, 2) := by decide +kernel
theorem dX8_fine_10 : decode cX8_fine 10 = .ok (.ireturn, 1) := by decide +kernel
theorem dX8_fine_11 : decode cX8_fine 11 = .ok (.aload_n 0, 1) := by decide +kernel
theorem dX8_fine_12 : decode cX8_fine 12 = .ok (.iconst 2, 1) := by decide +kernel
theorem dX8_fine_13 : decode cX8_fine 13 = .ok (.invokevirtual 95, 3) := by decide +kernel
theorem dX8_fine_16 : decode cX8_fine 16 = .ok (.istore_n 2, 1) := by decide +kernel
theorem dX8_fine_17 : decode cX8_fine 17 = .ok (.iload_n 2, 1) := by decide +kernel
theorem dX8_fine_18 : decode cX8_fine 18 = .ok (.ifCond .ge 11, 3) := by decide +kernel
theorem dX8_fine_21 : decode cX8_fine 21 = .ok (.aload_n 0, 1) := by decide +kernel
theorem dX8_fine_22 : decode cX8_fine 22 = .ok (.iload_n 1, 1) := by decide +kernel
theorem dX8_fine_23 : decode cX8_fine 23 = .ok (.bipush 10, 2) := by decide +kernel
theorem dX8_fine_25 : decode cX8_fine 25 = .ok (.invokevirtual 91, 3) := by decide +kernel
theorem dX8_fine_28 : decode cX8_fine 28 = .ok (.ireturn, 1) := by decide +kernel
theorem dX8_fine_29 : decode cX8_fine 29 = .ok (.aload_n 0, 1) := by decide +kernel
theorem dX8_fine_30 : decode cX8_fine 30 = .ok (.getfield 56, 3) := by decide +kernel
theorem dX8_fine_33 : decode cX8_fine 33 = .ok (.bipush 103, 2) := by decide +kernel
theorem dX8_fine_35 : decode cX8_fine 35 = .ok (.aload_n 0, 1) := by decide +kernel
theorem dX8_fine_36 : decode cX8_fine 36 = .ok (.iload_n 1, 1) := by decide +kernel
theorem dX8_fine_37 : decode cX8_fine 37 = .ok (.bipush 9, 2) := by decide +kernel
theorem dX8_fine_39 : decode cX8_fine 39 = .ok (.invokevirtual 91, 3) := by decide +kernel
theorem dX8_fine_42 : decode cX8_fine 42 = .ok (.iastore, 1) := by decide +kernel
theorem dX8_fine_43 : decode cX8_fine 43 = .ok (.aload_n 0, 1) := by decide +kernel
theorem dX8_fine_44 : decode cX8_fine 44 = .ok (.getfield 56, 3) := by decide +kernel
theorem dX8_fine_47 : decode cX8_fine 47 = .ok (.bipush 101, 2) := by decide +kernel
theorem dX8_fine_49 : decode cX8_fine 49 = .ok (.aload_n 0, 1) := by decide +kernel
theorem dX8_fine_50 : decode cX8_fine 50 = .ok (.iload_n 1, 1) := by decide +kernel
theorem dX8_fine_51 : decode cX8_fine 51 = .ok (.bipush 10, 2) := by decide +kernel
theorem dX8_fine_53 : decode cX8_fine 53 = .ok (.invokevirtual 91, 3) := by decide +kernel
theorem dX8_fine_56 : decode cX8_fine 56 = .ok (.iastore, 1) := by decide +kernel
theorem dX8_fine_57 : decode cX8_fine 57 = .ok (.aload_n 0, 1) := by decide +kernel
theorem dX8_fine_58 : decode cX8_fine 58 = .ok (.iload_n 2, 1) := by decide +kernel
theorem dX8_fine_59 : decode cX8_fine 59 = .ok (.invokevirtual 99, 3) := by decide +kernel
theorem dX8_fine_62 : decode cX8_fine 62 = .ok (.ireturn, 1) := by decide +kernel
theorem dX8_feed_0 : decode cX8_feed 0 = .ok (.aload_n 0, 1) := by decide +kernel
theorem dX8_feed_1 : decode cX8_feed 1 = .ok (.getfield 206, 3) := by decide +kernel
theorem dX8_feed_4 : decode cX8_feed 4 = .ok (.bipush 12, 2) := by decide +kernel
theorem dX8_feed_6 : decode cX8_feed 6 = .ok (.iadd, 1) := by decide +kernel
theorem dX8_feed_7 : decode cX8_feed 7 = .ok (.bipush 96, 2) := by decide +kernel
theorem dX8_feed_9 : decode cX8_feed 9 = .ok (.if_icmp .le 6, 3) := by decide +kernel
theorem dX8_feed_12 : decode cX8_feed 12 = .ok (.ldc 86, 2) := by decide +kernel
theorem dX8_feed_14 : decode cX8_feed 14 = .ok (.ireturn, 1) := by decide +kernel
theorem dX8_feed_15 : decode cX8_feed 15 = .ok (.iconst 0, 1) := by decide +kernel
theorem dX8_feed_16 : decode cX8_feed 16 = .ok (.istore 4, 2) := by decide +kernel
theorem dX8_feed_18 : decode cX8_feed 18 = .ok (.iload 4, 2) := by decide +kernel
theorem dX8_feed_20 : decode cX8_feed 20 = .ok (.bipush 12, 2) := by decide +kernel
theorem dX8_feed_22 : decode cX8_feed 22 = .ok (.if_icmp .ge 69, 3) := by decide +kernel
theorem dX8_feed_25 : decode cX8_feed 25 = .ok (.iload 4, 2) := by decide +kernel
theorem dX8_feed_27 : decode cX8_feed 27 = .ok (.iconst 4, 1) := by decide +kernel
theorem dX8_feed_28 : decode cX8_feed 28 = .ok (.if_icmp .ge 7, 3) := by decide +kernel
theorem dX8_feed_31 : decode cX8_feed 31 = .ok (.iload_n 1, 1) := by decide +kernel
theorem dX8_feed_32 : decode cX8_feed 32 = .ok (.goto 15, 3) := by decide +kernel
theorem dX8_feed_35 : decode cX8_feed 35 = .ok (.iload 4, 2) := by decide +kernel
theorem dX8_feed_37 : decode cX8_feed 37 = .ok (.bipush 8, 2) := by decide +kernel
theorem dX8_feed_39 : decode cX8_feed 39 = .ok (.if_icmp .ge 7, 3) := by decide +kernel
theorem dX8_feed_42 : decode cX8_feed 42 = .ok (.iload_n 2, 1) := by decide +kernel
theorem dX8_feed_43 : decode cX8_feed 43 = .ok (.goto 4, 3) := by decide +kernel
theorem dX8_feed_46 : decode cX8_feed 46 = .ok (.iload_n 3, 1) := by decide +kernel
theorem dX8_feed_47 : decode cX8_feed 47 = .ok (.istore 5, 2) := by decide +kernel
theorem dX8_feed_49 : decode cX8_feed 49 = .ok (.aload_n 0, 1) := by decide +kernel
theorem dX8_feed_50 : decode cX8_feed 50 = .ok (.getfield 53, 3) := by decide +kernel
theorem dX8_feed_53 : decode cX8_feed 53 = .ok (.aload_n 0, 1) := by decide +kernel
theorem dX8_feed_54 : decode cX8_feed 54 = .ok (.getfield 206, 3) := by decide +kernel
theorem dX8_feed_57 : decode cX8_feed 57 = .ok (.iload 5, 2) := by decide +kernel
theorem dX8_feed_59 : decode cX8_feed 59 = .ok (.bipush 24, 2) := by decide +kernel
theorem dX8_feed_61 : decode cX8_feed 61 = .ok (.bipush 8, 2) := by decide +kernel
theorem dX8_feed_63 : decode cX8_feed 63 = .ok (.iload 4, 2) := by decide +kernel
theorem dX8_feed_65 : decode cX8_feed 65 = .ok (.iconst 4, 1) := by decide +kernel
theorem dX8_feed_66 : decode cX8_feed 66 = .ok (.irem, 1) := by decide +kernel
theorem dX8_feed_67 : decode cX8_feed 67 = .ok (.imul, 1) := by decide +kernel
theorem dX8_feed_68 : decode cX8_feed 68 = .ok (.isub, 1) := by decide +kernel
theorem dX8_feed_69 : decode cX8_feed 69 = .ok (.ishr, 1) := by decide +kernel
theorem dX8_feed_70 : decode cX8_feed 70 = .ok (.sipush 255, 3) := by decide +kernel
theorem dX8_feed_73 : decode cX8_feed 73 = .ok (.iand, 1) := by decide +kernel
theorem dX8_feed_74 : decode cX8_feed 74 = .ok (.iastore, 1) := by decide +kernel
theorem dX8_feed_75 : decode cX8_feed 75 = .ok (.aload_n 0, 1) := by decide +kernel
theorem dX8_feed_76 : decode cX8_feed 76 = .ok (.dup, 1) := by decide +kernel
theorem dX8_feed_77 : decode cX8_feed 77 = .ok (.getfield 206, 3) := by decide +kernel
theorem dX8_feed_80 : decode cX8_feed 80 = .ok (.iconst 1, 1) := by decide +kernel
theorem dX8_feed_81 : decode cX8_feed 81 = .ok (.iadd, 1) := by decide +kernel
theorem dX8_feed_82 : decode cX8_feed 82 = .ok (.putfield 206, 3) := by decide +kernel
theorem dX8_feed_85 : decode cX8_feed 85 = .ok (.iinc 4 1, 3) := by decide +kernel
theorem dX8_feed_88 : decode cX8_feed 88 = .ok (.goto (-70), 3) := by decide +kernel
theorem dX8_feed_91 : decode cX8_feed 91 = .ok (.aload_n 0, 1) := by decide +kernel
theorem dX8_feed_92 : decode cX8_feed 92 = .ok (.getfield 206, 3) := by decide +kernel
theorem dX8_feed_95 : decode cX8_feed 95 = .ok (.ireturn, 1) := by decide +kernel
theorem dX8_trim_0 : decode cX8_trim 0 = .ok (.iload_n 1, 1) := by decide +kernel
theorem dX8_trim_1 : decode cX8_trim 1 = .ok (.i2l, 1) := by decide +kernel
theorem dX8_trim_2 : decode cX8_trim 2 = .ok (.lconst 0, 1) := by decide +kernel
theorem dX8_trim_3 : decode cX8_trim 3 = .ok (.aload_n 0, 1) := by decide +kernel
theorem dX8_trim_4 : decode cX8_trim 4 = .ok (.getfield 206, 3) := by decide +kernel
theorem dX8_trim_7 : decode cX8_trim 7 = .ok (.i2l, 1) := by decide +kernel
theorem dX8_trim_8 : decode cX8_trim 8 = .ok (.invokestatic 72, 3) := by decide +kernel
theorem dX8_trim_11 : decode cX8_trim 11 = .ok (.ifCond .ne 6, 3) := by decide +kernel
theorem dX8_trim_14 : decode cX8_trim 14 = .ok (.ldc 85, 2) := by decide +kernel
theorem dX8_trim_16 : decode cX8_trim 16 = .ok (.ireturn, 1) := by decide +kernel
theorem dX8_trim_17 : decode cX8_trim 17 = .ok (.aload_n 0, 1) := by decide +kernel
theorem dX8_trim_18 : decode cX8_trim 18 = .ok (.iload_n 1, 1) := by decide +kernel
theorem dX8_trim_19 : decode cX8_trim 19 = .ok (.putfield 206, 3) := by decide +kernel
theorem dX8_trim_22 : decode cX8_trim 22 = .ok (.iload_n 1, 1) := by decide +kernel
theorem dX8_trim_23 : decode cX8_trim 23 = .ok (.ireturn, 1) := by decide +kernel
theorem dX8_isLetter_0 : decode cX8_isLetter 0 = .ok (.iload_n 1, 1) := by decide +kernel
theorem dX8_isLetter_1 : decode cX8_isLetter 1 = .ok (.aload_n 0, 1) := by decide +kernel
theorem dX8_isLetter_2 : decode cX8_isLetter 2 = .ok (.getfield 206, 3) := by decide +kernel
theorem dX8_isLetter_5 : decode cX8_isLetter 5 = .ok (.if_icmp .ge 26, 3) := by decide +kernel
theorem dX8_isLetter_8 : decode cX8_isLetter 8 = .ok (.aload_n 0, 1) := by decide +kernel
theorem dX8_isLetter_9 : decode cX8_isLetter 9 = .ok (.getfield 53, 3) := by decide +kernel
theorem dX8_isLetter_12 : decode cX8_isLetter 12 = .ok (.iload_n 1, 1) := by decide +kernel
theorem dX8_isLetter_13 : decode cX8_isLetter 13 = .ok (.iaload, 1) := by decide +kernel
theorem dX8_isLetter_14 : decode cX8_isLetter 14 = .ok (.i2l, 1) := by decide +kernel
theorem dX8_isLetter_15 : decode cX8_isLetter 15 = .ok (.ldc2_w 209, 3) := by decide +kernel
theorem dX8_isLetter_18 : decode cX8_isLetter 18 = .ok (.ldc2_w 211, 3) := by decide +kernel
theorem dX8_isLetter_21 : decode cX8_isLetter 21 = .ok (.invokestatic 72, 3) := by decide +kernel
theorem dX8_isLetter_24 : decode cX8_isLetter 24 = .ok (.ifCond .eq 7, 3) := by decide +kernel
theorem dX8_isLetter_27 : decode cX8_isLetter 27 = .ok (.iconst 1, 1) := by decide +kernel
theorem dX8_isLetter_28 : decode cX8_isLetter 28 = .ok (.goto 4, 3) := by decide +kernel
theorem dX8_isLetter_31 : decode cX8_isLetter 31 = .ok (.iconst 0, 1) := by decide +kernel
theorem dX8_isLetter_32 : decode cX8_isLetter 32 = .ok (.ireturn, 1) := by decide +kernel
theorem dX8_isDigit_0 : decode cX8_isDigit 0 = .ok (.iload_n 1, 1) := by decide +kernel
theorem dX8_isDigit_1 : decode cX8_isDigit 1 = .ok (.aload_n 0, 1) := by decide +kernel
theorem dX8_isDigit_2 : decode cX8_isDigit 2 = .ok (.getfield 206, 3) := by decide +kernel
theorem dX8_isDigit_5 : decode cX8_isDigit 5 = .ok (.if_icmp .ge 26, 3) := by decide +kernel
theorem dX8_isDigit_8 : decode cX8_isDigit 8 = .ok (.aload_n 0, 1) := by decide +kernel
theorem dX8_isDigit_9 : decode cX8_isDigit 9 = .ok (.getfield 53, 3) := by decide +kernel
theorem dX8_isDigit_12 : decode cX8_isDigit 12 = .ok (.iload_n 1, 1) := by decide +kernel
theorem dX8_isDigit_13 : decode cX8_isDigit 13 = .ok (.iaload, 1) := by decide +kernel
theorem dX8_isDigit_14 : decode cX8_isDigit 14 = .ok (.i2l, 1) := by decide +kernel
theorem dX8_isDigit_15 : decode cX8_isDigit 15 = .ok (.ldc2_w 213, 3) := by decide +kernel
theorem dX8_isDigit_18 : decode cX8_isDigit 18 = .ok (.ldc2_w 215, 3) := by decide +kernel
theorem dX8_isDigit_21 : decode cX8_isDigit 21 = .ok (.invokestatic 72, 3) := by decide +kernel
theorem dX8_isDigit_24 : decode cX8_isDigit 24 = .ok (.ifCond .eq 7, 3) := by decide +kernel
theorem dX8_isDigit_27 : decode cX8_isDigit 27 = .ok (.iconst 1, 1) := by decide +kernel
theorem dX8_isDigit_28 : decode cX8_isDigit 28 = .ok (.goto 4, 3) := by decide +kernel
theorem dX8_isDigit_31 : decode cX8_isDigit 31 = .ok (.iconst 0, 1) := by decide +kernel
theorem dX8_isDigit_32 : decode cX8_isDigit 32 = .ok (.ireturn, 1) := by decide +kernel
theorem dX8_nextToken_0 : decode cX8_nextToken 0 = .ok (.aload_n 0, 1) := by decide +kernel
theorem dX8_nextToken_1 : decode cX8_nextToken 1 = .ok (.getfield 217, 3) := by decide +kernel
theorem dX8_nextToken_4 : decode cX8_nextToken 4 = .ok (.ifCond .le 23, 3) := by decide +kernel
theorem dX8_nextToken_7 : decode cX8_nextToken 7 = .ok (.aload_n 0, 1) := by decide +kernel
theorem dX8_nextToken_8 : decode cX8_nextToken 8 = .ok (.getfield 220, 3) := by decide +kernel
theorem dX8_nextToken_11 : decode cX8_nextToken 11 = .ok (.iconst 1, 1) := by decide +kernel
theorem dX8_nextToken_12 : decode cX8_nextToken 12 = .ok (.if_icmp .eq 11, 3) := by decide +kernel
theorem dX8_nextToken_15 : decode cX8_nextToken 15 = .ok (.aload_n 0, 1) := by decide +kernel
theorem dX8_nextToken_16 : decode cX8_nextToken 16 = .ok (.getfield 220, 3) := by decide +kernel
theorem dX8_nextToken_19 : decode cX8_nextToken 19 = .ok (.iconst 2, 1) := by decide +kernel
theorem dX8_nextToken_20 : decode cX8_nextToken 20 = .ok (.if_icmp .ne 7, 3) := by decide +kernel
theorem dX8_nextToken_23 : decode cX8_nextToken 23 = .ok (.iconst 1, 1) := by decide +kernel
theorem dX8_nextToken_24 : decode cX8_nextToken 24 = .ok (.goto 4, 3) := by decide +kernel
theorem dX8_nextToken_27 : decode cX8_nextToken 27 = .ok (.iconst 0, 1) := by decide +kernel
theorem dX8_nextToken_28 : decode cX8_nextToken 28 = .ok (.istore_n 1, 1) := by decide +kernel
theorem dX8_nextToken_29 : decode cX8_nextToken 29 = .ok (.aload_n 0, 1) := by decide +kernel
theorem dX8_nextToken_30 : decode cX8_nextToken 30 = .ok (.getfield 217, 3) := by decide +kernel
theorem dX8_nextToken_33 : decode cX8_nextToken 33 = .ok (.istore_n 2, 1) := by decide +kernel
theorem dX8_nextToken_34 : decode cX8_nextToken 34 = .ok (.aload_n 0, 1) := by decide +kernel
theorem dX8_nextToken_35 : decode cX8_nextToken 35 = .ok (.getfield 217, 3) := by decide +kernel
theorem dX8_nextToken_38 : decode cX8_nextToken 38 = .ok (.aload_n 0, 1) := by decide +kernel
theorem dX8_nextToken_39 : decode cX8_nextToken 39 = .ok (.getfield 206, 3) := by decide +kernel
theorem dX8_nextToken_42 : decode cX8_nextToken 42 = .ok (.if_icmp .ge 30, 3) := by decide +kernel
theorem dX8_nextToken_45 : decode cX8_nextToken 45 = .ok (.aload_n 0, 1) := by decide +kernel
theorem dX8_nextToken_46 : decode cX8_nextToken 46 = .ok (.getfield 53, 3) := by decide +kernel
theorem dX8_nextToken_49 : decode cX8_nextToken 49 = .ok (.aload_n 0, 1) := by decide +kernel
theorem dX8_nextToken_50 : decode cX8_nextToken 50 = .ok (.getfield 217, 3) := by decide +kernel
theorem dX8_nextToken_53 : decode cX8_nextToken 53 = .ok (.iaload, 1) := by decide +kernel
theorem dX8_nextToken_54 : decode cX8_nextToken 54 = .ok (.bipush 32, 2) := by decide +kernel
theorem dX8_nextToken_56 : decode cX8_nextToken 56 = .ok (.if_icmp .ne 16, 3) := by decide +kernel
theorem dX8_nextToken_59 : decode cX8_nextToken 59 = .ok (.aload_n 0, 1) := by decide +kernel
theorem dX8_nextToken_60 : decode cX8_nextToken 60 = .ok (.dup, 1) := by decide +kernel
theorem dX8_nextToken_61 : decode cX8_nextToken 61 = .ok (.getfield 217, 3) := by decide +kernel
theorem dX8_nextToken_64 : decode cX8_nextToken 64 = .ok (.iconst 1, 1) := by decide +kernel
theorem dX8_nextToken_65 : decode cX8_nextToken 65 = .ok (.iadd, 1) := by decide +kernel
theorem dX8_nextToken_66 : decode cX8_nextToken 66 = .ok (.putfield 217, 3) := by decide +kernel
theorem dX8_nextToken_69 : decode cX8_nextToken 69 = .ok (.goto (-35), 3) := by decide +kernel
theorem dX8_nextToken_72 : decode cX8_nextToken 72 = .ok (.iload_n 1, 1) := by decide +kernel
theorem dX8_nextToken_73 : decode cX8_nextToken 73 = .ok (.ifCond .eq 15, 3) := by decide +kernel
theorem dX8_nextToken_76 : decode cX8_nextToken 76 = .ok (.iload_n 2, 1) := by decide +kernel
theorem dX8_nextToken_77 : decode cX8_nextToken 77 = .ok (.aload_n 0, 1) := by decide +kernel
theorem dX8_nextToken_78 : decode cX8_nextToken 78 = .ok (.getfield 217, 3) := by decide +kernel
theorem dX8_nextToken_81 : decode cX8_nextToken 81 = .ok (.if_icmp .ne 7, 3) := by decide +kernel
theorem dX8_nextToken_84 : decode cX8_nextToken 84 = .ok (.iconst 1, 1) := by decide +kernel
theorem dX8_nextToken_85 : decode cX8_nextToken 85 = .ok (.goto 4, 3) := by decide +kernel
theorem dX8_nextToken_88 : decode cX8_nextToken 88 = .ok (.iconst 0, 1) := by decide +kernel
theorem dX8_nextToken_89 : decode cX8_nextToken 89 = .ok (.istore_n 1, 1) := by decide +kernel
theorem dX8_nextToken_90 : decode cX8_nextToken 90 = .ok (.aload_n 0, 1) := by decide +kernel
theorem dX8_nextToken_91 : decode cX8_nextToken 91 = .ok (.aload_n 0, 1) := by decide +kernel
theorem dX8_nextToken_92 : decode cX8_nextToken 92 = .ok (.getfield 217, 3) := by decide +kernel
theorem dX8_nextToken_95 : decode cX8_nextToken 95 = .ok (.putfield 223, 3) := by decide +kernel
theorem dX8_nextToken_98 : decode cX8_nextToken 98 = .ok (.aload_n 0, 1) := by decide +kernel
theorem dX8_nextToken_99 : decode cX8_nextToken 99 = .ok (.getfield 223, 3) := by decide +kernel
theorem dX8_nextToken_102 : decode cX8_nextToken 102 = .ok (.aload_n 0, 1) := by decide +kernel
theorem dX8_nextToken_103 : decode cX8_nextToken 103 = .ok (.getfield 206, 3) := by decide +kernel
theorem dX8_nextToken_106 : decode cX8_nextToken 106 = .ok (.if_icmp .ne 11, 3) := by decide +kernel
theorem dX8_nextToken_109 : decode cX8_nextToken 109 = .ok (.aload_n 0, 1) := by decide +kernel
theorem dX8_nextToken_110 : decode cX8_nextToken 110 = .ok (.iconst 0, 1) := by decide +kernel
theorem dX8_nextToken_111 : decode cX8_nextToken 111 = .ok (.putfield 220, 3) := by decide +kernel
theorem dX8_nextToken_114 : decode cX8_nextToken 114 = .ok (.goto 225, 3) := by decide +kernel
theorem dX8_nextToken_117 : decode cX8_nextToken 117 = .ok (.aload_n 0, 1) := by decide +kernel
theorem dX8_nextToken_118 : decode cX8_nextToken 118 = .ok (.aload_n 0, 1) := by decide +kernel
theorem dX8_nextToken_119 : decode cX8_nextToken 119 = .ok (.getfield 223, 3) := by decide +kernel
theorem dX8_nextToken_122 : decode cX8_nextToken 122 = .ok (.invokevirtual 226, 3) := by decide +kernel
theorem dX8_nextToken_125 : decode cX8_nextToken 125 = .ok (.ifCond .eq 73, 3) := by decide +kernel
theorem dX8_nextToken_128 : decode cX8_nextToken 128 = .ok (.aload_n 0, 1) := by decide +kernel
theorem dX8_nextToken_129 : decode cX8_nextToken 129 = .ok (.aload_n 0, 1) := by decide +kernel
theorem dX8_nextToken_130 : decode cX8_nextToken 130 = .ok (.getfield 217, 3) := by decide +kernel
theorem dX8_nextToken_133 : decode cX8_nextToken 133 = .ok (.invokevirtual 226, 3) := by decide +kernel
theorem dX8_nextToken_136 : decode cX8_nextToken 136 = .ok (.ifCond .eq 16, 3) := by decide +kernel
theorem dX8_nextToken_139 : decode cX8_nextToken 139 = .ok (.aload_n 0, 1) := by decide +kernel
theorem dX8_nextToken_140 : decode cX8_nextToken 140 = .ok (.dup, 1) := by decide +kernel
theorem dX8_nextToken_141 : decode cX8_nextToken 141 = .ok (.getfield 217, 3) := by decide +kernel
theorem dX8_nextToken_144 : decode cX8_nextToken 144 = .ok (.iconst 1, 1) := by decide +kernel
theorem dX8_nextToken_145 : decode cX8_nextToken 145 = .ok (.iadd, 1) := by decide +kernel
theorem dX8_nextToken_146 : decode cX8_nextToken 146 = .ok (.putfield 217, 3) := by decide +kernel
theorem dX8_nextToken_149 : decode cX8_nextToken 149 = .ok (.goto (-21), 3) := by decide +kernel
theorem dX8_nextToken_152 : decode cX8_nextToken 152 = .ok (.aload_n 0, 1) := by decide +kernel
theorem dX8_nextToken_153 : decode cX8_nextToken 153 = .ok (.iload_n 1, 1) := by decide +kernel
theorem dX8_nextToken_154 : decode cX8_nextToken 154 = .ok (.ifCond .eq 7, 3) := by decide +kernel
theorem dX8_nextToken_157 : decode cX8_nextToken 157 = .ok (.iconst 4, 1) := by decide +kernel
theorem dX8_nextToken_158 : decode cX8_nextToken 158 = .ok (.goto 4, 3) := by decide +kernel
theorem dX8_nextToken_161 : decode cX8_nextToken 161 = .ok (.iconst 1, 1) := by decide +kernel
theorem dX8_nextToken_162 : decode cX8_nextToken 162 = .ok (.putfield 220, 3) := by decide +kernel
theorem dX8_nextToken_165 : decode cX8_nextToken 165 = .ok (.aload_n 0, 1) := by decide +kernel
theorem dX8_nextToken_166 : decode cX8_nextToken 166 = .ok (.aload_n 0, 1) := by decide +kernel
theorem dX8_nextToken_167 : decode cX8_nextToken 167 = .ok (.getfield 217, 3) := by decide +kernel
theorem dX8_nextToken_170 : decode cX8_nextToken 170 = .ok (.aload_n 0, 1) := by decide +kernel
theorem dX8_nextToken_171 : decode cX8_nextToken 171 = .ok (.getfield 223, 3) := by decide +kernel
theorem dX8_nextToken_174 : decode cX8_nextToken 174 = .ok (.isub, 1) := by decide +kernel
theorem dX8_nextToken_175 : decode cX8_nextToken 175 = .ok (.iconst 1, 1) := by decide +kernel
theorem dX8_nextToken_176 : decode cX8_nextToken 176 = .ok (.if_icmp .ne 15, 3) := by decide +kernel
theorem dX8_nextToken_179 : decode cX8_nextToken 179 = .ok (.aload_n 0, 1) := by decide +kernel
theorem dX8_nextToken_180 : decode cX8_nextToken 180 = .ok (.getfield 53, 3) := by decide +kernel
theorem dX8_nextToken_183 : decode cX8_nextToken 183 = .ok (.aload_n 0, 1) := by decide +kernel
theorem dX8_nextToken_184 : decode cX8_nextToken 184 = .ok (.getfield 223, 3) := by decide +kernel
theorem dX8_nextToken_187 : decode cX8_nextToken 187 = .ok (.iaload, 1) := by decide +kernel
theorem dX8_nextToken_188 : decode cX8_nextToken 188 = .ok (.goto 4, 3) := by decide +kernel
theorem dX8_nextToken_191 : decode cX8_nextToken 191 = .ok (.iconst 0, 1) := by decide +kernel
theorem dX8_nextToken_192 : decode cX8_nextToken 192 = .ok (.putfield 229, 3) := by decide +kernel
theorem dX8_nextToken_195 : decode cX8_nextToken 195 = .ok (.goto 144, 3) := by decide +kernel
theorem dX8_nextToken_198 : decode cX8_nextToken 198 = .ok (.aload_n 0, 1) := by decide +kernel
theorem dX8_nextToken_199 : decode cX8_nextToken 199 = .ok (.aload_n 0, 1) := by decide +kernel
theorem dX8_nextToken_200 : decode cX8_nextToken 200 = .ok (.getfield 223, 3) := by decide +kernel
theorem dX8_nextToken_203 : decode cX8_nextToken 203 = .ok (.invokevirtual 232, 3) := by decide +kernel
theorem dX8_nextToken_206 : decode cX8_nextToken 206 = .ok (.ifCond .eq 105, 3) := by decide +kernel
theorem dX8_nextToken_209 : decode cX8_nextToken 209 = .ok (.aload_n 0, 1) := by decide +kernel
theorem dX8_nextToken_210 : decode cX8_nextToken 210 = .ok (.iconst 0, 1) := by decide +kernel
theorem dX8_nextToken_211 : decode cX8_nextToken 211 = .ok (.putfield 235, 3) := by decide +kernel
theorem dX8_nextToken_214 : decode cX8_nextToken 214 = .ok (.aload_n 0, 1) := by decide +kernel
theorem dX8_nextToken_215 : decode cX8_nextToken 215 = .ok (.aload_n 0, 1) := by decide +kernel
theorem dX8_nextToken_216 : decode cX8_nextToken 216 = .ok (.getfield 217, 3) := by decide +kernel
theorem dX8_nextToken_219 : decode cX8_nextToken 219 = .ok (.invokevirtual 232, 3) := by decide +kernel
theorem dX8_nextToken_222 : decode cX8_nextToken 222 = .ok (.ifCond .eq 60, 3) := by decide +kernel
theorem dX8_nextToken_225 : decode cX8_nextToken 225 = .ok (.aload_n 0, 1) := by decide +kernel
theorem dX8_nextToken_226 : decode cX8_nextToken 226 = .ok (.aload_n 0, 1) := by decide +kernel
theorem dX8_nextToken_227 : decode cX8_nextToken 227 = .ok (.getfield 217, 3) := by decide +kernel
theorem dX8_nextToken_230 : decode cX8_nextToken 230 = .ok (.aload_n 0, 1) := by decide +kernel
theorem dX8_nextToken_231 : decode cX8_nextToken 231 = .ok (.getfield 223, 3) := by decide +kernel
theorem dX8_nextToken_234 : decode cX8_nextToken 234 = .ok (.isub, 1) := by decide +kernel
theorem dX8_nextToken_235 : decode cX8_nextToken 235 = .ok (.iconst 4, 1) := by decide +kernel
theorem dX8_nextToken_236 : decode cX8_nextToken 236 = .ok (.if_icmp .ge 26, 3) := by decide +kernel
theorem dX8_nextToken_239 : decode cX8_nextToken 239 = .ok (.bipush 10, 2) := by decide +kernel
theorem dX8_nextToken_241 : decode cX8_nextToken 241 = .ok (.aload_n 0, 1) := by decide +kernel
theorem dX8_nextToken_242 : decode cX8_nextToken 242 = .ok (.getfield 235, 3) := by decide +kernel
theorem dX8_nextToken_245 : decode cX8_nextToken 245 = .ok (.imul, 1) := by decide +kernel
theorem dX8_nextToken_246 : decode cX8_nextToken 246 = .ok (.aload_n 0, 1) := by decide +kernel
theorem dX8_nextToken_247 : decode cX8_nextToken 247 = .ok (.getfield 53, 3) := by decide +kernel
theorem dX8_nextToken_250 : decode cX8_nextToken 250 = .ok (.aload_n 0, 1) := by decide +kernel
theorem dX8_nextToken_251 : decode cX8_nextToken 251 = .ok (.getfield 217, 3) := by decide +kernel
theorem dX8_nextToken_254 : decode cX8_nextToken 254 = .ok (.iaload, 1) := by decide +kernel
theorem dX8_nextToken_255 : decode cX8_nextToken 255 = .ok (.iadd, 1) := by decide +kernel
theorem dX8_nextToken_256 : decode cX8_nextToken 256 = .ok (.bipush 48, 2) := by decide +kernel
theorem dX8_nextToken_258 : decode cX8_nextToken 258 = .ok (.isub, 1) := by decide +kernel
theorem dX8_nextToken_259 : decode cX8_nextToken 259 = .ok (.goto 7, 3) := by decide +kernel
theorem dX8_nextToken_262 : decode cX8_nextToken 262 = .ok (.aload_n 0, 1) := by decide +kernel
theorem dX8_nextToken_263 : decode cX8_nextToken 263 = .ok (.getfield 235, 3) := by decide +kernel
theorem dX8_nextToken_266 : decode cX8_nextToken 266 = .ok (.putfield 235, 3) := by decide +kernel
theorem dX8_nextToken_269 : decode cX8_nextToken 269 = .ok (.aload_n 0, 1) := by decide +kernel
theorem dX8_nextToken_270 : decode cX8_nextToken 270 = .ok (.dup, 1) := by decide +kernel
theorem dX8_nextToken_271 : decode cX8_nextToken 271 = .ok (.getfield 217, 3) := by decide +kernel
theorem dX8_nextToken_274 : decode cX8_nextToken 274 = .ok (.iconst 1, 1) := by decide +kernel
theorem dX8_nextToken_275 : decode cX8_nextToken 275 = .ok (.iadd, 1) := by decide +kernel
theorem dX8_nextToken_276 : decode cX8_nextToken 276 = .ok (.putfield 217, 3) := by decide +kernel
theorem dX8_nextToken_279 : decode cX8_nextToken 279 = .ok (.goto (-65), 3) := by decide +kernel
theorem dX8_nextToken_282 : decode cX8_nextToken 282 = .ok (.aload_n 0, 1) := by decide +kernel
theorem dX8_nextToken_283 : decode cX8_nextToken 283 = .ok (.iload_n 1, 1) := by decide +kernel
theorem dX8_nextToken_284 : decode cX8_nextToken 284 = .ok (.ifCond .ne 16, 3) := by decide +kernel
theorem dX8_nextToken_287 : decode cX8_nextToken 287 = .ok (.aload_n 0, 1) := by decide +kernel
theorem dX8_nextToken_288 : decode cX8_nextToken 288 = .ok (.getfield 217, 3) := by decide +kernel
theorem dX8_nextToken_291 : decode cX8_nextToken 291 = .ok (.aload_n 0, 1) := by decide +kernel
theorem dX8_nextToken_292 : decode cX8_nextToken 292 = .ok (.getfield 223, 3) := by decide +kernel
theorem dX8_nextToken_295 : decode cX8_nextToken 295 = .ok (.isub, 1) := by decide +kernel
theorem dX8_nextToken_296 : decode cX8_nextToken 296 = .ok (.iconst 4, 1) := by decide +kernel
theorem dX8_nextToken_297 : decode cX8_nextToken 297 = .ok (.if_icmp .le 7, 3) := by decide +kernel
theorem dX8_nextToken_300 : decode cX8_nextToken 300 = .ok (.iconst 4, 1) := by decide +kernel
theorem dX8_nextToken_301 : decode cX8_nextToken 301 = .ok (.goto 4, 3) := by decide +kernel
theorem dX8_nextToken_304 : decode cX8_nextToken 304 = .ok (.iconst 2, 1) := by decide +kernel
theorem dX8_nextToken_305 : decode cX8_nextToken 305 = .ok (.putfield 220, 3) := by decide +kernel
theorem dX8_nextToken_308 : decode cX8_nextToken 308 = .ok (.goto 31, 3) := by decide +kernel
theorem dX8_nextToken_311 : decode cX8_nextToken 311 = .ok (.aload_n 0, 1) := by decide +kernel
theorem dX8_nextToken_312 : decode cX8_nextToken 312 = .ok (.iconst 3, 1) := by decide +kernel
theorem dX8_nextToken_313 : decode cX8_nextToken 313 = .ok (.putfield 220, 3) := by decide +kernel
theorem dX8_nextToken_316 : decode cX8_nextToken 316 = .ok (.aload_n 0, 1) := by decide +kernel
theorem dX8_nextToken_317 : decode cX8_nextToken 317 = .ok (.aload_n 0, 1) := by decide +kernel
theorem dX8_nextToken_318 : decode cX8_nextToken 318 = .ok (.getfield 53, 3) := by decide +kernel
theorem dX8_nextToken_321 : decode cX8_nextToken 321 = .ok (.aload_n 0, 1) := by decide +kernel
theorem dX8_nextToken_322 : decode cX8_nextToken 322 = .ok (.getfield 223, 3) := by decide +kernel
theorem dX8_nextToken_325 : decode cX8_nextToken 325 = .ok (.iaload, 1) := by decide +kernel
theorem dX8_nextToken_326 : decode cX8_nextToken 326 = .ok (.putfield 229, 3) := by decide +kernel
theorem dX8_nextToken_329 : decode cX8_nextToken 329 = .ok (.aload_n 0, 1) := by decide +kernel
theorem dX8_nextToken_330 : decode cX8_nextToken 330 = .ok (.dup, 1) := by decide +kernel
theorem dX8_nextToken_331 : decode cX8_nextToken 331 = .ok (.getfield 217, 3) := by decide +kernel
theorem dX8_nextToken_334 : decode cX8_nextToken 334 = .ok (.iconst 1, 1) := by decide +kernel
theorem dX8_nextToken_335 : decode cX8_nextToken 335 = .ok (.iadd, 1) := by decide +kernel
theorem dX8_nextToken_336 : decode cX8_nextToken 336 = .ok (.putfield 217, 3) := by decide +kernel
theorem dX8_nextToken_339 : decode cX8_nextToken 339 = .ok (.return_, 1) := by decide +kernel
theorem dX8_isSign_0 : decode cX8_isSign 0 = .ok (.aload_n 0, 1) := by decide +kernel
theorem dX8_isSign_1 : decode cX8_isSign 1 = .ok (.getfield 220, 3) := by decide +kernel
theorem dX8_isSign_4 : decode cX8_isSign 4 = .ok (.iconst 3, 1) := by decide +kernel
theorem dX8_isSign_5 : decode cX8_isSign 5 = .ok (.if_icmp .ne 15, 3) := by decide +kernel
theorem dX8_isSign_8 : decode cX8_isSign 8 = .ok (.aload_n 0, 1) := by decide +kernel
theorem dX8_isSign_9 : decode cX8_isSign 9 = .ok (.getfield 229, 3) := by decide +kernel
theorem dX8_isSign_12 : decode cX8_isSign 12 = .ok (.iload_n 1, 1) := by decide +kernel
theorem dX8_isSign_13 : decode cX8_isSign 13 = .ok (.if_icmp .ne 7, 3) := by decide +kernel
theorem dX8_isSign_16 : decode cX8_isSign 16 = .ok (.iconst 1, 1) := by decide +kernel
theorem dX8_isSign_17 : decode cX8_isSign 17 = .ok (.goto 4, 3) := by decide +kernel
theorem dX8_isSign_20 : decode cX8_isSign 20 = .ok (.iconst 0, 1) := by decide +kernel
theorem dX8_isSign_21 : decode cX8_isSign 21 = .ok (.ireturn, 1) := by decide +kernel
theorem dX8_isWordAt_0 : decode cX8_isWordAt 0 = .ok (.iload 4, 2) := by decide +kernel
theorem dX8_isWordAt_2 : decode cX8_isWordAt 2 = .ok (.ifCond .ne 7, 3) := by decide +kernel
theorem dX8_isWordAt_5 : decode cX8_isWordAt 5 = .ok (.iconst 3, 1) := by decide +kernel
theorem dX8_isWordAt_6 : decode cX8_isWordAt 6 = .ok (.goto 4, 3) := by decide +kernel
theorem dX8_isWordAt_9 : decode cX8_isWordAt 9 = .ok (.iconst 4, 1) := by decide +kernel
theorem dX8_isWordAt_10 : decode cX8_isWordAt 10 = .ok (.istore 5, 2) := by decide +kernel
theorem dX8_isWordAt_12 : decode cX8_isWordAt 12 = .ok (.aload_n 0, 1) := by decide +kernel
theorem dX8_isWordAt_13 : decode cX8_isWordAt 13 = .ok (.getfield 220, 3) := by decide +kernel
theorem dX8_isWordAt_16 : decode cX8_isWordAt 16 = .ok (.iconst 1, 1) := by decide +kernel
theorem dX8_isWordAt_17 : decode cX8_isWordAt 17 = .ok (.if_icmp .ne 85, 3) := by decide +kernel
theorem dX8_isWordAt_20 : decode cX8_isWordAt 20 = .ok (.aload_n 0, 1) := by decide +kernel
theorem dX8_isWordAt_21 : decode cX8_isWordAt 21 = .ok (.getfield 217, 3) := by decide +kernel
theorem dX8_isWordAt_24 : decode cX8_isWordAt 24 = .ok (.aload_n 0, 1) := by decide +kernel
theorem dX8_isWordAt_25 : decode cX8_isWordAt 25 = .ok (.getfield 223, 3) := by decide +kernel
theorem dX8_isWordAt_28 : decode cX8_isWordAt 28 = .ok (.isub, 1) := by decide +kernel
theorem dX8_isWordAt_29 : decode cX8_isWordAt 29 = .ok (.iload 5, 2) := by decide +kernel
theorem dX8_isWordAt_31 : decode cX8_isWordAt 31 = .ok (.if_icmp .ne 71, 3) := by decide +kernel
theorem dX8_isWordAt_34 : decode cX8_isWordAt 34 = .ok (.aload_n 0, 1) := by decide +kernel
theorem dX8_isWordAt_35 : decode cX8_isWordAt 35 = .ok (.getfield 53, 3) := by decide +kernel
theorem dX8_isWordAt_38 : decode cX8_isWordAt 38 = .ok (.aload_n 0, 1) := by decide +kernel
theorem dX8_isWordAt_39 : decode cX8_isWordAt 39 = .ok (.getfield 223, 3) := by decide +kernel
theorem dX8_isWordAt_42 : decode cX8_isWordAt 42 = .ok (.iaload, 1) := by decide +kernel
theorem dX8_isWordAt_43 : decode cX8_isWordAt 43 = .ok (.iload_n 1, 1) := by decide +kernel
theorem dX8_isWordAt_44 : decode cX8_isWordAt 44 = .ok (.if_icmp .ne 58, 3) := by decide +kernel
theorem dX8_isWordAt_47 : decode cX8_isWordAt 47 = .ok (.aload_n 0, 1) := by decide +kernel
theorem dX8_isWordAt_48 : decode cX8_isWordAt 48 = .ok (.getfield 53, 3) := by decide +kernel
theorem dX8_isWordAt_51 : decode cX8_isWordAt 51 = .ok (.aload_n 0, 1) := by decide +kernel
theorem dX8_isWordAt_52 : decode cX8_isWordAt 52 = .ok (.getfield 223, 3) := by decide +kernel
theorem dX8_isWordAt_55 : decode cX8_isWordAt 55 = .ok (.iconst 1, 1) := by decide +kernel
theorem dX8_isWordAt_56 : decode cX8_isWordAt 56 = .ok (.iadd, 1) := by decide +kernel
theorem dX8_isWordAt_57 : decode cX8_isWordAt 57 = .ok (.iaload, 1) := by decide +kernel
theorem dX8_isWordAt_58 : decode cX8_isWordAt 58 = .ok (.iload_n 2, 1) := by decide +kernel
theorem dX8_isWordAt_59 : decode cX8_isWordAt 59 = .ok (.if_icmp .ne 43, 3) := by decide +kernel
theorem dX8_isWordAt_62 : decode cX8_isWordAt 62 = .ok (.aload_n 0, 1) := by decide +kernel
theorem dX8_isWordAt_63 : decode cX8_isWordAt 63 = .ok (.getfield 53, 3) := by decide +kernel
theorem dX8_isWordAt_66 : decode cX8_isWordAt 66 = .ok (.aload_n 0, 1) := by decide +kernel
theorem dX8_isWordAt_67 : decode cX8_isWordAt 67 = .ok (.getfield 223, 3) := by decide +kernel
theorem dX8_isWordAt_70 : decode cX8_isWordAt 70 = .ok (.iconst 2, 1) := by decide +kernel
theorem dX8_isWordAt_71 : decode cX8_isWordAt 71 = .ok (.iadd, 1) := by decide +kernel
theorem dX8_isWordAt_72 : decode cX8_isWordAt 72 = .ok (.iaload, 1) := by decide +kernel
theorem dX8_isWordAt_73 : decode cX8_isWordAt 73 = .ok (.iload_n 3, 1) := by decide +kernel
theorem dX8_isWordAt_74 : decode cX8_isWordAt 74 = .ok (.if_icmp .ne 28, 3) := by decide +kernel
theorem dX8_isWordAt_77 : decode cX8_isWordAt 77 = .ok (.iload 4, 2) := by decide +kernel
theorem dX8_isWordAt_79 : decode cX8_isWordAt 79 = .ok (.ifCond .eq 19, 3) := by decide +kernel
theorem dX8_isWordAt_82 : decode cX8_isWordAt 82 = .ok (.aload_n 0, 1) := by decide +kernel
theorem dX8_isWordAt_83 : decode cX8_isWordAt 83 = .ok (.getfield 53, 3) := by decide +kernel
theorem dX8_isWordAt_86 : decode cX8_isWordAt 86 = .ok (.aload_n 0, 1) := by decide +kernel
theorem dX8_isWordAt_87 : decode cX8_isWordAt 87 = .ok (.getfield 223, 3) := by decide +kernel
theorem dX8_isWordAt_90 : decode cX8_isWordAt 90 = .ok (.iconst 3, 1) := by decide +kernel
theorem dX8_isWordAt_91 : decode cX8_isWordAt 91 = .ok (.iadd, 1) := by decide +kernel
theorem dX8_isWordAt_92 : decode cX8_isWordAt 92 = .ok (.iaload, 1) := by decide +kernel
theorem dX8_isWordAt_93 : decode cX8_isWordAt 93 = .ok (.iload 4, 2) := by decide +kernel
theorem dX8_isWordAt_95 : decode cX8_isWordAt 95 = .ok (.if_icmp .ne 7, 3) := by decide +kernel
theorem dX8_isWordAt_98 : decode cX8_isWordAt 98 = .ok (.iconst 1, 1) := by decide +kernel
theorem dX8_isWordAt_99 : decode cX8_isWordAt 99 = .ok (.goto 4, 3) := by decide +kernel
theorem dX8_isWordAt_102 : decode cX8_isWordAt 102 = .ok (.iconst 0, 1) := by decide +kernel
theorem dX8_isWordAt_103 : decode cX8_isWordAt 103 = .ok (.ireturn, 1) := by decide +kernel
theorem dX8_isLong_0 : decode cX8_isLong 0 = .ok (.iload 6, 2) := by decide +kernel
theorem dX8_isLong_2 : decode cX8_isLong 2 = .ok (.ifCond .ne 7, 3) := by decide +kernel
theorem dX8_isLong_5 : decode cX8_isLong 5 = .ok (.iconst 5, 1) := by decide +kernel
theorem dX8_isLong_6 : decode cX8_isLong 6 = .ok (.goto 5, 3) := by decide +kernel
theorem dX8_isLong_9 : decode cX8_isLong 9 = .ok (.bipush 6, 2) := by decide +kernel
theorem dX8_isLong_11 : decode cX8_isLong 11 = .ok (.istore 7, 2) := by decide +kernel
theorem dX8_isLong_13 : decode cX8_isLong 13 = .ok (.aload_n 0, 1) := by decide +kernel
theorem dX8_isLong_14 : decode cX8_isLong 14 = .ok (.getfield 220, 3) := by decide +kernel
theorem dX8_isLong_17 : decode cX8_isLong 17 = .ok (.iconst 1, 1) := by decide +kernel
theorem dX8_isLong_18 : decode cX8_isLong 18 = .ok (.if_icmp .ne 117, 3) := by decide +kernel
theorem dX8_isLong_21 : decode cX8_isLong 21 = .ok (.aload_n 0, 1) := by decide +kernel
theorem dX8_isLong_22 : decode cX8_isLong 22 = .ok (.getfield 217, 3) := by decide +kernel
theorem dX8_isLong_25 : decode cX8_isLong 25 = .ok (.aload_n 0, 1) := by decide +kernel
theorem dX8_isLong_26 : decode cX8_isLong 26 = .ok (.getfield 223, 3) := by decide +kernel
theorem dX8_isLong_29 : decode cX8_isLong 29 = .ok (.isub, 1) := by decide +kernel
theorem dX8_isLong_30 : decode cX8_isLong 30 = .ok (.iload 7, 2) := by decide +kernel
theorem dX8_isLong_32 : decode cX8_isLong 32 = .ok (.if_icmp .ne 103, 3) := by decide +kernel
theorem dX8_isLong_35 : decode cX8_isLong 35 = .ok (.aload_n 0, 1) := by decide +kernel
theorem dX8_isLong_36 : decode cX8_isLong 36 = .ok (.getfield 53, 3) := by decide +kernel
theorem dX8_isLong_39 : decode cX8_isLong 39 = .ok (.aload_n 0, 1) := by decide +kernel
theorem dX8_isLong_40 : decode cX8_isLong 40 = .ok (.getfield 223, 3) := by decide +kernel
theorem dX8_isLong_43 : decode cX8_isLong 43 = .ok (.iaload, 1) := by decide +kernel
theorem dX8_isLong_44 : decode cX8_isLong 44 = .ok (.iload_n 1, 1) := by decide +kernel
theorem dX8_isLong_45 : decode cX8_isLong 45 = .ok (.if_icmp .ne 90, 3) := by decide +kernel
theorem dX8_isLong_48 : decode cX8_isLong 48 = .ok (.aload_n 0, 1) := by decide +kernel
theorem dX8_isLong_49 : decode cX8_isLong 49 = .ok (.getfield 53, 3) := by decide +kernel
theorem dX8_isLong_52 : decode cX8_isLong 52 = .ok (.aload_n 0, 1) := by decide +kernel
theorem dX8_isLong_53 : decode cX8_isLong 53 = .ok (.getfield 223, 3) := by decide +kernel
theorem dX8_isLong_56 : decode cX8_isLong 56 = .ok (.iconst 1, 1) := by decide +kernel
theorem dX8_isLong_57 : decode cX8_isLong 57 = .ok (.iadd, 1) := by decide +kernel
theorem dX8_isLong_58 : decode cX8_isLong 58 = .ok (.iaload, 1) := by decide +kernel
theorem dX8_isLong_59 : decode cX8_isLong 59 = .ok (.iload_n 2, 1) := by decide +kernel
theorem dX8_isLong_60 : decode cX8_isLong 60 = .ok (.if_icmp .ne 75, 3) := by decide +kernel
theorem dX8_isLong_63 : decode cX8_isLong 63 = .ok (.aload_n 0, 1) := by decide +kernel
theorem dX8_isLong_64 : decode cX8_isLong 64 = .ok (.getfield 53, 3) := by decide +kernel
theorem dX8_isLong_67 : decode cX8_isLong 67 = .ok (.aload_n 0, 1) := by decide +kernel
theorem dX8_isLong_68 : decode cX8_isLong 68 = .ok (.getfield 223, 3) := by decide +kernel
theorem dX8_isLong_71 : decode cX8_isLong 71 = .ok (.iconst 2, 1) := by decide +kernel
theorem dX8_isLong_72 : decode cX8_isLong 72 = .ok (.iadd, 1) := by decide +kernel
theorem dX8_isLong_73 : decode cX8_isLong 73 = .ok (.iaload, 1) := by decide +kernel
theorem dX8_isLong_74 : decode cX8_isLong 74 = .ok (.iload_n 3, 1) := by decide +kernel
theorem dX8_isLong_75 : decode cX8_isLong 75 = .ok (.if_icmp .ne 60, 3) := by decide +kernel
theorem dX8_isLong_78 : decode cX8_isLong 78 = .ok (.aload_n 0, 1) := by decide +kernel
theorem dX8_isLong_79 : decode cX8_isLong 79 = .ok (.getfield 53, 3) := by decide +kernel
theorem dX8_isLong_82 : decode cX8_isLong 82 = .ok (.aload_n 0, 1) := by decide +kernel
theorem dX8_isLong_83 : decode cX8_isLong 83 = .ok (.getfield 223, 3) := by decide +kernel
theorem dX8_isLong_86 : decode cX8_isLong 86 = .ok (.iconst 3, 1) := by decide +kernel
theorem dX8_isLong_87 : decode cX8_isLong 87 = .ok (.iadd, 1) := by decide +kernel
theorem dX8_isLong_88 : decode cX8_isLong 88 = .ok (.iaload, 1) := by decide +kernel
theorem dX8_isLong_89 : decode cX8_isLong 89 = .ok (.iload 4, 2) := by decide +kernel
theorem dX8_isLong_91 : decode cX8_isLong 91 = .ok (.if_icmp .ne 44, 3) := by decide +kernel
theorem dX8_isLong_94 : decode cX8_isLong 94 = .ok (.aload_n 0, 1) := by decide +kernel
theorem dX8_isLong_95 : decode cX8_isLong 95 = .ok (.getfield 53, 3) := by decide +kernel
theorem dX8_isLong_98 : decode cX8_isLong 98 = .ok (.aload_n 0, 1) := by decide +kernel
theorem dX8_isLong_99 : decode cX8_isLong 99 = .ok (.getfield 223, 3) := by decide +kernel
theorem dX8_isLong_102 : decode cX8_isLong 102 = .ok (.iconst 4, 1) := by decide +kernel
theorem dX8_isLong_103 : decode cX8_isLong 103 = .ok (.iadd, 1) := by decide +kernel
theorem dX8_isLong_104 : decode cX8_isLong 104 = .ok (.iaload, 1) := by decide +kernel
theorem dX8_isLong_105 : decode cX8_isLong 105 = .ok (.iload 5, 2) := by decide +kernel
theorem dX8_isLong_107 : decode cX8_isLong 107 = .ok (.if_icmp .ne 28, 3) := by decide +kernel
theorem dX8_isLong_110 : decode cX8_isLong 110 = .ok (.iload 6, 2) := by decide +kernel
theorem dX8_isLong_112 : decode cX8_isLong 112 = .ok (.ifCond .eq 19, 3) := by decide +kernel
theorem dX8_isLong_115 : decode cX8_isLong 115 = .ok (.aload_n 0, 1) := by decide +kernel
theorem dX8_isLong_116 : decode cX8_isLong 116 = .ok (.getfield 53, 3) := by decide +kernel
theorem dX8_isLong_119 : decode cX8_isLong 119 = .ok (.aload_n 0, 1) := by decide +kernel
theorem dX8_isLong_120 : decode cX8_isLong 120 = .ok (.getfield 223, 3) := by decide +kernel
theorem dX8_isLong_123 : decode cX8_isLong 123 = .ok (.iconst 5, 1) := by decide +kernel
theorem dX8_isLong_124 : decode cX8_isLong 124 = .ok (.iadd, 1) := by decide +kernel
theorem dX8_isLong_125 : decode cX8_isLong 125 = .ok (.iaload, 1) := by decide +kernel
theorem dX8_isLong_126 : decode cX8_isLong 126 = .ok (.iload 6, 2) := by decide +kernel
theorem dX8_isLong_128 : decode cX8_isLong 128 = .ok (.if_icmp .ne 7, 3) := by decide +kernel
theorem dX8_isLong_131 : decode cX8_isLong 131 = .ok (.iconst 1, 1) := by decide +kernel
theorem dX8_isLong_132 : decode cX8_isLong 132 = .ok (.goto 4, 3) := by decide +kernel
theorem dX8_isLong_135 : decode cX8_isLong 135 = .ok (.iconst 0, 1) := by decide +kernel
theorem dX8_isLong_136 : decode cX8_isLong 136 = .ok (.ireturn, 1) := by decide +kernel
theorem dX8_key_0 : decode cX8_key 0 = .ok (.aload_n 0, 1) := by decide +kernel
theorem dX8_key_1 : decode cX8_key 1 = .ok (.bipush 108, 2) := by decide +kernel
theorem dX8_key_3 : decode cX8_key 3 = .ok (.bipush 101, 2) := by decide +kernel
theorem dX8_key_5 : decode cX8_key 5 = .ok (.bipush 97, 2) := by decide +kernel
theorem dX8_key_7 : decode cX8_key 7 = .ok (.bipush 118, 2) := by decide +kernel
theorem dX8_key_9 : decode cX8_key 9 = .ok (.bipush 101, 2) := by decide +kernel
theorem dX8_key_11 : decode cX8_key 11 = .ok (.iconst 0, 1) := by decide +kernel
theorem dX8_key_12 : decode cX8_key 12 = .ok (.invokevirtual 238, 3) := by decide +kernel
theorem dX8_key_15 : decode cX8_key 15 = .ok (.ifCond .eq 5, 3) := by decide +kernel
theorem dX8_key_18 : decode cX8_key 18 = .ok (.iconst 0, 1) := by decide +kernel
theorem dX8_key_19 : decode cX8_key 19 = .ok (.ireturn, 1) := by decide +kernel
theorem dX8_key_20 : decode cX8_key 20 = .ok (.aload_n 0, 1) := by decide +kernel
theorem dX8_key_21 : decode cX8_key 21 = .ok (.bipush 115, 2) := by decide +kernel
theorem dX8_key_23 : decode cX8_key 23 = .ok (.bipush 116, 2) := by decide +kernel
theorem dX8_key_25 : decode cX8_key 25 = .ok (.bipush 97, 2) := by decide +kernel
theorem dX8_key_27 : decode cX8_key 27 = .ok (.bipush 121, 2) := by decide +kernel
theorem dX8_key_29 : decode cX8_key 29 = .ok (.invokevirtual 242, 3) := by decide +kernel
theorem dX8_key_32 : decode cX8_key 32 = .ok (.ifCond .eq 5, 3) := by decide +kernel
theorem dX8_key_35 : decode cX8_key 35 = .ok (.iconst 1, 1) := by decide +kernel
theorem dX8_key_36 : decode cX8_key 36 = .ok (.ireturn, 1) := by decide +kernel
theorem dX8_key_37 : decode cX8_key 37 = .ok (.aload_n 0, 1) := by decide +kernel
theorem dX8_key_38 : decode cX8_key 38 = .ok (.bipush 102, 2) := by decide +kernel
theorem dX8_key_40 : decode cX8_key 40 = .ok (.bipush 105, 2) := by decide +kernel
theorem dX8_key_42 : decode cX8_key 42 = .ok (.bipush 110, 2) := by decide +kernel
theorem dX8_key_44 : decode cX8_key 44 = .ok (.bipush 101, 2) := by decide +kernel
theorem dX8_key_46 : decode cX8_key 46 = .ok (.invokevirtual 242, 3) := by decide +kernel
theorem dX8_key_49 : decode cX8_key 49 = .ok (.ifCond .eq 7, 3) := by decide +kernel
theorem dX8_key_52 : decode cX8_key 52 = .ok (.iconst 2, 1) := by decide +kernel
theorem dX8_key_53 : decode cX8_key 53 = .ok (.goto 4, 3) := by decide +kernel
theorem dX8_key_56 : decode cX8_key 56 = .ok (.iconst (-1), 1) := by decide +kernel
theorem dX8_key_57 : decode cX8_key 57 = .ok (.ireturn, 1) := by decide +kernel
theorem dX8_isName_0 : decode cX8_isName 0 = .ok (.iload_n 0, 1) := by decide +kernel
theorem dX8_isName_1 : decode cX8_isName 1 = .ok (.lookupswitch 75 #[(0, 27), (1, 51)], 27) := by decide +kernel
theorem dX8_isName_28 : decode cX8_isName 28 = .ok (.iload_n 1, 1) := by decide +kernel
theorem dX8_isName_29 : decode cX8_isName 29 = .ok (.bipush 116, 2) := by decide +kernel
theorem dX8_isName_31 : decode cX8_isName 31 = .ok (.if_icmp .eq 15, 3) := by decide +kernel
theorem dX8_isName_34 : decode cX8_isName 34 = .ok (.iload_n 1, 1) := by decide +kernel
theorem dX8_isName_35 : decode cX8_isName 35 = .ok (.bipush 115, 2) := by decide +kernel
theorem dX8_isName_37 : decode cX8_isName 37 = .ok (.if_icmp .eq 9, 3) := by decide +kernel
theorem dX8_isName_40 : decode cX8_isName 40 = .ok (.iload_n 1, 1) := by decide +kernel
theorem dX8_isName_41 : decode cX8_isName 41 = .ok (.bipush 97, 2) := by decide +kernel
theorem dX8_isName_43 : decode cX8_isName 43 = .ok (.if_icmp .ne 7, 3) := by decide +kernel
theorem dX8_isName_46 : decode cX8_isName 46 = .ok (.iconst 1, 1) := by decide +kernel
theorem dX8_isName_47 : decode cX8_isName 47 = .ok (.goto 4, 3) := by decide +kernel
theorem dX8_isName_50 : decode cX8_isName 50 = .ok (.iconst 0, 1) := by decide +kernel
theorem dX8_isName_51 : decode cX8_isName 51 = .ok (.ireturn, 1) := by decide +kernel
theorem dX8_isName_52 : decode cX8_isName 52 = .ok (.iload_n 1, 1) := by decide +kernel
theorem dX8_isName_53 : decode cX8_isName 53 = .ok (.bipush 97, 2) := by decide +kernel
theorem dX8_isName_55 : decode cX8_isName 55 = .ok (.if_icmp .eq 15, 3) := by decide +kernel
theorem dX8_isName_58 : decode cX8_isName 58 = .ok (.iload_n 1, 1) := by decide +kernel
theorem dX8_isName_59 : decode cX8_isName 59 = .ok (.bipush 119, 2) := by decide +kernel
theorem dX8_isName_61 : decode cX8_isName 61 = .ok (.if_icmp .eq 9, 3) := by decide +kernel
theorem dX8_isName_64 : decode cX8_isName 64 = .ok (.iload_n 1, 1) := by decide +kernel
theorem dX8_isName_65 : decode cX8_isName 65 = .ok (.bipush 110, 2) := by decide +kernel
theorem dX8_isName_67 : decode cX8_isName 67 = .ok (.if_icmp .ne 7, 3) := by decide +kernel
theorem dX8_isName_70 : decode cX8_isName 70 = .ok (.iconst 1, 1) := by decide +kernel
theorem dX8_isName_71 : decode cX8_isName 71 = .ok (.goto 4, 3) := by decide +kernel
theorem dX8_isName_74 : decode cX8_isName 74 = .ok (.iconst 0, 1) := by decide +kernel
theorem dX8_isName_75 : decode cX8_isName 75 = .ok (.ireturn, 1) := by decide +kernel
theorem dX8_isName_76 : decode cX8_isName 76 = .ok (.iload_n 1, 1) := by decide +kernel
theorem dX8_isName_77 : decode cX8_isName 77 = .ok (.bipush 103, 2) := by decide +kernel
theorem dX8_isName_79 : decode cX8_isName 79 = .ok (.if_icmp .eq 9, 3) := by decide +kernel
theorem dX8_isName_82 : decode cX8_isName 82 = .ok (.iload_n 1, 1) := by decide +kernel
theorem dX8_isName_83 : decode cX8_isName 83 = .ok (.bipush 101, 2) := by decide +kernel
theorem dX8_isName_85 : decode cX8_isName 85 = .ok (.if_icmp .ne 7, 3) := by decide +kernel
theorem dX8_isName_88 : decode cX8_isName 88 = .ok (.iconst 1, 1) := by decide +kernel
theorem dX8_isName_89 : decode cX8_isName 89 = .ok (.goto 4, 3) := by decide +kernel
theorem dX8_isName_92 : decode cX8_isName 92 = .ok (.iconst 0, 1) := by decide +kernel
theorem dX8_isName_93 : decode cX8_isName 93 = .ok (.ireturn, 1) := by decide +kernel
theorem dX8_step_0 : decode cX8_step 0 = .ok (.aload_n 0, 1) := by decide +kernel
theorem dX8_step_1 : decode cX8_step 1 = .ok (.getfield 7, 3) := by decide +kernel
theorem dX8_step_4 : decode cX8_step 4 = .ok (.aload_n 0, 1) := by decide +kernel
theorem dX8_step_5 : decode cX8_step 5 = .ok (.getfield 246, 3) := by decide +kernel
theorem dX8_step_8 : decode cX8_step 8 = .ok (.iconst 2, 1) := by decide +kernel
theorem dX8_step_9 : decode cX8_step 9 = .ok (.aload_n 0, 1) := by decide +kernel
theorem dX8_step_10 : decode cX8_step 10 = .ok (.getfield 249, 3) := by decide +kernel
theorem dX8_step_13 : decode cX8_step 13 = .ok (.imul, 1) := by decide +kernel
theorem dX8_step_14 : decode cX8_step 14 = .ok (.iadd, 1) := by decide +kernel
theorem dX8_step_15 : decode cX8_step 15 = .ok (.iload_n 1, 1) := by decide +kernel
theorem dX8_step_16 : decode cX8_step 16 = .ok (.iastore, 1) := by decide +kernel
theorem dX8_step_17 : decode cX8_step 17 = .ok (.aload_n 0, 1) := by decide +kernel
theorem dX8_step_18 : decode cX8_step 18 = .ok (.getfield 7, 3) := by decide +kernel
theorem dX8_step_21 : decode cX8_step 21 = .ok (.aload_n 0, 1) := by decide +kernel
theorem dX8_step_22 : decode cX8_step 22 = .ok (.getfield 246, 3) := by decide +kernel
theorem dX8_step_25 : decode cX8_step 25 = .ok (.iconst 2, 1) := by decide +kernel
theorem dX8_step_26 : decode cX8_step 26 = .ok (.aload_n 0, 1) := by decide +kernel
theorem dX8_step_27 : decode cX8_step 27 = .ok (.getfield 249, 3) := by decide +kernel
theorem dX8_step_30 : decode cX8_step 30 = .ok (.imul, 1) := by decide +kernel
theorem dX8_step_31 : decode cX8_step 31 = .ok (.iadd, 1) := by decide +kernel
theorem dX8_step_32 : decode cX8_step 32 = .ok (.iconst 1, 1) := by decide +kernel
theorem dX8_step_33 : decode cX8_step 33 = .ok (.iadd, 1) := by decide +kernel
theorem dX8_step_34 : decode cX8_step 34 = .ok (.iload_n 2, 1) := by decide +kernel
theorem dX8_step_35 : decode cX8_step 35 = .ok (.iastore, 1) := by decide +kernel
theorem dX8_step_36 : decode cX8_step 36 = .ok (.aload_n 0, 1) := by decide +kernel
theorem dX8_step_37 : decode cX8_step 37 = .ok (.dup, 1) := by decide +kernel
theorem dX8_step_38 : decode cX8_step 38 = .ok (.getfield 249, 3) := by decide +kernel
theorem dX8_step_41 : decode cX8_step 41 = .ok (.iconst 1, 1) := by decide +kernel
theorem dX8_step_42 : decode cX8_step 42 = .ok (.iadd, 1) := by decide +kernel
theorem dX8_step_43 : decode cX8_step 43 = .ok (.putfield 249, 3) := by decide +kernel
theorem dX8_step_46 : decode cX8_step 46 = .ok (.return_, 1) := by decide +kernel
theorem dX8_either_0 : decode cX8_either 0 = .ok (.aload_n 0, 1) := by decide +kernel
theorem dX8_either_1 : decode cX8_either 1 = .ok (.iload_n 1, 1) := by decide +kernel
theorem dX8_either_2 : decode cX8_either 2 = .ok (.invokevirtual 252, 3) := by decide +kernel
theorem dX8_either_5 : decode cX8_either 5 = .ok (.ifCond .ne 5, 3) := by decide +kernel
theorem dX8_either_8 : decode cX8_either 8 = .ok (.iconst 0, 1) := by decide +kernel
theorem dX8_either_9 : decode cX8_either 9 = .ok (.ireturn, 1) := by decide +kernel
theorem dX8_either_10 : decode cX8_either 10 = .ok (.aload_n 0, 1) := by decide +kernel
theorem dX8_either_11 : decode cX8_either 11 = .ok (.bipush 124, 2) := by decide +kernel
theorem dX8_either_13 : decode cX8_either 13 = .ok (.invokevirtual 255, 3) := by decide +kernel
theorem dX8_either_16 : decode cX8_either 16 = .ok (.ifCond .eq 27, 3) := by decide +kernel
theorem dX8_either_19 : decode cX8_either 19 = .ok (.aload_n 0, 1) := by decide +kernel
theorem dX8_either_20 : decode cX8_either 20 = .ok (.invokevirtual 258, 3) := by decide +kernel
theorem dX8_either_23 : decode cX8_either 23 = .ok (.aload_n 0, 1) := by decide +kernel
theorem dX8_either_24 : decode cX8_either 24 = .ok (.iload_n 1, 1) := by decide +kernel
theorem dX8_either_25 : decode cX8_either 25 = .ok (.invokevirtual 252, 3) := by decide +kernel
theorem dX8_either_28 : decode cX8_either 28 = .ok (.ifCond .ne 5, 3) := by decide +kernel
theorem dX8_either_31 : decode cX8_either 31 = .ok (.iconst 0, 1) := by decide +kernel
theorem dX8_either_32 : decode cX8_either 32 = .ok (.ireturn, 1) := by decide +kernel
theorem dX8_either_33 : decode cX8_either 33 = .ok (.aload_n 0, 1) := by decide +kernel
theorem dX8_either_34 : decode cX8_either 34 = .ok (.iconst 2, 1) := by decide +kernel
theorem dX8_either_35 : decode cX8_either 35 = .ok (.bipush 124, 2) := by decide +kernel
theorem dX8_either_37 : decode cX8_either 37 = .ok (.invokevirtual 261, 3) := by decide +kernel
theorem dX8_either_40 : decode cX8_either 40 = .ok (.goto (-30), 3) := by decide +kernel
theorem dX8_either_43 : decode cX8_either 43 = .ok (.iconst 1, 1) := by decide +kernel
theorem dX8_either_44 : decode cX8_either 44 = .ok (.ireturn, 1) := by decide +kernel
theorem dX8_both_0 : decode cX8_both 0 = .ok (.aload_n 0, 1) := by decide +kernel
theorem dX8_both_1 : decode cX8_both 1 = .ok (.iload_n 1, 1) := by decide +kernel
theorem dX8_both_2 : decode cX8_both 2 = .ok (.invokevirtual 264, 3) := by decide +kernel
theorem dX8_both_5 : decode cX8_both 5 = .ok (.ifCond .ne 5, 3) := by decide +kernel
theorem dX8_both_8 : decode cX8_both 8 = .ok (.iconst 0, 1) := by decide +kernel
theorem dX8_both_9 : decode cX8_both 9 = .ok (.ireturn, 1) := by decide +kernel
theorem dX8_both_10 : decode cX8_both 10 = .ok (.aload_n 0, 1) := by decide +kernel
theorem dX8_both_11 : decode cX8_both 11 = .ok (.bipush 38, 2) := by decide +kernel
theorem dX8_both_13 : decode cX8_both 13 = .ok (.invokevirtual 255, 3) := by decide +kernel
theorem dX8_both_16 : decode cX8_both 16 = .ok (.ifCond .eq 27, 3) := by decide +kernel
theorem dX8_both_19 : decode cX8_both 19 = .ok (.aload_n 0, 1) := by decide +kernel
theorem dX8_both_20 : decode cX8_both 20 = .ok (.invokevirtual 258, 3) := by decide +kernel
theorem dX8_both_23 : decode cX8_both 23 = .ok (.aload_n 0, 1) := by decide +kernel
theorem dX8_both_24 : decode cX8_both 24 = .ok (.iload_n 1, 1) := by decide +kernel
theorem dX8_both_25 : decode cX8_both 25 = .ok (.invokevirtual 264, 3) := by decide +kernel
theorem dX8_both_28 : decode cX8_both 28 = .ok (.ifCond .ne 5, 3) := by decide +kernel
theorem dX8_both_31 : decode cX8_both 31 = .ok (.iconst 0, 1) := by decide +kernel
theorem dX8_both_32 : decode cX8_both 32 = .ok (.ireturn, 1) := by decide +kernel
theorem dX8_both_33 : decode cX8_both 33 = .ok (.aload_n 0, 1) := by decide +kernel
theorem dX8_both_34 : decode cX8_both 34 = .ok (.iconst 2, 1) := by decide +kernel
theorem dX8_both_35 : decode cX8_both 35 = .ok (.bipush 38, 2) := by decide +kernel
theorem dX8_both_37 : decode cX8_both 37 = .ok (.invokevirtual 261, 3) := by decide +kernel
theorem dX8_both_40 : decode cX8_both 40 = .ok (.goto (-30), 3) := by decide +kernel
theorem dX8_both_43 : decode cX8_both 43 = .ok (.iconst 1, 1) := by decide +kernel
theorem dX8_both_44 : decode cX8_both 44 = .ok (.ireturn, 1) := by decide +kernel
theorem dX8_test_0 : decode cX8_test 0 = .ok (.aload_n 0, 1) := by decide +kernel
theorem dX8_test_1 : decode cX8_test 1 = .ok (.iload_n 1, 1) := by decide +kernel
theorem dX8_test_2 : decode cX8_test 2 = .ok (.invokevirtual 267, 3) := by decide +kernel
theorem dX8_test_5 : decode cX8_test 5 = .ok (.ifCond .ne 5, 3) := by decide +kernel
theorem dX8_test_8 : decode cX8_test 8 = .ok (.iconst 0, 1) := by decide +kernel
theorem dX8_test_9 : decode cX8_test 9 = .ok (.ireturn, 1) := by decide +kernel
theorem dX8_test_10 : decode cX8_test 10 = .ok (.aload_n 0, 1) := by decide +kernel
theorem dX8_test_11 : decode cX8_test 11 = .ok (.bipush 60, 2) := by decide +kernel
theorem dX8_test_13 : decode cX8_test 13 = .ok (.invokevirtual 255, 3) := by decide +kernel
theorem dX8_test_16 : decode cX8_test 16 = .ok (.ifCond .ne 21, 3) := by decide +kernel
theorem dX8_test_19 : decode cX8_test 19 = .ok (.aload_n 0, 1) := by decide +kernel
theorem dX8_test_20 : decode cX8_test 20 = .ok (.bipush 61, 2) := by decide +kernel
theorem dX8_test_22 : decode cX8_test 22 = .ok (.invokevirtual 255, 3) := by decide +kernel
theorem dX8_test_25 : decode cX8_test 25 = .ok (.ifCond .ne 12, 3) := by decide +kernel
theorem dX8_test_28 : decode cX8_test 28 = .ok (.aload_n 0, 1) := by decide +kernel
theorem dX8_test_29 : decode cX8_test 29 = .ok (.bipush 62, 2) := by decide +kernel
theorem dX8_test_31 : decode cX8_test 31 = .ok (.invokevirtual 255, 3) := by decide +kernel
theorem dX8_test_34 : decode cX8_test 34 = .ok (.ifCond .eq 28, 3) := by decide +kernel
theorem dX8_test_37 : decode cX8_test 37 = .ok (.aload_n 0, 1) := by decide +kernel
theorem dX8_test_38 : decode cX8_test 38 = .ok (.getfield 229, 3) := by decide +kernel
theorem dX8_test_41 : decode cX8_test 41 = .ok (.istore_n 2, 1) := by decide +kernel
theorem dX8_test_42 : decode cX8_test 42 = .ok (.aload_n 0, 1) := by decide +kernel
theorem dX8_test_43 : decode cX8_test 43 = .ok (.invokevirtual 258, 3) := by decide +kernel
theorem dX8_test_46 : decode cX8_test 46 = .ok (.aload_n 0, 1) := by decide +kernel
theorem dX8_test_47 : decode cX8_test 47 = .ok (.iload_n 1, 1) := by decide +kernel
theorem dX8_test_48 : decode cX8_test 48 = .ok (.invokevirtual 267, 3) := by decide +kernel
theorem dX8_test_51 : decode cX8_test 51 = .ok (.ifCond .ne 5, 3) := by decide +kernel
theorem dX8_test_54 : decode cX8_test 54 = .ok (.iconst 0, 1) := by decide +kernel
theorem dX8_test_55 : decode cX8_test 55 = .ok (.ireturn, 1) := by decide +kernel
theorem dX8_test_56 : decode cX8_test 56 = .ok (.aload_n 0, 1) := by decide +kernel
theorem dX8_test_57 : decode cX8_test 57 = .ok (.iconst 2, 1) := by decide +kernel
theorem dX8_test_58 : decode cX8_test 58 = .ok (.iload_n 2, 1) := by decide +kernel
theorem dX8_test_59 : decode cX8_test 59 = .ok (.invokevirtual 261, 3) := by decide +kernel
theorem dX8_test_62 : decode cX8_test 62 = .ok (.iconst 1, 1) := by decide +kernel
theorem dX8_test_63 : decode cX8_test 63 = .ok (.ireturn, 1) := by decide +kernel
theorem dX8_sum_0 : decode cX8_sum 0 = .ok (.aload_n 0, 1) := by decide +kernel
theorem dX8_sum_1 : decode cX8_sum 1 = .ok (.iload_n 1, 1) := by decide +kernel
theorem dX8_sum_2 : decode cX8_sum 2 = .ok (.invokevirtual 270, 3) := by decide +kernel
theorem dX8_sum_5 : decode cX8_sum 5 = .ok (.ifCond .ne 5, 3) := by decide +kernel
theorem dX8_sum_8 : decode cX8_sum 8 = .ok (.iconst 0, 1) := by decide +kernel
theorem dX8_sum_9 : decode cX8_sum 9 = .ok (.ireturn, 1) := by decide +kernel
theorem dX8_sum_10 : decode cX8_sum 10 = .ok (.aload_n 0, 1) := by decide +kernel
theorem dX8_sum_11 : decode cX8_sum 11 = .ok (.bipush 43, 2) := by decide +kernel
theorem dX8_sum_13 : decode cX8_sum 13 = .ok (.invokevirtual 255, 3) := by decide +kernel
theorem dX8_sum_16 : decode cX8_sum 16 = .ok (.ifCond .ne 12, 3) := by decide +kernel
theorem dX8_sum_19 : decode cX8_sum 19 = .ok (.aload_n 0, 1) := by decide +kernel
theorem dX8_sum_20 : decode cX8_sum 20 = .ok (.bipush 45, 2) := by decide +kernel
theorem dX8_sum_22 : decode cX8_sum 22 = .ok (.invokevirtual 255, 3) := by decide +kernel
theorem dX8_sum_25 : decode cX8_sum 25 = .ok (.ifCond .eq 31, 3) := by decide +kernel
theorem dX8_sum_28 : decode cX8_sum 28 = .ok (.aload_n 0, 1) := by decide +kernel
theorem dX8_sum_29 : decode cX8_sum 29 = .ok (.getfield 229, 3) := by decide +kernel
theorem dX8_sum_32 : decode cX8_sum 32 = .ok (.istore_n 2, 1) := by decide +kernel
theorem dX8_sum_33 : decode cX8_sum 33 = .ok (.aload_n 0, 1) := by decide +kernel
theorem dX8_sum_34 : decode cX8_sum 34 = .ok (.invokevirtual 258, 3) := by decide +kernel
theorem dX8_sum_37 : decode cX8_sum 37 = .ok (.aload_n 0, 1) := by decide +kernel
theorem dX8_sum_38 : decode cX8_sum 38 = .ok (.iload_n 1, 1) := by decide +kernel
theorem dX8_sum_39 : decode cX8_sum 39 = .ok (.invokevirtual 270, 3) := by decide +kernel
theorem dX8_sum_42 : decode cX8_sum 42 = .ok (.ifCond .ne 5, 3) := by decide +kernel
theorem dX8_sum_45 : decode cX8_sum 45 = .ok (.iconst 0, 1) := by decide +kernel
theorem dX8_sum_46 : decode cX8_sum 46 = .ok (.ireturn, 1) := by decide +kernel
theorem dX8_sum_47 : decode cX8_sum 47 = .ok (.aload_n 0, 1) := by decide +kernel
theorem dX8_sum_48 : decode cX8_sum 48 = .ok (.iconst 2, 1) := by decide +kernel
theorem dX8_sum_49 : decode cX8_sum 49 = .ok (.iload_n 2, 1) := by decide +kernel
theorem dX8_sum_50 : decode cX8_sum 50 = .ok (.invokevirtual 261, 3) := by decide +kernel
theorem dX8_sum_53 : decode cX8_sum 53 = .ok (.goto (-43), 3) := by decide +kernel
theorem dX8_sum_56 : decode cX8_sum 56 = .ok (.iconst 1, 1) := by decide +kernel
theorem dX8_sum_57 : decode cX8_sum 57 = .ok (.ireturn, 1) := by decide +kernel
theorem dX8_term_0 : decode cX8_term 0 = .ok (.aload_n 0, 1) := by decide +kernel
theorem dX8_term_1 : decode cX8_term 1 = .ok (.iload_n 1, 1) := by decide +kernel
theorem dX8_term_2 : decode cX8_term 2 = .ok (.invokevirtual 273, 3) := by decide +kernel
theorem dX8_term_5 : decode cX8_term 5 = .ok (.ifCond .ne 5, 3) := by decide +kernel
theorem dX8_term_8 : decode cX8_term 8 = .ok (.iconst 0, 1) := by decide +kernel
theorem dX8_term_9 : decode cX8_term 9 = .ok (.ireturn, 1) := by decide +kernel
theorem dX8_term_10 : decode cX8_term 10 = .ok (.aload_n 0, 1) := by decide +kernel
theorem dX8_term_11 : decode cX8_term 11 = .ok (.bipush 42, 2) := by decide +kernel
theorem dX8_term_13 : decode cX8_term 13 = .ok (.invokevirtual 255, 3) := by decide +kernel
theorem dX8_term_16 : decode cX8_term 16 = .ok (.ifCond .ne 12, 3) := by decide +kernel
theorem dX8_term_19 : decode cX8_term 19 = .ok (.aload_n 0, 1) := by decide +kernel
theorem dX8_term_20 : decode cX8_term 20 = .ok (.bipush 47, 2) := by decide +kernel
theorem dX8_term_22 : decode cX8_term 22 = .ok (.invokevirtual 255, 3) := by decide +kernel
theorem dX8_term_25 : decode cX8_term 25 = .ok (.ifCond .eq 31, 3) := by decide +kernel
theorem dX8_term_28 : decode cX8_term 28 = .ok (.aload_n 0, 1) := by decide +kernel
theorem dX8_term_29 : decode cX8_term 29 = .ok (.getfield 229, 3) := by decide +kernel
theorem dX8_term_32 : decode cX8_term 32 = .ok (.istore_n 2, 1) := by decide +kernel
theorem dX8_term_33 : decode cX8_term 33 = .ok (.aload_n 0, 1) := by decide +kernel
theorem dX8_term_34 : decode cX8_term 34 = .ok (.invokevirtual 258, 3) := by decide +kernel
theorem dX8_term_37 : decode cX8_term 37 = .ok (.aload_n 0, 1) := by decide +kernel
theorem dX8_term_38 : decode cX8_term 38 = .ok (.iload_n 1, 1) := by decide +kernel
theorem dX8_term_39 : decode cX8_term 39 = .ok (.invokevirtual 273, 3) := by decide +kernel
theorem dX8_term_42 : decode cX8_term 42 = .ok (.ifCond .ne 5, 3) := by decide +kernel
theorem dX8_term_45 : decode cX8_term 45 = .ok (.iconst 0, 1) := by decide +kernel
theorem dX8_term_46 : decode cX8_term 46 = .ok (.ireturn, 1) := by decide +kernel
theorem dX8_term_47 : decode cX8_term 47 = .ok (.aload_n 0, 1) := by decide +kernel
theorem dX8_term_48 : decode cX8_term 48 = .ok (.iconst 2, 1) := by decide +kernel
theorem dX8_term_49 : decode cX8_term 49 = .ok (.iload_n 2, 1) := by decide +kernel
theorem dX8_term_50 : decode cX8_term 50 = .ok (.invokevirtual 261, 3) := by decide +kernel
theorem dX8_term_53 : decode cX8_term 53 = .ok (.goto (-43), 3) := by decide +kernel
theorem dX8_term_56 : decode cX8_term 56 = .ok (.iconst 1, 1) := by decide +kernel
theorem dX8_term_57 : decode cX8_term 57 = .ok (.ireturn, 1) := by decide +kernel
theorem dX8_part0_0 : decode cX8_part0 0 = .ok (.aload_n 0, 1) := by decide +kernel
theorem dX8_part0_1 : decode cX8_part0 1 = .ok (.getfield 220, 3) := by decide +kernel
theorem dX8_part0_4 : decode cX8_part0 4 = .ok (.iconst 2, 1) := by decide +kernel
theorem dX8_part0_5 : decode cX8_part0 5 = .ok (.if_icmp .ne 28, 3) := by decide +kernel
theorem dX8_part0_8 : decode cX8_part0 8 = .ok (.aload_n 0, 1) := by decide +kernel
theorem dX8_part0_9 : decode cX8_part0 9 = .ok (.iconst 0, 1) := by decide +kernel
theorem dX8_part0_10 : decode cX8_part0 10 = .ok (.aload_n 0, 1) := by decide +kernel
theorem dX8_part0_11 : decode cX8_part0 11 = .ok (.getfield 235, 3) := by decide +kernel
theorem dX8_part0_14 : decode cX8_part0 14 = .ok (.invokevirtual 261, 3) := by decide +kernel
theorem dX8_part0_17 : decode cX8_part0 17 = .ok (.aload_n 0, 1) := by decide +kernel
theorem dX8_part0_18 : decode cX8_part0 18 = .ok (.dup, 1) := by decide +kernel
theorem dX8_part0_19 : decode cX8_part0 19 = .ok (.getfield 276, 3) := by decide +kernel
theorem dX8_part0_22 : decode cX8_part0 22 = .ok (.iconst 1, 1) := by decide +kernel
theorem dX8_part0_23 : decode cX8_part0 23 = .ok (.iadd, 1) := by decide +kernel
theorem dX8_part0_24 : decode cX8_part0 24 = .ok (.putfield 276, 3) := by decide +kernel
theorem dX8_part0_27 : decode cX8_part0 27 = .ok (.aload_n 0, 1) := by decide +kernel
theorem dX8_part0_28 : decode cX8_part0 28 = .ok (.invokevirtual 258, 3) := by decide +kernel
theorem dX8_part0_31 : decode cX8_part0 31 = .ok (.iconst 1, 1) := by decide +kernel
theorem dX8_part0_32 : decode cX8_part0 32 = .ok (.ireturn, 1) := by decide +kernel
theorem dX8_part0_33 : decode cX8_part0 33 = .ok (.aload_n 0, 1) := by decide +kernel
theorem dX8_part0_34 : decode cX8_part0 34 = .ok (.getfield 220, 3) := by decide +kernel
theorem dX8_part0_37 : decode cX8_part0 37 = .ok (.iconst 1, 1) := by decide +kernel
theorem dX8_part0_38 : decode cX8_part0 38 = .ok (.if_icmp .ne 46, 3) := by decide +kernel
theorem dX8_part0_41 : decode cX8_part0 41 = .ok (.aload_n 0, 1) := by decide +kernel
theorem dX8_part0_42 : decode cX8_part0 42 = .ok (.getfield 229, 3) := by decide +kernel
theorem dX8_part0_45 : decode cX8_part0 45 = .ok (.ifCond .eq 39, 3) := by decide +kernel
theorem dX8_part0_48 : decode cX8_part0 48 = .ok (.iload_n 1, 1) := by decide +kernel
theorem dX8_part0_49 : decode cX8_part0 49 = .ok (.aload_n 0, 1) := by decide +kernel
theorem dX8_part0_50 : decode cX8_part0 50 = .ok (.getfield 229, 3) := by decide +kernel
theorem dX8_part0_53 : decode cX8_part0 53 = .ok (.invokestatic 279, 3) := by decide +kernel
theorem dX8_part0_56 : decode cX8_part0 56 = .ok (.ifCond .eq 28, 3) := by decide +kernel
theorem dX8_part0_59 : decode cX8_part0 59 = .ok (.aload_n 0, 1) := by decide +kernel
theorem dX8_part0_60 : decode cX8_part0 60 = .ok (.iconst 1, 1) := by decide +kernel
theorem dX8_part0_61 : decode cX8_part0 61 = .ok (.aload_n 0, 1) := by decide +kernel
theorem dX8_part0_62 : decode cX8_part0 62 = .ok (.getfield 229, 3) := by decide +kernel
theorem dX8_part0_65 : decode cX8_part0 65 = .ok (.invokevirtual 261, 3) := by decide +kernel
theorem dX8_part0_68 : decode cX8_part0 68 = .ok (.aload_n 0, 1) := by decide +kernel
theorem dX8_part0_69 : decode cX8_part0 69 = .ok (.dup, 1) := by decide +kernel
theorem dX8_part0_70 : decode cX8_part0 70 = .ok (.getfield 276, 3) := by decide +kernel
theorem dX8_part0_73 : decode cX8_part0 73 = .ok (.iconst 1, 1) := by decide +kernel
theorem dX8_part0_74 : decode cX8_part0 74 = .ok (.iadd, 1) := by decide +kernel
theorem dX8_part0_75 : decode cX8_part0 75 = .ok (.putfield 276, 3) := by decide +kernel
theorem dX8_part0_78 : decode cX8_part0 78 = .ok (.aload_n 0, 1) := by decide +kernel
theorem dX8_part0_79 : decode cX8_part0 79 = .ok (.invokevirtual 258, 3) := by decide +kernel
theorem dX8_part0_82 : decode cX8_part0 82 = .ok (.iconst 1, 1) := by decide +kernel
theorem dX8_part0_83 : decode cX8_part0 83 = .ok (.ireturn, 1) := by decide +kernel
theorem dX8_part0_84 : decode cX8_part0 84 = .ok (.aload_n 0, 1) := by decide +kernel
theorem dX8_part0_85 : decode cX8_part0 85 = .ok (.bipush 33, 2) := by decide +kernel
theorem dX8_part0_87 : decode cX8_part0 87 = .ok (.invokevirtual 255, 3) := by decide +kernel
theorem dX8_part0_90 : decode cX8_part0 90 = .ok (.ifCond .eq 55, 3) := by decide +kernel
theorem dX8_part0_93 : decode cX8_part0 93 = .ok (.aload_n 0, 1) := by decide +kernel
theorem dX8_part0_94 : decode cX8_part0 94 = .ok (.getfield 282, 3) := by decide +kernel
theorem dX8_part0_97 : decode cX8_part0 97 = .ok (.bipush 8, 2) := by decide +kernel
theorem dX8_part0_99 : decode cX8_part0 99 = .ok (.if_icmp .ge 46, 3) := by decide +kernel
theorem dX8_part0_102 : decode cX8_part0 102 = .ok (.aload_n 0, 1) := by decide +kernel
theorem dX8_part0_103 : decode cX8_part0 103 = .ok (.dup, 1) := by decide +kernel
theorem dX8_part0_104 : decode cX8_part0 104 = .ok (.getfield 282, 3) := by decide +kernel
theorem dX8_part0_107 : decode cX8_part0 107 = .ok (.iconst 1, 1) := by decide +kernel
theorem dX8_part0_108 : decode cX8_part0 108 = .ok (.iadd, 1) := by decide +kernel
theorem dX8_part0_109 : decode cX8_part0 109 = .ok (.putfield 282, 3) := by decide +kernel
theorem dX8_part0_112 : decode cX8_part0 112 = .ok (.aload_n 0, 1) := by decide +kernel
theorem dX8_part0_113 : decode cX8_part0 113 = .ok (.invokevirtual 258, 3) := by decide +kernel
theorem dX8_part0_116 : decode cX8_part0 116 = .ok (.aload_n 0, 1) := by decide +kernel
theorem dX8_part0_117 : decode cX8_part0 117 = .ok (.iload_n 1, 1) := by decide +kernel
theorem dX8_part0_118 : decode cX8_part0 118 = .ok (.invokevirtual 273, 3) := by decide +kernel
theorem dX8_part0_121 : decode cX8_part0 121 = .ok (.ifCond .ne 5, 3) := by decide +kernel
theorem dX8_part0_124 : decode cX8_part0 124 = .ok (.iconst 0, 1) := by decide +kernel
theorem dX8_part0_125 : decode cX8_part0 125 = .ok (.ireturn, 1) := by decide +kernel
theorem dX8_part0_126 : decode cX8_part0 126 = .ok (.aload_n 0, 1) := by decide +kernel
theorem dX8_part0_127 : decode cX8_part0 127 = .ok (.dup, 1) := by decide +kernel
theorem dX8_part0_128 : decode cX8_part0 128 = .ok (.getfield 282, 3) := by decide +kernel
theorem dX8_part0_131 : decode cX8_part0 131 = .ok (.iconst 1, 1) := by decide +kernel
theorem dX8_part0_132 : decode cX8_part0 132 = .ok (.isub, 1) := by decide +kernel
theorem dX8_part0_133 : decode cX8_part0 133 = .ok (.putfield 282, 3) := by decide +kernel
theorem dX8_part0_136 : decode cX8_part0 136 = .ok (.aload_n 0, 1) := by decide +kernel
theorem dX8_part0_137 : decode cX8_part0 137 = .ok (.iconst 2, 1) := by decide +kernel
theorem dX8_part0_138 : decode cX8_part0 138 = .ok (.bipush 33, 2) := by decide +kernel
theorem dX8_part0_140 : decode cX8_part0 140 = .ok (.invokevirtual 261, 3) := by decide +kernel
theorem dX8_part0_143 : decode cX8_part0 143 = .ok (.iconst 1, 1) := by decide +kernel
theorem dX8_part0_144 : decode cX8_part0 144 = .ok (.ireturn, 1) := by decide +kernel
theorem dX8_part0_145 : decode cX8_part0 145 = .ok (.aload_n 0, 1) := by decide +kernel
theorem dX8_part0_146 : decode cX8_part0 146 = .ok (.bipush 40, 2) := by decide +kernel
theorem dX8_part0_148 : decode cX8_part0 148 = .ok (.invokevirtual 255, 3) := by decide +kernel
theorem dX8_part0_151 : decode cX8_part0 151 = .ok (.ifCond .eq 12, 3) := by decide +kernel
theorem dX8_part0_154 : decode cX8_part0 154 = .ok (.aload_n 0, 1) := by decide +kernel
theorem dX8_part0_155 : decode cX8_part0 155 = .ok (.getfield 285, 3) := by decide +kernel
theorem dX8_part0_158 : decode cX8_part0 158 = .ok (.bipush 8, 2) := by decide +kernel
theorem dX8_part0_160 : decode cX8_part0 160 = .ok (.if_icmp .ne 5, 3) := by decide +kernel
theorem dX8_part0_163 : decode cX8_part0 163 = .ok (.iconst 0, 1) := by decide +kernel
theorem dX8_part0_164 : decode cX8_part0 164 = .ok (.ireturn, 1) := by decide +kernel
theorem dX8_part0_165 : decode cX8_part0 165 = .ok (.aload_n 0, 1) := by decide +kernel
theorem dX8_part0_166 : decode cX8_part0 166 = .ok (.dup, 1) := by decide +kernel
theorem dX8_part0_167 : decode cX8_part0 167 = .ok (.getfield 285, 3) := by decide +kernel
theorem dX8_part0_170 : decode cX8_part0 170 = .ok (.iconst 1, 1) := by decide +kernel
theorem dX8_part0_171 : decode cX8_part0 171 = .ok (.iadd, 1) := by decide +kernel
theorem dX8_part0_172 : decode cX8_part0 172 = .ok (.putfield 285, 3) := by decide +kernel
theorem dX8_part0_175 : decode cX8_part0 175 = .ok (.aload_n 0, 1) := by decide +kernel
theorem dX8_part0_176 : decode cX8_part0 176 = .ok (.invokevirtual 258, 3) := by decide +kernel
theorem dX8_part0_179 : decode cX8_part0 179 = .ok (.aload_n 0, 1) := by decide +kernel
theorem dX8_part0_180 : decode cX8_part0 180 = .ok (.iload_n 1, 1) := by decide +kernel
theorem dX8_part0_181 : decode cX8_part0 181 = .ok (.invokevirtual 288, 3) := by decide +kernel
theorem dX8_part0_184 : decode cX8_part0 184 = .ok (.ifCond .eq 12, 3) := by decide +kernel
theorem dX8_part0_187 : decode cX8_part0 187 = .ok (.aload_n 0, 1) := by decide +kernel
theorem dX8_part0_188 : decode cX8_part0 188 = .ok (.bipush 41, 2) := by decide +kernel
theorem dX8_part0_190 : decode cX8_part0 190 = .ok (.invokevirtual 255, 3) := by decide +kernel
theorem dX8_part0_193 : decode cX8_part0 193 = .ok (.ifCond .ne 5, 3) := by decide +kernel
theorem dX8_part0_196 : decode cX8_part0 196 = .ok (.iconst 0, 1) := by decide +kernel
theorem dX8_part0_197 : decode cX8_part0 197 = .ok (.ireturn, 1) := by decide +kernel
theorem dX8_part0_198 : decode cX8_part0 198 = .ok (.aload_n 0, 1) := by decide +kernel
theorem dX8_part0_199 : decode cX8_part0 199 = .ok (.dup, 1) := by decide +kernel
theorem dX8_part0_200 : decode cX8_part0 200 = .ok (.getfield 285, 3) := by decide +kernel
theorem dX8_part0_203 : decode cX8_part0 203 = .ok (.iconst 1, 1) := by decide +kernel
theorem dX8_part0_204 : decode cX8_part0 204 = .ok (.isub, 1) := by decide +kernel
theorem dX8_part0_205 : decode cX8_part0 205 = .ok (.putfield 285, 3) := by decide +kernel
theorem dX8_part0_208 : decode cX8_part0 208 = .ok (.aload_n 0, 1) := by decide +kernel
theorem dX8_part0_209 : decode cX8_part0 209 = .ok (.invokevirtual 258, 3) := by decide +kernel
theorem dX8_part0_212 : decode cX8_part0 212 = .ok (.iconst 1, 1) := by decide +kernel
theorem dX8_part0_213 : decode cX8_part0 213 = .ok (.ireturn, 1) := by decide +kernel
theorem dX8_parse_0 : decode cX8_parse 0 = .ok (.aload_n 0, 1) := by decide +kernel
theorem dX8_parse_1 : decode cX8_parse 1 = .ok (.iconst 0, 1) := by decide +kernel
theorem dX8_parse_2 : decode cX8_parse 2 = .ok (.putfield 217, 3) := by decide +kernel
theorem dX8_parse_5 : decode cX8_parse 5 = .ok (.aload_n 0, 1) := by decide +kernel
theorem dX8_parse_6 : decode cX8_parse 6 = .ok (.iconst 3, 1) := by decide +kernel
theorem dX8_parse_7 : decode cX8_parse 7 = .ok (.putfield 220, 3) := by decide +kernel
theorem dX8_parse_10 : decode cX8_parse 10 = .ok (.aload_n 0, 1) := by decide +kernel
theorem dX8_parse_11 : decode cX8_parse 11 = .ok (.iconst 0, 1) := by decide +kernel
theorem dX8_parse_12 : decode cX8_parse 12 = .ok (.putfield 285, 3) := by decide +kernel
theorem dX8_parse_15 : decode cX8_parse 15 = .ok (.aload_n 0, 1) := by decide +kernel
theorem dX8_parse_16 : decode cX8_parse 16 = .ok (.iconst 0, 1) := by decide +kernel
theorem dX8_parse_17 : decode cX8_parse 17 = .ok (.putfield 282, 3) := by decide +kernel
theorem dX8_parse_20 : decode cX8_parse 20 = .ok (.aload_n 0, 1) := by decide +kernel
theorem dX8_parse_21 : decode cX8_parse 21 = .ok (.iconst 0, 1) := by decide +kernel
theorem dX8_parse_22 : decode cX8_parse 22 = .ok (.putfield 249, 3) := by decide +kernel
theorem dX8_parse_25 : decode cX8_parse 25 = .ok (.aload_n 0, 1) := by decide +kernel
theorem dX8_parse_26 : decode cX8_parse 26 = .ok (.iconst 0, 1) := by decide +kernel
theorem dX8_parse_27 : decode cX8_parse 27 = .ok (.putfield 276, 3) := by decide +kernel
theorem dX8_parse_30 : decode cX8_parse 30 = .ok (.aload_n 0, 1) := by decide +kernel
theorem dX8_parse_31 : decode cX8_parse 31 = .ok (.aload_n 0, 1) := by decide +kernel
theorem dX8_parse_32 : decode cX8_parse 32 = .ok (.getfield 7, 3) := by decide +kernel
theorem dX8_parse_35 : decode cX8_parse 35 = .ok (.iconst 1, 1) := by decide +kernel
theorem dX8_parse_36 : decode cX8_parse 36 = .ok (.iaload, 1) := by decide +kernel
theorem dX8_parse_37 : decode cX8_parse 37 = .ok (.bipush 14, 2) := by decide +kernel
theorem dX8_parse_39 : decode cX8_parse 39 = .ok (.if_icmp .ge 18, 3) := by decide +kernel
theorem dX8_parse_42 : decode cX8_parse 42 = .ok (.aload_n 0, 1) := by decide +kernel
theorem dX8_parse_43 : decode cX8_parse 43 = .ok (.aload_n 0, 1) := by decide +kernel
theorem dX8_parse_44 : decode cX8_parse 44 = .ok (.getfield 7, 3) := by decide +kernel
theorem dX8_parse_47 : decode cX8_parse 47 = .ok (.iconst 1, 1) := by decide +kernel
theorem dX8_parse_48 : decode cX8_parse 48 = .ok (.iaload, 1) := by decide +kernel
theorem dX8_parse_49 : decode cX8_parse 49 = .ok (.invokevirtual 291, 3) := by decide +kernel
theorem dX8_parse_52 : decode cX8_parse 52 = .ok (.iconst 4, 1) := by decide +kernel
theorem dX8_parse_53 : decode cX8_parse 53 = .ok (.iadd, 1) := by decide +kernel
theorem dX8_parse_54 : decode cX8_parse 54 = .ok (.goto 6, 3) := by decide +kernel
theorem dX8_parse_57 : decode cX8_parse 57 = .ok (.sipush 2908, 3) := by decide +kernel
theorem dX8_parse_60 : decode cX8_parse 60 = .ok (.putfield 246, 3) := by decide +kernel
theorem dX8_parse_63 : decode cX8_parse 63 = .ok (.aload_n 0, 1) := by decide +kernel
theorem dX8_parse_64 : decode cX8_parse 64 = .ok (.invokevirtual 258, 3) := by decide +kernel
theorem dX8_parse_67 : decode cX8_parse 67 = .ok (.aload_n 0, 1) := by decide +kernel
theorem dX8_parse_68 : decode cX8_parse 68 = .ok (.invokevirtual 294, 3) := by decide +kernel
theorem dX8_parse_71 : decode cX8_parse 71 = .ok (.istore_n 1, 1) := by decide +kernel
theorem dX8_parse_72 : decode cX8_parse 72 = .ok (.iload_n 1, 1) := by decide +kernel
theorem dX8_parse_73 : decode cX8_parse 73 = .ok (.ifCond .lt 7, 3) := by decide +kernel
theorem dX8_parse_76 : decode cX8_parse 76 = .ok (.iconst 1, 1) := by decide +kernel
theorem dX8_parse_77 : decode cX8_parse 77 = .ok (.goto 4, 3) := by decide +kernel
theorem dX8_parse_80 : decode cX8_parse 80 = .ok (.iconst 0, 1) := by decide +kernel
theorem dX8_parse_81 : decode cX8_parse 81 = .ok (.istore_n 2, 1) := by decide +kernel
theorem dX8_parse_82 : decode cX8_parse 82 = .ok (.iload_n 2, 1) := by decide +kernel
theorem dX8_parse_83 : decode cX8_parse 83 = .ok (.ifCond .eq 28, 3) := by decide +kernel
theorem dX8_parse_86 : decode cX8_parse 86 = .ok (.aload_n 0, 1) := by decide +kernel
theorem dX8_parse_87 : decode cX8_parse 87 = .ok (.invokevirtual 258, 3) := by decide +kernel
theorem dX8_parse_90 : decode cX8_parse 90 = .ok (.aload_n 0, 1) := by decide +kernel
theorem dX8_parse_91 : decode cX8_parse 91 = .ok (.iload_n 1, 1) := by decide +kernel
theorem dX8_parse_92 : decode cX8_parse 92 = .ok (.invokevirtual 288, 3) := by decide +kernel
theorem dX8_parse_95 : decode cX8_parse 95 = .ok (.ifCond .eq 14, 3) := by decide +kernel
theorem dX8_parse_98 : decode cX8_parse 98 = .ok (.aload_n 0, 1) := by decide +kernel
theorem dX8_parse_99 : decode cX8_parse 99 = .ok (.getfield 220, 3) := by decide +kernel
theorem dX8_parse_102 : decode cX8_parse 102 = .ok (.ifCond .ne 7, 3) := by decide +kernel
theorem dX8_parse_105 : decode cX8_parse 105 = .ok (.iconst 1, 1) := by decide +kernel
theorem dX8_parse_106 : decode cX8_parse 106 = .ok (.goto 4, 3) := by decide +kernel
theorem dX8_parse_109 : decode cX8_parse 109 = .ok (.iconst 0, 1) := by decide +kernel
theorem dX8_parse_110 : decode cX8_parse 110 = .ok (.istore_n 2, 1) := by decide +kernel
theorem dX8_parse_111 : decode cX8_parse 111 = .ok (.aload_n 0, 1) := by decide +kernel
theorem dX8_parse_112 : decode cX8_parse 112 = .ok (.iconst 0, 1) := by decide +kernel
theorem dX8_parse_113 : decode cX8_parse 113 = .ok (.putfield 206, 3) := by decide +kernel
theorem dX8_parse_116 : decode cX8_parse 116 = .ok (.iload_n 2, 1) := by decide +kernel
theorem dX8_parse_117 : decode cX8_parse 117 = .ok (.ifCond .eq 7, 3) := by decide +kernel
theorem dX8_parse_120 : decode cX8_parse 120 = .ok (.iload_n 1, 1) := by decide +kernel
theorem dX8_parse_121 : decode cX8_parse 121 = .ok (.goto 4, 3) := by decide +kernel
theorem dX8_parse_124 : decode cX8_parse 124 = .ok (.iconst (-1), 1) := by decide +kernel
theorem dX8_parse_125 : decode cX8_parse 125 = .ok (.ireturn, 1) := by decide +kernel
theorem dX8_text_0 : decode cX8_text 0 = .ok (.aload_n 0, 1) := by decide +kernel
theorem dX8_text_1 : decode cX8_text 1 = .ok (.invokevirtual 297, 3) := by decide +kernel
theorem dX8_text_4 : decode cX8_text 4 = .ok (.istore_n 1, 1) := by decide +kernel
theorem dX8_text_5 : decode cX8_text 5 = .ok (.iload_n 1, 1) := by decide +kernel
theorem dX8_text_6 : decode cX8_text 6 = .ok (.ifCond .ge 11, 3) := by decide +kernel
theorem dX8_text_9 : decode cX8_text 9 = .ok (.bipush (-100), 2) := by decide +kernel
theorem dX8_text_11 : decode cX8_text 11 = .ok (.aload_n 0, 1) := by decide +kernel
theorem dX8_text_12 : decode cX8_text 12 = .ok (.getfield 223, 3) := by decide +kernel
theorem dX8_text_15 : decode cX8_text 15 = .ok (.isub, 1) := by decide +kernel
theorem dX8_text_16 : decode cX8_text 16 = .ok (.ireturn, 1) := by decide +kernel
theorem dX8_text_17 : decode cX8_text 17 = .ok (.aload_n 0, 1) := by decide +kernel
theorem dX8_text_18 : decode cX8_text 18 = .ok (.getfield 7, 3) := by decide +kernel
theorem dX8_text_21 : decode cX8_text 21 = .ok (.iconst 1, 1) := by decide +kernel
theorem dX8_text_22 : decode cX8_text 22 = .ok (.iaload, 1) := by decide +kernel
theorem dX8_text_23 : decode cX8_text 23 = .ok (.bipush 14, 2) := by decide +kernel
theorem dX8_text_25 : decode cX8_text 25 = .ok (.if_icmp .ne 6, 3) := by decide +kernel
theorem dX8_text_28 : decode cX8_text 28 = .ok (.ldc 86, 2) := by decide +kernel
theorem dX8_text_30 : decode cX8_text 30 = .ok (.ireturn, 1) := by decide +kernel
theorem dX8_text_31 : decode cX8_text 31 = .ok (.aload_n 0, 1) := by decide +kernel
theorem dX8_text_32 : decode cX8_text 32 = .ok (.aload_n 0, 1) := by decide +kernel
theorem dX8_text_33 : decode cX8_text 33 = .ok (.getfield 7, 3) := by decide +kernel
theorem dX8_text_36 : decode cX8_text 36 = .ok (.iconst 1, 1) := by decide +kernel
theorem dX8_text_37 : decode cX8_text 37 = .ok (.iaload, 1) := by decide +kernel
theorem dX8_text_38 : decode cX8_text 38 = .ok (.invokevirtual 291, 3) := by decide +kernel
theorem dX8_text_41 : decode cX8_text 41 = .ok (.istore_n 2, 1) := by decide +kernel
theorem dX8_text_42 : decode cX8_text 42 = .ok (.aload_n 0, 1) := by decide +kernel
theorem dX8_text_43 : decode cX8_text 43 = .ok (.getfield 7, 3) := by decide +kernel
theorem dX8_text_46 : decode cX8_text 46 = .ok (.iload_n 2, 1) := by decide +kernel
theorem dX8_text_47 : decode cX8_text 47 = .ok (.iconst 0, 1) := by decide +kernel
theorem dX8_text_48 : decode cX8_text 48 = .ok (.iadd, 1) := by decide +kernel
theorem dX8_text_49 : decode cX8_text 49 = .ok (.iload_n 1, 1) := by decide +kernel
theorem dX8_text_50 : decode cX8_text 50 = .ok (.iastore, 1) := by decide +kernel
theorem dX8_text_51 : decode cX8_text 51 = .ok (.aload_n 0, 1) := by decide +kernel
theorem dX8_text_52 : decode cX8_text 52 = .ok (.getfield 7, 3) := by decide +kernel
theorem dX8_text_55 : decode cX8_text 55 = .ok (.iload_n 2, 1) := by decide +kernel
theorem dX8_text_56 : decode cX8_text 56 = .ok (.iconst 1, 1) := by decide +kernel
theorem dX8_text_57 : decode cX8_text 57 = .ok (.iadd, 1) := by decide +kernel
theorem dX8_text_58 : decode cX8_text 58 = .ok (.aload_n 0, 1) := by decide +kernel
theorem dX8_text_59 : decode cX8_text 59 = .ok (.getfield 276, 3) := by decide +kernel
theorem dX8_text_62 : decode cX8_text 62 = .ok (.iastore, 1) := by decide +kernel
theorem dX8_text_63 : decode cX8_text 63 = .ok (.aload_n 0, 1) := by decide +kernel
theorem dX8_text_64 : decode cX8_text 64 = .ok (.getfield 7, 3) := by decide +kernel
theorem dX8_text_67 : decode cX8_text 67 = .ok (.iload_n 2, 1) := by decide +kernel
theorem dX8_text_68 : decode cX8_text 68 = .ok (.iconst 2, 1) := by decide +kernel
theorem dX8_text_69 : decode cX8_text 69 = .ok (.iadd, 1) := by decide +kernel
theorem dX8_text_70 : decode cX8_text 70 = .ok (.aload_n 0, 1) := by decide +kernel
theorem dX8_text_71 : decode cX8_text 71 = .ok (.getfield 249, 3) := by decide +kernel
theorem dX8_text_74 : decode cX8_text 74 = .ok (.iastore, 1) := by decide +kernel
theorem dX8_text_75 : decode cX8_text 75 = .ok (.aload_n 0, 1) := by decide +kernel
theorem dX8_text_76 : decode cX8_text 76 = .ok (.getfield 7, 3) := by decide +kernel
theorem dX8_text_79 : decode cX8_text 79 = .ok (.iconst 1, 1) := by decide +kernel
theorem dX8_text_80 : decode cX8_text 80 = .ok (.dup2, 1) := by decide +kernel
theorem dX8_text_81 : decode cX8_text 81 = .ok (.iaload, 1) := by decide +kernel
theorem dX8_text_82 : decode cX8_text 82 = .ok (.iconst 1, 1) := by decide +kernel
theorem dX8_text_83 : decode cX8_text 83 = .ok (.iadd, 1) := by decide +kernel
theorem dX8_text_84 : decode cX8_text 84 = .ok (.iastore, 1) := by decide +kernel
theorem dX8_text_85 : decode cX8_text 85 = .ok (.aload_n 0, 1) := by decide +kernel
theorem dX8_text_86 : decode cX8_text 86 = .ok (.getfield 7, 3) := by decide +kernel
theorem dX8_text_89 : decode cX8_text 89 = .ok (.iconst 1, 1) := by decide +kernel
theorem dX8_text_90 : decode cX8_text 90 = .ok (.iaload, 1) := by decide +kernel
theorem dX8_text_91 : decode cX8_text 91 = .ok (.iconst 1, 1) := by decide +kernel
theorem dX8_text_92 : decode cX8_text 92 = .ok (.isub, 1) := by decide +kernel
theorem dX8_text_93 : decode cX8_text 93 = .ok (.ireturn, 1) := by decide +kernel
theorem dX8_textTold_0 : decode cX8_textTold 0 = .ok (.aload_n 0, 1) := by decide +kernel
theorem dX8_textTold_1 : decode cX8_textTold 1 = .ok (.iload_n 1, 1) := by decide +kernel
theorem dX8_textTold_2 : decode cX8_textTold 2 = .ok (.invokevirtual 300, 3) := by decide +kernel
theorem dX8_textTold_5 : decode cX8_textTold 5 = .ok (.ifCond .eq 13, 3) := by decide +kernel
theorem dX8_textTold_8 : decode cX8_textTold 8 = .ok (.iload_n 2, 1) := by decide +kernel
theorem dX8_textTold_9 : decode cX8_textTold 9 = .ok (.i2l, 1) := by decide +kernel
theorem dX8_textTold_10 : decode cX8_textTold 10 = .ok (.lconst 0, 1) := by decide +kernel
theorem dX8_textTold_11 : decode cX8_textTold 11 = .ok (.lconst 1, 1) := by decide +kernel
theorem dX8_textTold_12 : decode cX8_textTold 12 = .ok (.invokestatic 72, 3) := by decide +kernel
theorem dX8_textTold_15 : decode cX8_textTold 15 = .ok (.ifCond .ne 6, 3) := by decide +kernel
theorem dX8_textTold_18 : decode cX8_textTold 18 = .ok (.ldc 85, 2) := by decide +kernel
theorem dX8_textTold_20 : decode cX8_textTold 20 = .ok (.ireturn, 1) := by decide +kernel
theorem dX8_textTold_21 : decode cX8_textTold 21 = .ok (.aload_n 0, 1) := by decide +kernel
theorem dX8_textTold_22 : decode cX8_textTold 22 = .ok (.getfield 7, 3) := by decide +kernel
theorem dX8_textTold_25 : decode cX8_textTold 25 = .ok (.aload_n 0, 1) := by decide +kernel
theorem dX8_textTold_26 : decode cX8_textTold 26 = .ok (.iload_n 1, 1) := by decide +kernel
theorem dX8_textTold_27 : decode cX8_textTold 27 = .ok (.invokevirtual 291, 3) := by decide +kernel
theorem dX8_textTold_30 : decode cX8_textTold 30 = .ok (.iload_n 2, 1) := by decide +kernel
theorem dX8_textTold_31 : decode cX8_textTold 31 = .ok (.iadd, 1) := by decide +kernel
theorem dX8_textTold_32 : decode cX8_textTold 32 = .ok (.iaload, 1) := by decide +kernel
theorem dX8_textTold_33 : decode cX8_textTold 33 = .ok (.ireturn, 1) := by decide +kernel
theorem dX8_counts_0 : decode cX8_counts 0 = .ok (.iconst (-1), 1) := by decide +kernel
theorem dX8_counts_1 : decode cX8_counts 1 = .ok (.istore_n 2, 1) := by decide +kernel
theorem dX8_counts_2 : decode cX8_counts 2 = .ok (.iconst 0, 1) := by decide +kernel
theorem dX8_counts_3 : decode cX8_counts 3 = .ok (.istore_n 3, 1) := by decide +kernel
theorem dX8_counts_4 : decode cX8_counts 4 = .ok (.iload_n 3, 1) := by decide +kernel
theorem dX8_counts_5 : decode cX8_counts 5 = .ok (.aload_n 0, 1) := by decide +kernel
theorem dX8_counts_6 : decode cX8_counts 6 = .ok (.getfield 7, 3) := by decide +kernel
theorem dX8_counts_9 : decode cX8_counts 9 = .ok (.iconst 1, 1) := by decide +kernel
theorem dX8_counts_10 : decode cX8_counts 10 = .ok (.iaload, 1) := by decide +kernel
theorem dX8_counts_11 : decode cX8_counts 11 = .ok (.if_icmp .ge 29, 3) := by decide +kernel
theorem dX8_counts_14 : decode cX8_counts 14 = .ok (.aload_n 0, 1) := by decide +kernel
theorem dX8_counts_15 : decode cX8_counts 15 = .ok (.getfield 7, 3) := by decide +kernel
theorem dX8_counts_18 : decode cX8_counts 18 = .ok (.aload_n 0, 1) := by decide +kernel
theorem dX8_counts_19 : decode cX8_counts 19 = .ok (.iload_n 3, 1) := by decide +kernel
theorem dX8_counts_20 : decode cX8_counts 20 = .ok (.invokevirtual 291, 3) := by decide +kernel
theorem dX8_counts_23 : decode cX8_counts 23 = .ok (.iaload, 1) := by decide +kernel
theorem dX8_counts_24 : decode cX8_counts 24 = .ok (.iload_n 1, 1) := by decide +kernel
theorem dX8_counts_25 : decode cX8_counts 25 = .ok (.if_icmp .ne 7, 3) := by decide +kernel
theorem dX8_counts_28 : decode cX8_counts 28 = .ok (.iload_n 3, 1) := by decide +kernel
theorem dX8_counts_29 : decode cX8_counts 29 = .ok (.goto 4, 3) := by decide +kernel
theorem dX8_counts_32 : decode cX8_counts 32 = .ok (.iload_n 2, 1) := by decide +kernel
theorem dX8_counts_33 : decode cX8_counts 33 = .ok (.istore_n 2, 1) := by decide +kernel
theorem dX8_counts_34 : decode cX8_counts 34 = .ok (.iinc 3 1, 3) := by decide +kernel
theorem dX8_counts_37 : decode cX8_counts 37 = .ok (.goto (-33), 3) := by decide +kernel
theorem dX8_counts_40 : decode cX8_counts 40 = .ok (.iload_n 2, 1) := by decide +kernel
theorem dX8_counts_41 : decode cX8_counts 41 = .ok (.ireturn, 1) := by decide +kernel
theorem dX8_why_0 : decode cX8_why 0 = .ok (.iload_n 1, 1) := by decide +kernel
theorem dX8_why_1 : decode cX8_why 1 = .ok (.i2l, 1) := by decide +kernel
theorem dX8_why_2 : decode cX8_why 2 = .ok (.lconst 0, 1) := by decide +kernel
theorem dX8_why_3 : decode cX8_why 3 = .ok (.ldc2_w 303, 3) := by decide +kernel
theorem dX8_why_6 : decode cX8_why 6 = .ok (.invokestatic 72, 3) := by decide +kernel
theorem dX8_why_9 : decode cX8_why 9 = .ok (.ifCond .eq 14, 3) := by decide +kernel
theorem dX8_why_12 : decode cX8_why 12 = .ok (.aload_n 0, 1) := by decide +kernel
theorem dX8_why_13 : decode cX8_why 13 = .ok (.iload_n 1, 1) := by decide +kernel
theorem dX8_why_14 : decode cX8_why 14 = .ok (.invokevirtual 95, 3) := by decide +kernel
theorem dX8_why_17 : decode cX8_why 17 = .ok (.invokestatic 203, 3) := by decide +kernel
theorem dX8_why_20 : decode cX8_why 20 = .ok (.goto 5, 3) := by decide +kernel
theorem dX8_why_23 : decode cX8_why 23 = .ok (.ldc 85, 2) := by decide +kernel
theorem dX8_why_25 : decode cX8_why 25 = .ok (.ireturn, 1) := by decide +kernel
theorem dX8_joined_0 : decode cX8_joined 0 = .ok (.iload_n 0, 1) := by decide +kernel
theorem dX8_joined_1 : decode cX8_joined 1 = .ok (.tableswitch 196 38 62 #[182, 196, 196, 196, 123, 115, 196, 119, 196, 127, 196, 196, 196, 196, 196, 196, 196, 196, 196, 196, 196, 196, 149, 171, 160], 115) := by decide +kernel
theorem dX8_joined_116 : decode cX8_joined 116 = .ok (.iload_n 1, 1) := by decide +kernel
theorem dX8_joined_117 : decode cX8_joined 117 = .ok (.iload_n 2, 1) := by decide +kernel
theorem dX8_joined_118 : decode cX8_joined 118 = .ok (.iadd, 1) := by decide +kernel
theorem dX8_joined_119 : decode cX8_joined 119 = .ok (.ireturn, 1) := by decide +kernel
theorem dX8_joined_120 : decode cX8_joined 120 = .ok (.iload_n 1, 1) := by decide +kernel
theorem dX8_joined_121 : decode cX8_joined 121 = .ok (.iload_n 2, 1) := by decide +kernel
theorem dX8_joined_122 : decode cX8_joined 122 = .ok (.isub, 1) := by decide +kernel
theorem dX8_joined_123 : decode cX8_joined 123 = .ok (.ireturn, 1) := by decide +kernel
theorem dX8_joined_124 : decode cX8_joined 124 = .ok (.iload_n 1, 1) := by decide +kernel
theorem dX8_joined_125 : decode cX8_joined 125 = .ok (.iload_n 2, 1) := by decide +kernel
theorem dX8_joined_126 : decode cX8_joined 126 = .ok (.imul, 1) := by decide +kernel
theorem dX8_joined_127 : decode cX8_joined 127 = .ok (.ireturn, 1) := by decide +kernel
theorem dX8_joined_128 : decode cX8_joined 128 = .ok (.iload_n 2, 1) := by decide +kernel
theorem dX8_joined_129 : decode cX8_joined 129 = .ok (.ifCond .ne 7, 3) := by decide +kernel
theorem dX8_joined_132 : decode cX8_joined 132 = .ok (.iconst 0, 1) := by decide +kernel
theorem dX8_joined_133 : decode cX8_joined 133 = .ok (.goto 16, 3) := by decide +kernel
theorem dX8_joined_136 : decode cX8_joined 136 = .ok (.iload_n 2, 1) := by decide +kernel
theorem dX8_joined_137 : decode cX8_joined 137 = .ok (.iconst (-1), 1) := by decide +kernel
theorem dX8_joined_138 : decode cX8_joined 138 = .ok (.if_icmp .ne 8, 3) := by decide +kernel
theorem dX8_joined_141 : decode cX8_joined 141 = .ok (.iload_n 1, 1) := by decide +kernel
theorem dX8_joined_142 : decode cX8_joined 142 = .ok (.ineg, 1) := by decide +kernel
theorem dX8_joined_143 : decode cX8_joined 143 = .ok (.goto 6, 3) := by decide +kernel
theorem dX8_joined_146 : decode cX8_joined 146 = .ok (.iload_n 1, 1) := by decide +kernel
theorem dX8_joined_147 : decode cX8_joined 147 = .ok (.iload_n 2, 1) := by decide +kernel
theorem dX8_joined_148 : decode cX8_joined 148 = .ok (.idiv, 1) := by decide +kernel
theorem dX8_joined_149 : decode cX8_joined 149 = .ok (.ireturn, 1) := by decide +kernel
theorem dX8_joined_150 : decode cX8_joined 150 = .ok (.iload_n 1, 1) := by decide +kernel
theorem dX8_joined_151 : decode cX8_joined 151 = .ok (.iload_n 2, 1) := by decide +kernel
theorem dX8_joined_152 : decode cX8_joined 152 = .ok (.if_icmp .ge 7, 3) := by decide +kernel
theorem dX8_joined_155 : decode cX8_joined 155 = .ok (.iconst 1, 1) := by decide +kernel
theorem dX8_joined_156 : decode cX8_joined 156 = .ok (.goto 4, 3) := by decide +kernel
theorem dX8_joined_159 : decode cX8_joined 159 = .ok (.iconst 0, 1) := by decide +kernel
theorem dX8_joined_160 : decode cX8_joined 160 = .ok (.ireturn, 1) := by decide +kernel
theorem dX8_joined_161 : decode cX8_joined 161 = .ok (.iload_n 1, 1) := by decide +kernel
theorem dX8_joined_162 : decode cX8_joined 162 = .ok (.iload_n 2, 1) := by decide +kernel
theorem dX8_joined_163 : decode cX8_joined 163 = .ok (.if_icmp .le 7, 3) := by decide +kernel
theorem dX8_joined_166 : decode cX8_joined 166 = .ok (.iconst 1, 1) := by decide +kernel
theorem dX8_joined_167 : decode cX8_joined 167 = .ok (.goto 4, 3) := by decide +kernel
theorem dX8_joined_170 : decode cX8_joined 170 = .ok (.iconst 0, 1) := by decide +kernel
theorem dX8_joined_171 : decode cX8_joined 171 = .ok (.ireturn, 1) := by decide +kernel
theorem dX8_joined_172 : decode cX8_joined 172 = .ok (.iload_n 1, 1) := by decide +kernel
theorem dX8_joined_173 : decode cX8_joined 173 = .ok (.iload_n 2, 1) := by decide +kernel
theorem dX8_joined_174 : decode cX8_joined 174 = .ok (.if_icmp .ne 7, 3) := by decide +kernel
theorem dX8_joined_177 : decode cX8_joined 177 = .ok (.iconst 1, 1) := by decide +kernel
theorem dX8_joined_178 : decode cX8_joined 178 = .ok (.goto 4, 3) := by decide +kernel
theorem dX8_joined_181 : decode cX8_joined 181 = .ok (.iconst 0, 1) := by decide +kernel
theorem dX8_joined_182 : decode cX8_joined 182 = .ok (.ireturn, 1) := by decide +kernel
theorem dX8_joined_183 : decode cX8_joined 183 = .ok (.iload_n 1, 1) := by decide +kernel
theorem dX8_joined_184 : decode cX8_joined 184 = .ok (.ifCond .eq 11, 3) := by decide +kernel
theorem dX8_joined_187 : decode cX8_joined 187 = .ok (.iload_n 2, 1) := by decide +kernel
theorem dX8_joined_188 : decode cX8_joined 188 = .ok (.ifCond .eq 7, 3) := by decide +kernel
theorem dX8_joined_191 : decode cX8_joined 191 = .ok (.iconst 1, 1) := by decide +kernel
theorem dX8_joined_192 : decode cX8_joined 192 = .ok (.goto 4, 3) := by decide +kernel
theorem dX8_joined_195 : decode cX8_joined 195 = .ok (.iconst 0, 1) := by decide +kernel
theorem dX8_joined_196 : decode cX8_joined 196 = .ok (.ireturn, 1) := by decide +kernel
theorem dX8_joined_197 : decode cX8_joined 197 = .ok (.iload_n 1, 1) := by decide +kernel
theorem dX8_joined_198 : decode cX8_joined 198 = .ok (.ifCond .ne 7, 3) := by decide +kernel
theorem dX8_joined_201 : decode cX8_joined 201 = .ok (.iload_n 2, 1) := by decide +kernel
theorem dX8_joined_202 : decode cX8_joined 202 = .ok (.ifCond .eq 7, 3) := by decide +kernel
theorem dX8_joined_205 : decode cX8_joined 205 = .ok (.iconst 1, 1) := by decide +kernel
theorem dX8_joined_206 : decode cX8_joined 206 = .ok (.goto 4, 3) := by decide +kernel
theorem dX8_joined_209 : decode cX8_joined 209 = .ok (.iconst 0, 1) := by decide +kernel
theorem dX8_joined_210 : decode cX8_joined 210 = .ok (.ireturn, 1) := by decide +kernel
theorem dX8_worked_0 : decode cX8_worked 0 = .ok (.iconst 0, 1) := by decide +kernel
theorem dX8_worked_1 : decode cX8_worked 1 = .ok (.istore_n 2, 1) := by decide +kernel
theorem dX8_worked_2 : decode cX8_worked 2 = .ok (.iconst 0, 1) := by decide +kernel
theorem dX8_worked_3 : decode cX8_worked 3 = .ok (.istore_n 3, 1) := by decide +kernel
theorem dX8_worked_4 : decode cX8_worked 4 = .ok (.iload_n 3, 1) := by decide +kernel
theorem dX8_worked_5 : decode cX8_worked 5 = .ok (.aload_n 0, 1) := by decide +kernel
theorem dX8_worked_6 : decode cX8_worked 6 = .ok (.getfield 7, 3) := by decide +kernel
theorem dX8_worked_9 : decode cX8_worked 9 = .ok (.aload_n 0, 1) := by decide +kernel
theorem dX8_worked_10 : decode cX8_worked 10 = .ok (.iload_n 1, 1) := by decide +kernel
theorem dX8_worked_11 : decode cX8_worked 11 = .ok (.invokevirtual 291, 3) := by decide +kernel
theorem dX8_worked_14 : decode cX8_worked 14 = .ok (.iconst 2, 1) := by decide +kernel
theorem dX8_worked_15 : decode cX8_worked 15 = .ok (.iadd, 1) := by decide +kernel
theorem dX8_worked_16 : decode cX8_worked 16 = .ok (.iaload, 1) := by decide +kernel
theorem dX8_worked_17 : decode cX8_worked 17 = .ok (.if_icmp .ge 146, 3) := by decide +kernel
theorem dX8_worked_20 : decode cX8_worked 20 = .ok (.aload_n 0, 1) := by decide +kernel
theorem dX8_worked_21 : decode cX8_worked 21 = .ok (.getfield 7, 3) := by decide +kernel
theorem dX8_worked_24 : decode cX8_worked 24 = .ok (.aload_n 0, 1) := by decide +kernel
theorem dX8_worked_25 : decode cX8_worked 25 = .ok (.iload_n 1, 1) := by decide +kernel
theorem dX8_worked_26 : decode cX8_worked 26 = .ok (.invokevirtual 291, 3) := by decide +kernel
theorem dX8_worked_29 : decode cX8_worked 29 = .ok (.iconst 4, 1) := by decide +kernel
theorem dX8_worked_30 : decode cX8_worked 30 = .ok (.iadd, 1) := by decide +kernel
theorem dX8_worked_31 : decode cX8_worked 31 = .ok (.iconst 2, 1) := by decide +kernel
theorem dX8_worked_32 : decode cX8_worked 32 = .ok (.iload_n 3, 1) := by decide +kernel
theorem dX8_worked_33 : decode cX8_worked 33 = .ok (.imul, 1) := by decide +kernel
theorem dX8_worked_34 : decode cX8_worked 34 = .ok (.iadd, 1) := by decide +kernel
theorem dX8_worked_35 : decode cX8_worked 35 = .ok (.iaload, 1) := by decide +kernel
theorem dX8_worked_36 : decode cX8_worked 36 = .ok (.istore 4, 2) := by decide +kernel
theorem dX8_worked_38 : decode cX8_worked 38 = .ok (.aload_n 0, 1) := by decide +kernel
theorem dX8_worked_39 : decode cX8_worked 39 = .ok (.getfield 7, 3) := by decide +kernel
theorem dX8_worked_42 : decode cX8_worked 42 = .ok (.aload_n 0, 1) := by decide +kernel
theorem dX8_worked_43 : decode cX8_worked 43 = .ok (.iload_n 1, 1) := by decide +kernel
theorem dX8_worked_44 : decode cX8_worked 44 = .ok (.invokevirtual 291, 3) := by decide +kernel
theorem dX8_worked_47 : decode cX8_worked 47 = .ok (.iconst 4, 1) := by decide +kernel
theorem dX8_worked_48 : decode cX8_worked 48 = .ok (.iadd, 1) := by decide +kernel
theorem dX8_worked_49 : decode cX8_worked 49 = .ok (.iconst 2, 1) := by decide +kernel
theorem dX8_worked_50 : decode cX8_worked 50 = .ok (.iload_n 3, 1) := by decide +kernel
theorem dX8_worked_51 : decode cX8_worked 51 = .ok (.imul, 1) := by decide +kernel
theorem dX8_worked_52 : decode cX8_worked 52 = .ok (.iadd, 1) := by decide +kernel
theorem dX8_worked_53 : decode cX8_worked 53 = .ok (.iconst 1, 1) := by decide +kernel
theorem dX8_worked_54 : decode cX8_worked 54 = .ok (.iadd, 1) := by decide +kernel
theorem dX8_worked_55 : decode cX8_worked 55 = .ok (.iaload, 1) := by decide +kernel
theorem dX8_worked_56 : decode cX8_worked 56 = .ok (.istore 5, 2) := by decide +kernel
theorem dX8_worked_58 : decode cX8_worked 58 = .ok (.iload 4, 2) := by decide +kernel
theorem dX8_worked_60 : decode cX8_worked 60 = .ok (.iconst 2, 1) := by decide +kernel
theorem dX8_worked_61 : decode cX8_worked 61 = .ok (.if_icmp .eq 32, 3) := by decide +kernel
theorem dX8_worked_64 : decode cX8_worked 64 = .ok (.aload_n 0, 1) := by decide +kernel
theorem dX8_worked_65 : decode cX8_worked 65 = .ok (.getfield 59, 3) := by decide +kernel
theorem dX8_worked_68 : decode cX8_worked 68 = .ok (.iload_n 2, 1) := by decide +kernel
theorem dX8_worked_69 : decode cX8_worked 69 = .ok (.iload 4, 2) := by decide +kernel
theorem dX8_worked_71 : decode cX8_worked 71 = .ok (.ifCond .ne 8, 3) := by decide +kernel
theorem dX8_worked_74 : decode cX8_worked 74 = .ok (.iload 5, 2) := by decide +kernel
theorem dX8_worked_76 : decode cX8_worked 76 = .ok (.goto 10, 3) := by decide +kernel
theorem dX8_worked_79 : decode cX8_worked 79 = .ok (.aload_n 0, 1) := by decide +kernel
theorem dX8_worked_80 : decode cX8_worked 80 = .ok (.getfield 56, 3) := by decide +kernel
theorem dX8_worked_83 : decode cX8_worked 83 = .ok (.iload 5, 2) := by decide +kernel
theorem dX8_worked_85 : decode cX8_worked 85 = .ok (.iaload, 1) := by decide +kernel
theorem dX8_worked_86 : decode cX8_worked 86 = .ok (.iastore, 1) := by decide +kernel
theorem dX8_worked_87 : decode cX8_worked 87 = .ok (.iinc 2 1, 3) := by decide +kernel
theorem dX8_worked_90 : decode cX8_worked 90 = .ok (.goto 67, 3) := by decide +kernel
theorem dX8_worked_93 : decode cX8_worked 93 = .ok (.iload 5, 2) := by decide +kernel
theorem dX8_worked_95 : decode cX8_worked 95 = .ok (.bipush 33, 2) := by decide +kernel
theorem dX8_worked_97 : decode cX8_worked 97 = .ok (.if_icmp .ne 30, 3) := by decide +kernel
theorem dX8_worked_100 : decode cX8_worked 100 = .ok (.aload_n 0, 1) := by decide +kernel
theorem dX8_worked_101 : decode cX8_worked 101 = .ok (.getfield 59, 3) := by decide +kernel
theorem dX8_worked_104 : decode cX8_worked 104 = .ok (.iload_n 2, 1) := by decide +kernel
theorem dX8_worked_105 : decode cX8_worked 105 = .ok (.iconst 1, 1) := by decide +kernel
theorem dX8_worked_106 : decode cX8_worked 106 = .ok (.isub, 1) := by decide +kernel
theorem dX8_worked_107 : decode cX8_worked 107 = .ok (.aload_n 0, 1) := by decide +kernel
theorem dX8_worked_108 : decode cX8_worked 108 = .ok (.getfield 59, 3) := by decide +kernel
theorem dX8_worked_111 : decode cX8_worked 111 = .ok (.iload_n 2, 1) := by decide +kernel
theorem dX8_worked_112 : decode cX8_worked 112 = .ok (.iconst 1, 1) := by decide +kernel
theorem dX8_worked_113 : decode cX8_worked 113 = .ok (.isub, 1) := by decide +kernel
theorem dX8_worked_114 : decode cX8_worked 114 = .ok (.iaload, 1) := by decide +kernel
theorem dX8_worked_115 : decode cX8_worked 115 = .ok (.ifCond .ne 7, 3) := by decide +kernel
theorem dX8_worked_118 : decode cX8_worked 118 = .ok (.iconst 1, 1) := by decide +kernel
theorem dX8_worked_119 : decode cX8_worked 119 = .ok (.goto 4, 3) := by decide +kernel
theorem dX8_worked_122 : decode cX8_worked 122 = .ok (.iconst 0, 1) := by decide +kernel
theorem dX8_worked_123 : decode cX8_worked 123 = .ok (.iastore, 1) := by decide +kernel
theorem dX8_worked_124 : decode cX8_worked 124 = .ok (.goto 33, 3) := by decide +kernel
theorem dX8_worked_127 : decode cX8_worked 127 = .ok (.iinc 2 (-1), 3) := by decide +kernel
theorem dX8_worked_130 : decode cX8_worked 130 = .ok (.aload_n 0, 1) := by decide +kernel
theorem dX8_worked_131 : decode cX8_worked 131 = .ok (.getfield 59, 3) := by decide +kernel
theorem dX8_worked_134 : decode cX8_worked 134 = .ok (.iload_n 2, 1) := by decide +kernel
theorem dX8_worked_135 : decode cX8_worked 135 = .ok (.iconst 1, 1) := by decide +kernel
theorem dX8_worked_136 : decode cX8_worked 136 = .ok (.isub, 1) := by decide +kernel
theorem dX8_worked_137 : decode cX8_worked 137 = .ok (.iload 5, 2) := by decide +kernel
theorem dX8_worked_139 : decode cX8_worked 139 = .ok (.aload_n 0, 1) := by decide +kernel
theorem dX8_worked_140 : decode cX8_worked 140 = .ok (.getfield 59, 3) := by decide +kernel
theorem dX8_worked_143 : decode cX8_worked 143 = .ok (.iload_n 2, 1) := by decide +kernel
theorem dX8_worked_144 : decode cX8_worked 144 = .ok (.iconst 1, 1) := by decide +kernel
theorem dX8_worked_145 : decode cX8_worked 145 = .ok (.isub, 1) := by decide +kernel
theorem dX8_worked_146 : decode cX8_worked 146 = .ok (.iaload, 1) := by decide +kernel
theorem dX8_worked_147 : decode cX8_worked 147 = .ok (.aload_n 0, 1) := by decide +kernel
theorem dX8_worked_148 : decode cX8_worked 148 = .ok (.getfield 59, 3) := by decide +kernel
theorem dX8_worked_151 : decode cX8_worked 151 = .ok (.iload_n 2, 1) := by decide +kernel
theorem dX8_worked_152 : decode cX8_worked 152 = .ok (.iaload, 1) := by decide +kernel
theorem dX8_worked_153 : decode cX8_worked 153 = .ok (.invokestatic 305, 3) := by decide +kernel
theorem dX8_worked_156 : decode cX8_worked 156 = .ok (.iastore, 1) := by decide +kernel
theorem dX8_worked_157 : decode cX8_worked 157 = .ok (.iinc 3 1, 3) := by decide +kernel
theorem dX8_worked_160 : decode cX8_worked 160 = .ok (.goto (-156), 3) := by decide +kernel
theorem dX8_worked_163 : decode cX8_worked 163 = .ok (.aload_n 0, 1) := by decide +kernel
theorem dX8_worked_164 : decode cX8_worked 164 = .ok (.getfield 59, 3) := by decide +kernel
theorem dX8_worked_167 : decode cX8_worked 167 = .ok (.iconst 0, 1) := by decide +kernel
theorem dX8_worked_168 : decode cX8_worked 168 = .ok (.iaload, 1) := by decide +kernel
theorem dX8_worked_169 : decode cX8_worked 169 = .ok (.ireturn, 1) := by decide +kernel
theorem dX8_isSheet_0 : decode cX8_isSheet 0 = .ok (.iload_n 0, 1) := by decide +kernel
theorem dX8_isSheet_1 : decode cX8_isSheet 1 = .ok (.i2l, 1) := by decide +kernel
theorem dX8_isSheet_2 : decode cX8_isSheet 2 = .ok (.lconst 0, 1) := by decide +kernel
theorem dX8_isSheet_3 : decode cX8_isSheet 3 = .ok (.ldc2_w 188, 3) := by decide +kernel
theorem dX8_isSheet_6 : decode cX8_isSheet 6 = .ok (.invokestatic 72, 3) := by decide +kernel
theorem dX8_isSheet_9 : decode cX8_isSheet 9 = .ok (.ireturn, 1) := by decide +kernel
theorem dX8_sheet_0 : decode cX8_sheet 0 = .ok (.iload_n 1, 1) := by decide +kernel
theorem dX8_sheet_1 : decode cX8_sheet 1 = .ok (.invokestatic 309, 3) := by decide +kernel
theorem dX8_sheet_4 : decode cX8_sheet 4 = .ok (.ifCond .eq 25, 3) := by decide +kernel
theorem dX8_sheet_7 : decode cX8_sheet 7 = .ok (.iload_n 2, 1) := by decide +kernel
theorem dX8_sheet_8 : decode cX8_sheet 8 = .ok (.i2l, 1) := by decide +kernel
theorem dX8_sheet_9 : decode cX8_sheet 9 = .ok (.ldc2_w 312, 3) := by decide +kernel
theorem dX8_sheet_12 : decode cX8_sheet 12 = .ok (.lconst 1, 1) := by decide +kernel
theorem dX8_sheet_13 : decode cX8_sheet 13 = .ok (.invokestatic 72, 3) := by decide +kernel
theorem dX8_sheet_16 : decode cX8_sheet 16 = .ok (.ifCond .eq 13, 3) := by decide +kernel
theorem dX8_sheet_19 : decode cX8_sheet 19 = .ok (.iload_n 2, 1) := by decide +kernel
theorem dX8_sheet_20 : decode cX8_sheet 20 = .ok (.ifCond .lt 12, 3) := by decide +kernel
theorem dX8_sheet_23 : decode cX8_sheet 23 = .ok (.iload_n 3, 1) := by decide +kernel
theorem dX8_sheet_24 : decode cX8_sheet 24 = .ok (.bipush 24, 2) := by decide +kernel
theorem dX8_sheet_26 : decode cX8_sheet 26 = .ok (.if_icmp .le 6, 3) := by decide +kernel
theorem dX8_sheet_29 : decode cX8_sheet 29 = .ok (.ldc 85, 2) := by decide +kernel
theorem dX8_sheet_31 : decode cX8_sheet 31 = .ok (.ireturn, 1) := by decide +kernel
theorem dX8_sheet_32 : decode cX8_sheet 32 = .ok (.iload_n 2, 1) := by decide +kernel
theorem dX8_sheet_33 : decode cX8_sheet 33 = .ok (.ifCond .lt 11, 3) := by decide +kernel
theorem dX8_sheet_36 : decode cX8_sheet 36 = .ok (.iload_n 3, 1) := by decide +kernel
theorem dX8_sheet_37 : decode cX8_sheet 37 = .ok (.ifCond .ge 7, 3) := by decide +kernel
theorem dX8_sheet_40 : decode cX8_sheet 40 = .ok (.ldc_w 314, 3) := by decide +kernel
theorem dX8_sheet_43 : decode cX8_sheet 43 = .ok (.ireturn, 1) := by decide +kernel
theorem dX8_sheet_44 : decode cX8_sheet 44 = .ok (.aload_n 0, 1) := by decide +kernel
theorem dX8_sheet_45 : decode cX8_sheet 45 = .ok (.getfield 19, 3) := by decide +kernel
theorem dX8_sheet_48 : decode cX8_sheet 48 = .ok (.iload_n 1, 1) := by decide +kernel
theorem dX8_sheet_49 : decode cX8_sheet 49 = .ok (.iload_n 2, 1) := by decide +kernel
theorem dX8_sheet_50 : decode cX8_sheet 50 = .ok (.iastore, 1) := by decide +kernel
theorem dX8_sheet_51 : decode cX8_sheet 51 = .ok (.aload_n 0, 1) := by decide +kernel
theorem dX8_sheet_52 : decode cX8_sheet 52 = .ok (.getfield 22, 3) := by decide +kernel
theorem dX8_sheet_55 : decode cX8_sheet 55 = .ok (.iload_n 1, 1) := by decide +kernel
theorem dX8_sheet_56 : decode cX8_sheet 56 = .ok (.iload_n 2, 1) := by decide +kernel
theorem dX8_sheet_57 : decode cX8_sheet 57 = .ok (.ifCond .ge 7, 3) := by decide +kernel
theorem dX8_sheet_60 : decode cX8_sheet 60 = .ok (.iconst 0, 1) := by decide +kernel
theorem dX8_sheet_61 : decode cX8_sheet 61 = .ok (.goto 4, 3) := by decide +kernel
theorem dX8_sheet_64 : decode cX8_sheet 64 = .ok (.iload_n 3, 1) := by decide +kernel
theorem dX8_sheet_65 : decode cX8_sheet 65 = .ok (.iastore, 1) := by decide +kernel
theorem dX8_sheet_66 : decode cX8_sheet 66 = .ok (.iconst 0, 1) := by decide +kernel
theorem dX8_sheet_67 : decode cX8_sheet 67 = .ok (.istore 4, 2) := by decide +kernel
theorem dX8_sheet_69 : decode cX8_sheet 69 = .ok (.iload 4, 2) := by decide +kernel
theorem dX8_sheet_71 : decode cX8_sheet 71 = .ok (.bipush 24, 2) := by decide +kernel
theorem dX8_sheet_73 : decode cX8_sheet 73 = .ok (.if_icmp .ge 22, 3) := by decide +kernel
theorem dX8_sheet_76 : decode cX8_sheet 76 = .ok (.aload_n 0, 1) := by decide +kernel
theorem dX8_sheet_77 : decode cX8_sheet 77 = .ok (.getfield 25, 3) := by decide +kernel
theorem dX8_sheet_80 : decode cX8_sheet 80 = .ok (.bipush 24, 2) := by decide +kernel
theorem dX8_sheet_82 : decode cX8_sheet 82 = .ok (.iload_n 1, 1) := by decide +kernel
theorem dX8_sheet_83 : decode cX8_sheet 83 = .ok (.imul, 1) := by decide +kernel
theorem dX8_sheet_84 : decode cX8_sheet 84 = .ok (.iload 4, 2) := by decide +kernel
theorem dX8_sheet_86 : decode cX8_sheet 86 = .ok (.iadd, 1) := by decide +kernel
theorem dX8_sheet_87 : decode cX8_sheet 87 = .ok (.iconst 0, 1) := by decide +kernel
theorem dX8_sheet_88 : decode cX8_sheet 88 = .ok (.iastore, 1) := by decide +kernel
theorem dX8_sheet_89 : decode cX8_sheet 89 = .ok (.iinc 4 1, 3) := by decide +kernel
theorem dX8_sheet_92 : decode cX8_sheet 92 = .ok (.goto (-23), 3) := by decide +kernel
theorem dX8_sheet_95 : decode cX8_sheet 95 = .ok (.aload_n 0, 1) := by decide +kernel
theorem dX8_sheet_96 : decode cX8_sheet 96 = .ok (.getfield 22, 3) := by decide +kernel
theorem dX8_sheet_99 : decode cX8_sheet 99 = .ok (.iload_n 1, 1) := by decide +kernel
theorem dX8_sheet_100 : decode cX8_sheet 100 = .ok (.iaload, 1) := by decide +kernel
theorem dX8_sheet_101 : decode cX8_sheet 101 = .ok (.ireturn, 1) := by decide +kernel
theorem dX8_mark_0 : decode cX8_mark 0 = .ok (.iload_n 1, 1) := by decide +kernel
theorem dX8_mark_1 : decode cX8_mark 1 = .ok (.invokestatic 309, 3) := by decide +kernel
theorem dX8_mark_4 : decode cX8_mark 4 = .ok (.ifCond .ne 6, 3) := by decide +kernel
theorem dX8_mark_7 : decode cX8_mark 7 = .ok (.ldc 85, 2) := by decide +kernel
theorem dX8_mark_9 : decode cX8_mark 9 = .ok (.ireturn, 1) := by decide +kernel
theorem dX8_mark_10 : decode cX8_mark 10 = .ok (.aload_n 0, 1) := by decide +kernel
theorem dX8_mark_11 : decode cX8_mark 11 = .ok (.getfield 19, 3) := by decide +kernel
theorem dX8_mark_14 : decode cX8_mark 14 = .ok (.iload_n 1, 1) := by decide +kernel
theorem dX8_mark_15 : decode cX8_mark 15 = .ok (.iaload, 1) := by decide +kernel
theorem dX8_mark_16 : decode cX8_mark 16 = .ok (.ifCond .ge 7, 3) := by decide +kernel
theorem dX8_mark_19 : decode cX8_mark 19 = .ok (.ldc_w 315, 3) := by decide +kernel
theorem dX8_mark_22 : decode cX8_mark 22 = .ok (.ireturn, 1) := by decide +kernel
theorem dX8_mark_23 : decode cX8_mark 23 = .ok (.iload_n 2, 1) := by decide +kernel
theorem dX8_mark_24 : decode cX8_mark 24 = .ok (.i2l, 1) := by decide +kernel
theorem dX8_mark_25 : decode cX8_mark 25 = .ok (.lconst 0, 1) := by decide +kernel
theorem dX8_mark_26 : decode cX8_mark 26 = .ok (.aload_n 0, 1) := by decide +kernel
theorem dX8_mark_27 : decode cX8_mark 27 = .ok (.getfield 22, 3) := by decide +kernel
theorem dX8_mark_30 : decode cX8_mark 30 = .ok (.iload_n 1, 1) := by decide +kernel
theorem dX8_mark_31 : decode cX8_mark 31 = .ok (.iaload, 1) := by decide +kernel
theorem dX8_mark_32 : decode cX8_mark 32 = .ok (.iconst 1, 1) := by decide +kernel
theorem dX8_mark_33 : decode cX8_mark 33 = .ok (.isub, 1) := by decide +kernel
theorem dX8_mark_34 : decode cX8_mark 34 = .ok (.i2l, 1) := by decide +kernel
theorem dX8_mark_35 : decode cX8_mark 35 = .ok (.invokestatic 72, 3) := by decide +kernel
theorem dX8_mark_38 : decode cX8_mark 38 = .ok (.ifCond .ne 7, 3) := by decide +kernel
theorem dX8_mark_41 : decode cX8_mark 41 = .ok (.ldc_w 316, 3) := by decide +kernel
theorem dX8_mark_44 : decode cX8_mark 44 = .ok (.ireturn, 1) := by decide +kernel
theorem dX8_mark_45 : decode cX8_mark 45 = .ok (.aload_n 0, 1) := by decide +kernel
theorem dX8_mark_46 : decode cX8_mark 46 = .ok (.getfield 19, 3) := by decide +kernel
theorem dX8_mark_49 : decode cX8_mark 49 = .ok (.iload_n 1, 1) := by decide +kernel
theorem dX8_mark_50 : decode cX8_mark 50 = .ok (.iaload, 1) := by decide +kernel
theorem dX8_mark_51 : decode cX8_mark 51 = .ok (.ifCond .ne 12, 3) := by decide +kernel
theorem dX8_mark_54 : decode cX8_mark 54 = .ok (.iload_n 3, 1) := by decide +kernel
theorem dX8_mark_55 : decode cX8_mark 55 = .ok (.ldc 71, 2) := by decide +kernel
theorem dX8_mark_57 : decode cX8_mark 57 = .ok (.if_icmp .ne 6, 3) := by decide +kernel
theorem dX8_mark_60 : decode cX8_mark 60 = .ok (.ldc 131, 2) := by decide +kernel
theorem dX8_mark_62 : decode cX8_mark 62 = .ok (.ireturn, 1) := by decide +kernel
theorem dX8_mark_63 : decode cX8_mark 63 = .ok (.aload_n 0, 1) := by decide +kernel
theorem dX8_mark_64 : decode cX8_mark 64 = .ok (.getfield 19, 3) := by decide +kernel
theorem dX8_mark_67 : decode cX8_mark 67 = .ok (.iload_n 1, 1) := by decide +kernel
theorem dX8_mark_68 : decode cX8_mark 68 = .ok (.iaload, 1) := by decide +kernel
theorem dX8_mark_69 : decode cX8_mark 69 = .ok (.iconst 1, 1) := by decide +kernel
theorem dX8_mark_70 : decode cX8_mark 70 = .ok (.if_icmp .ne 26, 3) := by decide +kernel
theorem dX8_mark_73 : decode cX8_mark 73 = .ok (.iload_n 3, 1) := by decide +kernel
theorem dX8_mark_74 : decode cX8_mark 74 = .ok (.ldc 71, 2) := by decide +kernel
theorem dX8_mark_76 : decode cX8_mark 76 = .ok (.if_icmp .eq 20, 3) := by decide +kernel
theorem dX8_mark_79 : decode cX8_mark 79 = .ok (.iload_n 3, 1) := by decide +kernel
theorem dX8_mark_80 : decode cX8_mark 80 = .ok (.i2l, 1) := by decide +kernel
theorem dX8_mark_81 : decode cX8_mark 81 = .ok (.ldc2_w 317, 3) := by decide +kernel
theorem dX8_mark_84 : decode cX8_mark 84 = .ok (.ldc2_w 319, 3) := by decide +kernel
theorem dX8_mark_87 : decode cX8_mark 87 = .ok (.invokestatic 72, 3) := by decide +kernel
theorem dX8_mark_90 : decode cX8_mark 90 = .ok (.ifCond .ne 6, 3) := by decide +kernel
theorem dX8_mark_93 : decode cX8_mark 93 = .ok (.ldc 85, 2) := by decide +kernel
theorem dX8_mark_95 : decode cX8_mark 95 = .ok (.ireturn, 1) := by decide +kernel
theorem dX8_mark_96 : decode cX8_mark 96 = .ok (.aload_n 0, 1) := by decide +kernel
theorem dX8_mark_97 : decode cX8_mark 97 = .ok (.getfield 25, 3) := by decide +kernel
theorem dX8_mark_100 : decode cX8_mark 100 = .ok (.bipush 24, 2) := by decide +kernel
theorem dX8_mark_102 : decode cX8_mark 102 = .ok (.iload_n 1, 1) := by decide +kernel
theorem dX8_mark_103 : decode cX8_mark 103 = .ok (.imul, 1) := by decide +kernel
theorem dX8_mark_104 : decode cX8_mark 104 = .ok (.iload_n 2, 1) := by decide +kernel
theorem dX8_mark_105 : decode cX8_mark 105 = .ok (.iadd, 1) := by decide +kernel
theorem dX8_mark_106 : decode cX8_mark 106 = .ok (.aload_n 0, 1) := by decide +kernel
theorem dX8_mark_107 : decode cX8_mark 107 = .ok (.getfield 19, 3) := by decide +kernel
theorem dX8_mark_110 : decode cX8_mark 110 = .ok (.iload_n 1, 1) := by decide +kernel
theorem dX8_mark_111 : decode cX8_mark 111 = .ok (.iaload, 1) := by decide +kernel
theorem dX8_mark_112 : decode cX8_mark 112 = .ok (.ifCond .ne 13, 3) := by decide +kernel
theorem dX8_mark_115 : decode cX8_mark 115 = .ok (.iload_n 3, 1) := by decide +kernel
theorem dX8_mark_116 : decode cX8_mark 116 = .ok (.bipush 16, 2) := by decide +kernel
theorem dX8_mark_118 : decode cX8_mark 118 = .ok (.ishl, 1) := by decide +kernel
theorem dX8_mark_119 : decode cX8_mark 119 = .ok (.bipush 16, 2) := by decide +kernel
theorem dX8_mark_121 : decode cX8_mark 121 = .ok (.ishr, 1) := by decide +kernel
theorem dX8_mark_122 : decode cX8_mark 122 = .ok (.goto 4, 3) := by decide +kernel
theorem dX8_mark_125 : decode cX8_mark 125 = .ok (.iload_n 3, 1) := by decide +kernel
theorem dX8_mark_126 : decode cX8_mark 126 = .ok (.iastore, 1) := by decide +kernel
theorem dX8_mark_127 : decode cX8_mark 127 = .ok (.iconst 1, 1) := by decide +kernel
theorem dX8_mark_128 : decode cX8_mark 128 = .ok (.ireturn, 1) := by decide +kernel
theorem dX8_pour_0 : decode cX8_pour 0 = .ok (.iload_n 1, 1) := by decide +kernel
theorem dX8_pour_1 : decode cX8_pour 1 = .ok (.invokestatic 309, 3) := by decide +kernel
theorem dX8_pour_4 : decode cX8_pour 4 = .ok (.ifCond .ne 6, 3) := by decide +kernel
theorem dX8_pour_7 : decode cX8_pour 7 = .ok (.ldc 85, 2) := by decide +kernel
theorem dX8_pour_9 : decode cX8_pour 9 = .ok (.ireturn, 1) := by decide +kernel
theorem dX8_pour_10 : decode cX8_pour 10 = .ok (.aload_n 0, 1) := by decide +kernel
theorem dX8_pour_11 : decode cX8_pour 11 = .ok (.getfield 19, 3) := by decide +kernel
theorem dX8_pour_14 : decode cX8_pour 14 = .ok (.iload_n 1, 1) := by decide +kernel
theorem dX8_pour_15 : decode cX8_pour 15 = .ok (.iaload, 1) := by decide +kernel
theorem dX8_pour_16 : decode cX8_pour 16 = .ok (.ifCond .ge 7, 3) := by decide +kernel
theorem dX8_pour_19 : decode cX8_pour 19 = .ok (.ldc_w 315, 3) := by decide +kernel
theorem dX8_pour_22 : decode cX8_pour 22 = .ok (.ireturn, 1) := by decide +kernel
theorem dX8_pour_23 : decode cX8_pour 23 = .ok (.iconst 0, 1) := by decide +kernel
theorem dX8_pour_24 : decode cX8_pour 24 = .ok (.istore_n 2, 1) := by decide +kernel
theorem dX8_pour_25 : decode cX8_pour 25 = .ok (.iconst 0, 1) := by decide +kernel
theorem dX8_pour_26 : decode cX8_pour 26 = .ok (.istore_n 3, 1) := by decide +kernel
theorem dX8_pour_27 : decode cX8_pour 27 = .ok (.iload_n 3, 1) := by decide +kernel
theorem dX8_pour_28 : decode cX8_pour 28 = .ok (.aload_n 0, 1) := by decide +kernel
theorem dX8_pour_29 : decode cX8_pour 29 = .ok (.getfield 22, 3) := by decide +kernel
theorem dX8_pour_32 : decode cX8_pour 32 = .ok (.iload_n 1, 1) := by decide +kernel
theorem dX8_pour_33 : decode cX8_pour 33 = .ok (.iaload, 1) := by decide +kernel
theorem dX8_pour_34 : decode cX8_pour 34 = .ok (.if_icmp .ge 84, 3) := by decide +kernel
theorem dX8_pour_37 : decode cX8_pour 37 = .ok (.iload_n 3, 1) := by decide +kernel
theorem dX8_pour_38 : decode cX8_pour 38 = .ok (.aload_n 0, 1) := by decide +kernel
theorem dX8_pour_39 : decode cX8_pour 39 = .ok (.getfield 7, 3) := by decide +kernel
theorem dX8_pour_42 : decode cX8_pour 42 = .ok (.iconst 0, 1) := by decide +kernel
theorem dX8_pour_43 : decode cX8_pour 43 = .ok (.iaload, 1) := by decide +kernel
theorem dX8_pour_44 : decode cX8_pour 44 = .ok (.if_icmp .ge 74, 3) := by decide +kernel
theorem dX8_pour_47 : decode cX8_pour 47 = .ok (.aload_n 0, 1) := by decide +kernel
theorem dX8_pour_48 : decode cX8_pour 48 = .ok (.getfield 25, 3) := by decide +kernel
theorem dX8_pour_51 : decode cX8_pour 51 = .ok (.bipush 24, 2) := by decide +kernel
theorem dX8_pour_53 : decode cX8_pour 53 = .ok (.iload_n 1, 1) := by decide +kernel
theorem dX8_pour_54 : decode cX8_pour 54 = .ok (.imul, 1) := by decide +kernel
theorem dX8_pour_55 : decode cX8_pour 55 = .ok (.iload_n 3, 1) := by decide +kernel
theorem dX8_pour_56 : decode cX8_pour 56 = .ok (.iadd, 1) := by decide +kernel
theorem dX8_pour_57 : decode cX8_pour 57 = .ok (.iaload, 1) := by decide +kernel
theorem dX8_pour_58 : decode cX8_pour 58 = .ok (.istore 4, 2) := by decide +kernel
theorem dX8_pour_60 : decode cX8_pour 60 = .ok (.aload_n 0, 1) := by decide +kernel
theorem dX8_pour_61 : decode cX8_pour 61 = .ok (.iload_n 3, 1) := by decide +kernel
theorem dX8_pour_62 : decode cX8_pour 62 = .ok (.iconst 3, 1) := by decide +kernel
theorem dX8_pour_63 : decode cX8_pour 63 = .ok (.invokevirtual 91, 3) := by decide +kernel
theorem dX8_pour_66 : decode cX8_pour 66 = .ok (.istore 5, 2) := by decide +kernel
theorem dX8_pour_68 : decode cX8_pour 68 = .ok (.iload 4, 2) := by decide +kernel
theorem dX8_pour_70 : decode cX8_pour 70 = .ok (.ldc 71, 2) := by decide +kernel
theorem dX8_pour_72 : decode cX8_pour 72 = .ok (.if_icmp .ne 8, 3) := by decide +kernel
theorem dX8_pour_75 : decode cX8_pour 75 = .ok (.iload 5, 2) := by decide +kernel
theorem dX8_pour_77 : decode cX8_pour 77 = .ok (.goto 10, 3) := by decide +kernel
theorem dX8_pour_80 : decode cX8_pour 80 = .ok (.iload 4, 2) := by decide +kernel
theorem dX8_pour_82 : decode cX8_pour 82 = .ok (.bipush 9, 2) := by decide +kernel
theorem dX8_pour_84 : decode cX8_pour 84 = .ok (.invokestatic 110, 3) := by decide +kernel
theorem dX8_pour_87 : decode cX8_pour 87 = .ok (.istore 6, 2) := by decide +kernel
theorem dX8_pour_89 : decode cX8_pour 89 = .ok (.aload_n 0, 1) := by decide +kernel
theorem dX8_pour_90 : decode cX8_pour 90 = .ok (.iload_n 3, 1) := by decide +kernel
theorem dX8_pour_91 : decode cX8_pour 91 = .ok (.iconst 3, 1) := by decide +kernel
theorem dX8_pour_92 : decode cX8_pour 92 = .ok (.iload 6, 2) := by decide +kernel
theorem dX8_pour_94 : decode cX8_pour 94 = .ok (.invokevirtual 151, 3) := by decide +kernel
theorem dX8_pour_97 : decode cX8_pour 97 = .ok (.iload_n 2, 1) := by decide +kernel
theorem dX8_pour_98 : decode cX8_pour 98 = .ok (.iload 6, 2) := by decide +kernel
theorem dX8_pour_100 : decode cX8_pour 100 = .ok (.iload 5, 2) := by decide +kernel
theorem dX8_pour_102 : decode cX8_pour 102 = .ok (.if_icmp .ne 7, 3) := by decide +kernel
theorem dX8_pour_105 : decode cX8_pour 105 = .ok (.iconst 0, 1) := by decide +kernel
theorem dX8_pour_106 : decode cX8_pour 106 = .ok (.goto 4, 3) := by decide +kernel
theorem dX8_pour_109 : decode cX8_pour 109 = .ok (.iconst 1, 1) := by decide +kernel
theorem dX8_pour_110 : decode cX8_pour 110 = .ok (.iadd, 1) := by decide +kernel
theorem dX8_pour_111 : decode cX8_pour 111 = .ok (.istore_n 2, 1) := by decide +kernel
theorem dX8_pour_112 : decode cX8_pour 112 = .ok (.iinc 3 1, 3) := by decide +kernel
theorem dX8_pour_115 : decode cX8_pour 115 = .ok (.goto (-88), 3) := by decide +kernel
theorem dX8_pour_118 : decode cX8_pour 118 = .ok (.iload_n 2, 1) := by decide +kernel
theorem dX8_pour_119 : decode cX8_pour 119 = .ok (.ireturn, 1) := by decide +kernel
theorem dX8_waterBehind_0 : decode cX8_waterBehind 0 = .ok (.aload_n 0, 1) := by decide +kernel
theorem dX8_waterBehind_1 : decode cX8_waterBehind 1 = .ok (.getfield 7, 3) := by decide +kernel
theorem dX8_waterBehind_4 : decode cX8_waterBehind 4 = .ok (.iconst 5, 1) := by decide +kernel
theorem dX8_waterBehind_5 : decode cX8_waterBehind 5 = .ok (.iaload, 1) := by decide +kernel
theorem dX8_waterBehind_6 : decode cX8_waterBehind 6 = .ok (.aload_n 0, 1) := by decide +kernel
theorem dX8_waterBehind_7 : decode cX8_waterBehind 7 = .ok (.getfield 7, 3) := by decide +kernel
theorem dX8_waterBehind_10 : decode cX8_waterBehind 10 = .ok (.bipush 8, 2) := by decide +kernel
theorem dX8_waterBehind_12 : decode cX8_waterBehind 12 = .ok (.iaload, 1) := by decide +kernel
theorem dX8_waterBehind_13 : decode cX8_waterBehind 13 = .ok (.iload_n 1, 1) := by decide +kernel
theorem dX8_waterBehind_14 : decode cX8_waterBehind 14 = .ok (.iadd, 1) := by decide +kernel
theorem dX8_waterBehind_15 : decode cX8_waterBehind 15 = .ok (.iload_n 2, 1) := by decide +kernel
theorem dX8_waterBehind_16 : decode cX8_waterBehind 16 = .ok (.idiv, 1) := by decide +kernel
theorem dX8_waterBehind_17 : decode cX8_waterBehind 17 = .ok (.iadd, 1) := by decide +kernel
theorem dX8_waterBehind_18 : decode cX8_waterBehind 18 = .ok (.istore_n 3, 1) := by decide +kernel
theorem dX8_waterBehind_19 : decode cX8_waterBehind 19 = .ok (.iload_n 3, 1) := by decide +kernel
theorem dX8_waterBehind_20 : decode cX8_waterBehind 20 = .ok (.aload_n 0, 1) := by decide +kernel
theorem dX8_waterBehind_21 : decode cX8_waterBehind 21 = .ok (.getfield 7, 3) := by decide +kernel
theorem dX8_waterBehind_24 : decode cX8_waterBehind 24 = .ok (.iconst 4, 1) := by decide +kernel
theorem dX8_waterBehind_25 : decode cX8_waterBehind 25 = .ok (.iaload, 1) := by decide +kernel
theorem dX8_waterBehind_26 : decode cX8_waterBehind 26 = .ok (.if_icmp .le 12, 3) := by decide +kernel
theorem dX8_waterBehind_29 : decode cX8_waterBehind 29 = .ok (.aload_n 0, 1) := by decide +kernel
theorem dX8_waterBehind_30 : decode cX8_waterBehind 30 = .ok (.getfield 7, 3) := by decide +kernel
theorem dX8_waterBehind_33 : decode cX8_waterBehind 33 = .ok (.iconst 4, 1) := by decide +kernel
theorem dX8_waterBehind_34 : decode cX8_waterBehind 34 = .ok (.iaload, 1) := by decide +kernel
theorem dX8_waterBehind_35 : decode cX8_waterBehind 35 = .ok (.goto 4, 3) := by decide +kernel
theorem dX8_waterBehind_38 : decode cX8_waterBehind 38 = .ok (.iload_n 3, 1) := by decide +kernel
theorem dX8_waterBehind_39 : decode cX8_waterBehind 39 = .ok (.istore_n 3, 1) := by decide +kernel
theorem dX8_waterBehind_40 : decode cX8_waterBehind 40 = .ok (.iload_n 3, 1) := by decide +kernel
theorem dX8_waterBehind_41 : decode cX8_waterBehind 41 = .ok (.aload_n 0, 1) := by decide +kernel
theorem dX8_waterBehind_42 : decode cX8_waterBehind 42 = .ok (.getfield 7, 3) := by decide +kernel
theorem dX8_waterBehind_45 : decode cX8_waterBehind 45 = .ok (.iconst 5, 1) := by decide +kernel
theorem dX8_waterBehind_46 : decode cX8_waterBehind 46 = .ok (.iaload, 1) := by decide +kernel
theorem dX8_waterBehind_47 : decode cX8_waterBehind 47 = .ok (.if_icmp .ge 12, 3) := by decide +kernel
theorem dX8_waterBehind_50 : decode cX8_waterBehind 50 = .ok (.aload_n 0, 1) := by decide +kernel
theorem dX8_waterBehind_51 : decode cX8_waterBehind 51 = .ok (.getfield 7, 3) := by decide +kernel
theorem dX8_waterBehind_54 : decode cX8_waterBehind 54 = .ok (.iconst 5, 1) := by decide +kernel
theorem dX8_waterBehind_55 : decode cX8_waterBehind 55 = .ok (.iaload, 1) := by decide +kernel
theorem dX8_waterBehind_56 : decode cX8_waterBehind 56 = .ok (.goto 4, 3) := by decide +kernel
theorem dX8_waterBehind_59 : decode cX8_waterBehind 59 = .ok (.iload_n 3, 1) := by decide +kernel
theorem dX8_waterBehind_60 : decode cX8_waterBehind 60 = .ok (.ireturn, 1) := by decide +kernel
theorem dX8_explained_0 : decode cX8_explained 0 = .ok (.iload_n 1, 1) := by decide +kernel
theorem dX8_explained_1 : decode cX8_explained 1 = .ok (.invokestatic 309, 3) := by decide +kernel
theorem dX8_explained_4 : decode cX8_explained 4 = .ok (.ifCond .eq 13, 3) := by decide +kernel
theorem dX8_explained_7 : decode cX8_explained 7 = .ok (.iload_n 2, 1) := by decide +kernel
theorem dX8_explained_8 : decode cX8_explained 8 = .ok (.i2l, 1) := by decide +kernel
theorem dX8_explained_9 : decode cX8_explained 9 = .ok (.lconst 0, 1) := by decide +kernel
theorem dX8_explained_10 : decode cX8_explained 10 = .ok (.lconst 1, 1) := by decide +kernel
theorem dX8_explained_11 : decode cX8_explained 11 = .ok (.invokestatic 72, 3) := by decide +kernel
theorem dX8_explained_14 : decode cX8_explained 14 = .ok (.ifCond .ne 6, 3) := by decide +kernel
theorem dX8_explained_17 : decode cX8_explained 17 = .ok (.ldc 85, 2) := by decide +kernel
theorem dX8_explained_19 : decode cX8_explained 19 = .ok (.ireturn, 1) := by decide +kernel
theorem dX8_explained_20 : decode cX8_explained 20 = .ok (.aload_n 0, 1) := by decide +kernel
theorem dX8_explained_21 : decode cX8_explained 21 = .ok (.getfield 19, 3) := by decide +kernel
theorem dX8_explained_24 : decode cX8_explained 24 = .ok (.iload_n 1, 1) := by decide +kernel
theorem dX8_explained_25 : decode cX8_explained 25 = .ok (.iaload, 1) := by decide +kernel
theorem dX8_explained_26 : decode cX8_explained 26 = .ok (.ifCond .ge 7, 3) := by decide +kernel
theorem dX8_explained_29 : decode cX8_explained 29 = .ok (.ldc_w 315, 3) := by decide +kernel
theorem dX8_explained_32 : decode cX8_explained 32 = .ok (.ireturn, 1) := by decide +kernel
theorem dX8_explained_33 : decode cX8_explained 33 = .ok (.iconst 0, 1) := by decide +kernel
theorem dX8_explained_34 : decode cX8_explained 34 = .ok (.istore_n 3, 1) := by decide +kernel
theorem dX8_explained_35 : decode cX8_explained 35 = .ok (.iconst 0, 1) := by decide +kernel
theorem dX8_explained_36 : decode cX8_explained 36 = .ok (.istore 4, 2) := by decide +kernel
theorem dX8_explained_38 : decode cX8_explained 38 = .ok (.iconst 1, 1) := by decide +kernel
theorem dX8_explained_39 : decode cX8_explained 39 = .ok (.istore 5, 2) := by decide +kernel
theorem dX8_explained_41 : decode cX8_explained 41 = .ok (.iload 5, 2) := by decide +kernel
theorem dX8_explained_43 : decode cX8_explained 43 = .ok (.bipush 60, 2) := by decide +kernel
theorem dX8_explained_45 : decode cX8_explained 45 = .ok (.if_icmp .gt 109, 3) := by decide +kernel
theorem dX8_explained_48 : decode cX8_explained 48 = .ok (.iconst 0, 1) := by decide +kernel
theorem dX8_explained_49 : decode cX8_explained 49 = .ok (.istore 6, 2) := by decide +kernel
theorem dX8_explained_51 : decode cX8_explained 51 = .ok (.iconst 0, 1) := by decide +kernel
theorem dX8_explained_52 : decode cX8_explained 52 = .ok (.istore 7, 2) := by decide +kernel
theorem dX8_explained_54 : decode cX8_explained 54 = .ok (.iload 7, 2) := by decide +kernel
theorem dX8_explained_56 : decode cX8_explained 56 = .ok (.aload_n 0, 1) := by decide +kernel
theorem dX8_explained_57 : decode cX8_explained 57 = .ok (.getfield 22, 3) := by decide +kernel
theorem dX8_explained_60 : decode cX8_explained 60 = .ok (.iload_n 1, 1) := by decide +kernel
theorem dX8_explained_61 : decode cX8_explained 61 = .ok (.iaload, 1) := by decide +kernel
theorem dX8_explained_62 : decode cX8_explained 62 = .ok (.if_icmp .ge 68, 3) := by decide +kernel
theorem dX8_explained_65 : decode cX8_explained 65 = .ok (.aload_n 0, 1) := by decide +kernel
theorem dX8_explained_66 : decode cX8_explained 66 = .ok (.getfield 25, 3) := by decide +kernel
theorem dX8_explained_69 : decode cX8_explained 69 = .ok (.bipush 24, 2) := by decide +kernel
theorem dX8_explained_71 : decode cX8_explained 71 = .ok (.iload_n 1, 1) := by decide +kernel
theorem dX8_explained_72 : decode cX8_explained 72 = .ok (.imul, 1) := by decide +kernel
theorem dX8_explained_73 : decode cX8_explained 73 = .ok (.iload 7, 2) := by decide +kernel
theorem dX8_explained_75 : decode cX8_explained 75 = .ok (.iadd, 1) := by decide +kernel
theorem dX8_explained_76 : decode cX8_explained 76 = .ok (.iaload, 1) := by decide +kernel
theorem dX8_explained_77 : decode cX8_explained 77 = .ok (.istore 8, 2) := by decide +kernel
theorem dX8_explained_79 : decode cX8_explained 79 = .ok (.iload 8, 2) := by decide +kernel
theorem dX8_explained_81 : decode cX8_explained 81 = .ok (.ldc 71, 2) := by decide +kernel
theorem dX8_explained_83 : decode cX8_explained 83 = .ok (.if_icmp .ne 7, 3) := by decide +kernel
theorem dX8_explained_86 : decode cX8_explained 86 = .ok (.iconst 0, 1) := by decide +kernel
theorem dX8_explained_87 : decode cX8_explained 87 = .ok (.goto 17, 3) := by decide +kernel
theorem dX8_explained_90 : decode cX8_explained 90 = .ok (.iload 8, 2) := by decide +kernel
theorem dX8_explained_92 : decode cX8_explained 92 = .ok (.aload_n 0, 1) := by decide +kernel
theorem dX8_explained_93 : decode cX8_explained 93 = .ok (.bipush 10, 2) := by decide +kernel
theorem dX8_explained_95 : decode cX8_explained 95 = .ok (.iload 7, 2) := by decide +kernel
theorem dX8_explained_97 : decode cX8_explained 97 = .ok (.imul, 1) := by decide +kernel
theorem dX8_explained_98 : decode cX8_explained 98 = .ok (.iload 5, 2) := by decide +kernel
theorem dX8_explained_100 : decode cX8_explained 100 = .ok (.invokevirtual 321, 3) := by decide +kernel
theorem dX8_explained_103 : decode cX8_explained 103 = .ok (.isub, 1) := by decide +kernel
theorem dX8_explained_104 : decode cX8_explained 104 = .ok (.istore 9, 2) := by decide +kernel
theorem dX8_explained_106 : decode cX8_explained 106 = .ok (.iload 6, 2) := by decide +kernel
theorem dX8_explained_108 : decode cX8_explained 108 = .ok (.iload 9, 2) := by decide +kernel
theorem dX8_explained_110 : decode cX8_explained 110 = .ok (.ifCond .ge 9, 3) := by decide +kernel
theorem dX8_explained_113 : decode cX8_explained 113 = .ok (.iload 9, 2) := by decide +kernel
theorem dX8_explained_115 : decode cX8_explained 115 = .ok (.ineg, 1) := by decide +kernel
theorem dX8_explained_116 : decode cX8_explained 116 = .ok (.goto 5, 3) := by decide +kernel
theorem dX8_explained_119 : decode cX8_explained 119 = .ok (.iload 9, 2) := by decide +kernel
theorem dX8_explained_121 : decode cX8_explained 121 = .ok (.iadd, 1) := by decide +kernel
theorem dX8_explained_122 : decode cX8_explained 122 = .ok (.istore 6, 2) := by decide +kernel
theorem dX8_explained_124 : decode cX8_explained 124 = .ok (.iinc 7 1, 3) := by decide +kernel
theorem dX8_explained_127 : decode cX8_explained 127 = .ok (.goto (-73), 3) := by decide +kernel
theorem dX8_explained_130 : decode cX8_explained 130 = .ok (.iload_n 3, 1) := by decide +kernel
theorem dX8_explained_131 : decode cX8_explained 131 = .ok (.ifCond .eq 10, 3) := by decide +kernel
theorem dX8_explained_134 : decode cX8_explained 134 = .ok (.iload 6, 2) := by decide +kernel
theorem dX8_explained_136 : decode cX8_explained 136 = .ok (.iload 4, 2) := by decide +kernel
theorem dX8_explained_138 : decode cX8_explained 138 = .ok (.if_icmp .ge 10, 3) := by decide +kernel
theorem dX8_explained_141 : decode cX8_explained 141 = .ok (.iload 5, 2) := by decide +kernel
theorem dX8_explained_143 : decode cX8_explained 143 = .ok (.istore_n 3, 1) := by decide +kernel
theorem dX8_explained_144 : decode cX8_explained 144 = .ok (.iload 6, 2) := by decide +kernel
theorem dX8_explained_146 : decode cX8_explained 146 = .ok (.istore 4, 2) := by decide +kernel
theorem dX8_explained_148 : decode cX8_explained 148 = .ok (.iinc 5 1, 3) := by decide +kernel
theorem dX8_explained_151 : decode cX8_explained 151 = .ok (.goto (-110), 3) := by decide +kernel
theorem dX8_explained_154 : decode cX8_explained 154 = .ok (.iload_n 2, 1) := by decide +kernel
theorem dX8_explained_155 : decode cX8_explained 155 = .ok (.ifCond .ne 7, 3) := by decide +kernel
theorem dX8_explained_158 : decode cX8_explained 158 = .ok (.iload_n 3, 1) := by decide +kernel
theorem dX8_explained_159 : decode cX8_explained 159 = .ok (.goto 5, 3) := by decide +kernel
theorem dX8_explained_162 : decode cX8_explained 162 = .ok (.iload 4, 2) := by decide +kernel
theorem dX8_explained_164 : decode cX8_explained 164 = .ok (.ireturn, 1) := by decide +kernel
theorem dX8_copy_0 : decode cX8_copy 0 = .ok (.iload_n 1, 1) := by decide +kernel
theorem dX8_copy_1 : decode cX8_copy 1 = .ok (.invokestatic 309, 3) := by decide +kernel
theorem dX8_copy_4 : decode cX8_copy 4 = .ok (.ifCond .eq 10, 3) := by decide +kernel
theorem dX8_copy_7 : decode cX8_copy 7 = .ok (.iload_n 3, 1) := by decide +kernel
theorem dX8_copy_8 : decode cX8_copy 8 = .ok (.invokestatic 309, 3) := by decide +kernel
theorem dX8_copy_11 : decode cX8_copy 11 = .ok (.ifCond .ne 6, 3) := by decide +kernel
theorem dX8_copy_14 : decode cX8_copy 14 = .ok (.ldc 85, 2) := by decide +kernel
theorem dX8_copy_16 : decode cX8_copy 16 = .ok (.ireturn, 1) := by decide +kernel
theorem dX8_copy_17 : decode cX8_copy 17 = .ok (.aload_n 0, 1) := by decide +kernel
theorem dX8_copy_18 : decode cX8_copy 18 = .ok (.getfield 19, 3) := by decide +kernel
theorem dX8_copy_21 : decode cX8_copy 21 = .ok (.iload_n 1, 1) := by decide +kernel
theorem dX8_copy_22 : decode cX8_copy 22 = .ok (.iaload, 1) := by decide +kernel
theorem dX8_copy_23 : decode cX8_copy 23 = .ok (.ifCond .lt 12, 3) := by decide +kernel
theorem dX8_copy_26 : decode cX8_copy 26 = .ok (.aload_n 0, 1) := by decide +kernel
theorem dX8_copy_27 : decode cX8_copy 27 = .ok (.getfield 19, 3) := by decide +kernel
theorem dX8_copy_30 : decode cX8_copy 30 = .ok (.iload_n 3, 1) := by decide +kernel
theorem dX8_copy_31 : decode cX8_copy 31 = .ok (.iaload, 1) := by decide +kernel
theorem dX8_copy_32 : decode cX8_copy 32 = .ok (.ifCond .ge 7, 3) := by decide +kernel
theorem dX8_copy_35 : decode cX8_copy 35 = .ok (.ldc_w 315, 3) := by decide +kernel
theorem dX8_copy_38 : decode cX8_copy 38 = .ok (.ireturn, 1) := by decide +kernel
theorem dX8_copy_39 : decode cX8_copy 39 = .ok (.aload_n 0, 1) := by decide +kernel
theorem dX8_copy_40 : decode cX8_copy 40 = .ok (.getfield 19, 3) := by decide +kernel
theorem dX8_copy_43 : decode cX8_copy 43 = .ok (.iload_n 1, 1) := by decide +kernel
theorem dX8_copy_44 : decode cX8_copy 44 = .ok (.iaload, 1) := by decide +kernel
theorem dX8_copy_45 : decode cX8_copy 45 = .ok (.aload_n 0, 1) := by decide +kernel
theorem dX8_copy_46 : decode cX8_copy 46 = .ok (.getfield 19, 3) := by decide +kernel
theorem dX8_copy_49 : decode cX8_copy 49 = .ok (.iload_n 3, 1) := by decide +kernel
theorem dX8_copy_50 : decode cX8_copy 50 = .ok (.iaload, 1) := by decide +kernel
theorem dX8_copy_51 : decode cX8_copy 51 = .ok (.if_icmp .eq 6, 3) := by decide +kernel
theorem dX8_copy_54 : decode cX8_copy 54 = .ok (.ldc 131, 2) := by decide +kernel
theorem dX8_copy_56 : decode cX8_copy 56 = .ok (.ireturn, 1) := by decide +kernel
theorem dX8_copy_57 : decode cX8_copy 57 = .ok (.iload_n 2, 1) := by decide +kernel
theorem dX8_copy_58 : decode cX8_copy 58 = .ok (.ifCond .lt 48, 3) := by decide +kernel
theorem dX8_copy_61 : decode cX8_copy 61 = .ok (.iload 4, 2) := by decide +kernel
theorem dX8_copy_63 : decode cX8_copy 63 = .ok (.ifCond .lt 43, 3) := by decide +kernel
theorem dX8_copy_66 : decode cX8_copy 66 = .ok (.iload 5, 2) := by decide +kernel
theorem dX8_copy_68 : decode cX8_copy 68 = .ok (.ifCond .lt 38, 3) := by decide +kernel
theorem dX8_copy_71 : decode cX8_copy 71 = .ok (.iload_n 2, 1) := by decide +kernel
theorem dX8_copy_72 : decode cX8_copy 72 = .ok (.i2l, 1) := by decide +kernel
theorem dX8_copy_73 : decode cX8_copy 73 = .ok (.iload 5, 2) := by decide +kernel
theorem dX8_copy_75 : decode cX8_copy 75 = .ok (.i2l, 1) := by decide +kernel
theorem dX8_copy_76 : decode cX8_copy 76 = .ok (.ladd, 1) := by decide +kernel
theorem dX8_copy_77 : decode cX8_copy 77 = .ok (.aload_n 0, 1) := by decide +kernel
theorem dX8_copy_78 : decode cX8_copy 78 = .ok (.getfield 22, 3) := by decide +kernel
theorem dX8_copy_81 : decode cX8_copy 81 = .ok (.iload_n 1, 1) := by decide +kernel
theorem dX8_copy_82 : decode cX8_copy 82 = .ok (.iaload, 1) := by decide +kernel
theorem dX8_copy_83 : decode cX8_copy 83 = .ok (.i2l, 1) := by decide +kernel
theorem dX8_copy_84 : decode cX8_copy 84 = .ok (.lcmp, 1) := by decide +kernel
theorem dX8_copy_85 : decode cX8_copy 85 = .ok (.ifCond .gt 21, 3) := by decide +kernel
theorem dX8_copy_88 : decode cX8_copy 88 = .ok (.iload 4, 2) := by decide +kernel
theorem dX8_copy_90 : decode cX8_copy 90 = .ok (.i2l, 1) := by decide +kernel
theorem dX8_copy_91 : decode cX8_copy 91 = .ok (.iload 5, 2) := by decide +kernel
theorem dX8_copy_93 : decode cX8_copy 93 = .ok (.i2l, 1) := by decide +kernel
theorem dX8_copy_94 : decode cX8_copy 94 = .ok (.ladd, 1) := by decide +kernel
theorem dX8_copy_95 : decode cX8_copy 95 = .ok (.aload_n 0, 1) := by decide +kernel
theorem dX8_copy_96 : decode cX8_copy 96 = .ok (.getfield 22, 3) := by decide +kernel
theorem dX8_copy_99 : decode cX8_copy 99 = .ok (.iload_n 3, 1) := by decide +kernel
theorem dX8_copy_100 : decode cX8_copy 100 = .ok (.iaload, 1) := by decide +kernel
theorem dX8_copy_101 : decode cX8_copy 101 = .ok (.i2l, 1) := by decide +kernel
theorem dX8_copy_102 : decode cX8_copy 102 = .ok (.lcmp, 1) := by decide +kernel
theorem dX8_copy_103 : decode cX8_copy 103 = .ok (.ifCond .le 7, 3) := by decide +kernel
theorem dX8_copy_106 : decode cX8_copy 106 = .ok (.ldc_w 316, 3) := by decide +kernel
theorem dX8_copy_109 : decode cX8_copy 109 = .ok (.ireturn, 1) := by decide +kernel
theorem dX8_copy_110 : decode cX8_copy 110 = .ok (.iconst 0, 1) := by decide +kernel
theorem dX8_copy_111 : decode cX8_copy 111 = .ok (.istore 6, 2) := by decide +kernel
theorem dX8_copy_113 : decode cX8_copy 113 = .ok (.iload 6, 2) := by decide +kernel
theorem dX8_copy_115 : decode cX8_copy 115 = .ok (.iload 5, 2) := by decide +kernel
theorem dX8_copy_117 : decode cX8_copy 117 = .ok (.if_icmp .ge 30, 3) := by decide +kernel
theorem dX8_copy_120 : decode cX8_copy 120 = .ok (.aload_n 0, 1) := by decide +kernel
theorem dX8_copy_121 : decode cX8_copy 121 = .ok (.getfield 62, 3) := by decide +kernel
theorem dX8_copy_124 : decode cX8_copy 124 = .ok (.iload 6, 2) := by decide +kernel
theorem dX8_copy_126 : decode cX8_copy 126 = .ok (.aload_n 0, 1) := by decide +kernel
theorem dX8_copy_127 : decode cX8_copy 127 = .ok (.getfield 25, 3) := by decide +kernel
theorem dX8_copy_130 : decode cX8_copy 130 = .ok (.bipush 24, 2) := by decide +kernel
theorem dX8_copy_132 : decode cX8_copy 132 = .ok (.iload_n 1, 1) := by decide +kernel
theorem dX8_copy_133 : decode cX8_copy 133 = .ok (.imul, 1) := by decide +kernel
theorem dX8_copy_134 : decode cX8_copy 134 = .ok (.iload_n 2, 1) := by decide +kernel
theorem dX8_copy_135 : decode cX8_copy 135 = .ok (.iadd, 1) := by decide +kernel
theorem dX8_copy_136 : decode cX8_copy 136 = .ok (.iload 6, 2) := by decide +kernel
theorem dX8_copy_138 : decode cX8_copy 138 = .ok (.iadd, 1) := by decide +kernel
theorem dX8_copy_139 : decode cX8_copy 139 = .ok (.iaload, 1) := by decide +kernel
theorem dX8_copy_140 : decode cX8_copy 140 = .ok (.iastore, 1) := by decide +kernel
theorem dX8_copy_141 : decode cX8_copy 141 = .ok (.iinc 6 1, 3) := by decide +kernel
theorem dX8_copy_144 : decode cX8_copy 144 = .ok (.goto (-31), 3) := by decide +kernel
theorem dX8_copy_147 : decode cX8_copy 147 = .ok (.iconst 0, 1) := by decide +kernel
theorem dX8_copy_148 : decode cX8_copy 148 = .ok (.istore 6, 2) := by decide +kernel
theorem dX8_copy_150 : decode cX8_copy 150 = .ok (.iload 6, 2) := by decide +kernel
theorem dX8_copy_152 : decode cX8_copy 152 = .ok (.iload 5, 2) := by decide +kernel
theorem dX8_copy_154 : decode cX8_copy 154 = .ok (.if_icmp .ge 31, 3) := by decide +kernel
theorem dX8_copy_157 : decode cX8_copy 157 = .ok (.aload_n 0, 1) := by decide +kernel
theorem dX8_copy_158 : decode cX8_copy 158 = .ok (.getfield 25, 3) := by decide +kernel
theorem dX8_copy_161 : decode cX8_copy 161 = .ok (.bipush 24, 2) := by decide +kernel
theorem dX8_copy_163 : decode cX8_copy 163 = .ok (.iload_n 3, 1) := by decide +kernel
theorem dX8_copy_164 : decode cX8_copy 164 = .ok (.imul, 1) := by decide +kernel
theorem dX8_copy_165 : decode cX8_copy 165 = .ok (.iload 4, 2) := by decide +kernel
theorem dX8_copy_167 : decode cX8_copy 167 = .ok (.iadd, 1) := by decide +kernel
theorem dX8_copy_168 : decode cX8_copy 168 = .ok (.iload 6, 2) := by decide +kernel
theorem dX8_copy_170 : decode cX8_copy 170 = .ok (.iadd, 1) := by decide +kernel
theorem dX8_copy_171 : decode cX8_copy 171 = .ok (.aload_n 0, 1) := by decide +kernel
theorem dX8_copy_172 : decode cX8_copy 172 = .ok (.getfield 62, 3) := by decide +kernel
theorem dX8_copy_175 : decode cX8_copy 175 = .ok (.iload 6, 2) := by decide +kernel
theorem dX8_copy_177 : decode cX8_copy 177 = .ok (.iaload, 1) := by decide +kernel
theorem dX8_copy_178 : decode cX8_copy 178 = .ok (.iastore, 1) := by decide +kernel
theorem dX8_copy_179 : decode cX8_copy 179 = .ok (.iinc 6 1, 3) := by decide +kernel
theorem dX8_copy_182 : decode cX8_copy 182 = .ok (.goto (-32), 3) := by decide +kernel
theorem dX8_copy_185 : decode cX8_copy 185 = .ok (.iload 5, 2) := by decide +kernel
theorem dX8_copy_187 : decode cX8_copy 187 = .ok (.ireturn, 1) := by decide +kernel
theorem dX8_isSlot_0 : decode cX8_isSlot 0 = .ok (.iload_n 0, 1) := by decide +kernel
theorem dX8_isSlot_1 : decode cX8_isSlot 1 = .ok (.i2l, 1) := by decide +kernel
theorem dX8_isSlot_2 : decode cX8_isSlot 2 = .ok (.lconst 0, 1) := by decide +kernel
theorem dX8_isSlot_3 : decode cX8_isSlot 3 = .ok (.ldc2_w 135, 3) := by decide +kernel
theorem dX8_isSlot_6 : decode cX8_isSlot 6 = .ok (.invokestatic 72, 3) := by decide +kernel
theorem dX8_isSlot_9 : decode cX8_isSlot 9 = .ok (.ireturn, 1) := by decide +kernel
theorem dX8_lay_0 : decode cX8_lay 0 = .ok (.iload_n 2, 1) := by decide +kernel
theorem dX8_lay_1 : decode cX8_lay 1 = .ok (.ifCond .eq 33, 3) := by decide +kernel
theorem dX8_lay_4 : decode cX8_lay 4 = .ok (.iload_n 2, 1) := by decide +kernel
theorem dX8_lay_5 : decode cX8_lay 5 = .ok (.iconst 3, 1) := by decide +kernel
theorem dX8_lay_6 : decode cX8_lay 6 = .ok (.if_icmp .eq 28, 3) := by decide +kernel
theorem dX8_lay_9 : decode cX8_lay 9 = .ok (.iload_n 2, 1) := by decide +kernel
theorem dX8_lay_10 : decode cX8_lay 10 = .ok (.iconst 1, 1) := by decide +kernel
theorem dX8_lay_11 : decode cX8_lay 11 = .ok (.if_icmp .ne 11, 3) := by decide +kernel
theorem dX8_lay_14 : decode cX8_lay 14 = .ok (.aload_n 0, 1) := by decide +kernel
theorem dX8_lay_15 : decode cX8_lay 15 = .ok (.iload_n 3, 1) := by decide +kernel
theorem dX8_lay_16 : decode cX8_lay 16 = .ok (.invokevirtual 113, 3) := by decide +kernel
theorem dX8_lay_19 : decode cX8_lay 19 = .ok (.ifCond .ne 15, 3) := by decide +kernel
theorem dX8_lay_22 : decode cX8_lay 22 = .ok (.iload_n 2, 1) := by decide +kernel
theorem dX8_lay_23 : decode cX8_lay 23 = .ok (.iconst 2, 1) := by decide +kernel
theorem dX8_lay_24 : decode cX8_lay 24 = .ok (.if_icmp .ne 14, 3) := by decide +kernel
theorem dX8_lay_27 : decode cX8_lay 27 = .ok (.iload_n 3, 1) := by decide +kernel
theorem dX8_lay_28 : decode cX8_lay 28 = .ok (.invokestatic 309, 3) := by decide +kernel
theorem dX8_lay_31 : decode cX8_lay 31 = .ok (.ifCond .eq 7, 3) := by decide +kernel
theorem dX8_lay_34 : decode cX8_lay 34 = .ok (.iconst 1, 1) := by decide +kernel
theorem dX8_lay_35 : decode cX8_lay 35 = .ok (.goto 4, 3) := by decide +kernel
theorem dX8_lay_38 : decode cX8_lay 38 = .ok (.iconst 0, 1) := by decide +kernel
theorem dX8_lay_39 : decode cX8_lay 39 = .ok (.istore 4, 2) := by decide +kernel
theorem dX8_lay_41 : decode cX8_lay 41 = .ok (.iload_n 1, 1) := by decide +kernel
theorem dX8_lay_42 : decode cX8_lay 42 = .ok (.invokestatic 324, 3) := by decide +kernel
theorem dX8_lay_45 : decode cX8_lay 45 = .ok (.ifCond .eq 8, 3) := by decide +kernel
theorem dX8_lay_48 : decode cX8_lay 48 = .ok (.iload 4, 2) := by decide +kernel
theorem dX8_lay_50 : decode cX8_lay 50 = .ok (.ifCond .ne 6, 3) := by decide +kernel
theorem dX8_lay_53 : decode cX8_lay 53 = .ok (.ldc 85, 2) := by decide +kernel
theorem dX8_lay_55 : decode cX8_lay 55 = .ok (.ireturn, 1) := by decide +kernel
theorem dX8_lay_56 : decode cX8_lay 56 = .ok (.iload_n 2, 1) := by decide +kernel
theorem dX8_lay_57 : decode cX8_lay 57 = .ok (.iconst 2, 1) := by decide +kernel
theorem dX8_lay_58 : decode cX8_lay 58 = .ok (.if_icmp .ne 16, 3) := by decide +kernel
theorem dX8_lay_61 : decode cX8_lay 61 = .ok (.aload_n 0, 1) := by decide +kernel
theorem dX8_lay_62 : decode cX8_lay 62 = .ok (.getfield 19, 3) := by decide +kernel
theorem dX8_lay_65 : decode cX8_lay 65 = .ok (.iload_n 3, 1) := by decide +kernel
theorem dX8_lay_66 : decode cX8_lay 66 = .ok (.iaload, 1) := by decide +kernel
theorem dX8_lay_67 : decode cX8_lay 67 = .ok (.ifCond .ge 7, 3) := by decide +kernel
theorem dX8_lay_70 : decode cX8_lay 70 = .ok (.ldc_w 315, 3) := by decide +kernel
theorem dX8_lay_73 : decode cX8_lay 73 = .ok (.ireturn, 1) := by decide +kernel
theorem dX8_lay_74 : decode cX8_lay 74 = .ok (.aload_n 0, 1) := by decide +kernel
theorem dX8_lay_75 : decode cX8_lay 75 = .ok (.getfield 28, 3) := by decide +kernel
theorem dX8_lay_78 : decode cX8_lay 78 = .ok (.iload_n 1, 1) := by decide +kernel
theorem dX8_lay_79 : decode cX8_lay 79 = .ok (.iaload, 1) := by decide +kernel
theorem dX8_lay_80 : decode cX8_lay 80 = .ok (.istore 5, 2) := by decide +kernel
theorem dX8_lay_82 : decode cX8_lay 82 = .ok (.aload_n 0, 1) := by decide +kernel
theorem dX8_lay_83 : decode cX8_lay 83 = .ok (.getfield 28, 3) := by decide +kernel
theorem dX8_lay_86 : decode cX8_lay 86 = .ok (.iload_n 1, 1) := by decide +kernel
theorem dX8_lay_87 : decode cX8_lay 87 = .ok (.iload_n 2, 1) := by decide +kernel
theorem dX8_lay_88 : decode cX8_lay 88 = .ok (.iastore, 1) := by decide +kernel
theorem dX8_lay_89 : decode cX8_lay 89 = .ok (.aload_n 0, 1) := by decide +kernel
theorem dX8_lay_90 : decode cX8_lay 90 = .ok (.getfield 31, 3) := by decide +kernel
theorem dX8_lay_93 : decode cX8_lay 93 = .ok (.iload_n 1, 1) := by decide +kernel
theorem dX8_lay_94 : decode cX8_lay 94 = .ok (.iload_n 2, 1) := by decide +kernel
theorem dX8_lay_95 : decode cX8_lay 95 = .ok (.iconst 1, 1) := by decide +kernel
theorem dX8_lay_96 : decode cX8_lay 96 = .ok (.if_icmp .ne 12, 3) := by decide +kernel
theorem dX8_lay_99 : decode cX8_lay 99 = .ok (.aload_n 0, 1) := by decide +kernel
theorem dX8_lay_100 : decode cX8_lay 100 = .ok (.iload_n 3, 1) := by decide +kernel
theorem dX8_lay_101 : decode cX8_lay 101 = .ok (.iconst 0, 1) := by decide +kernel
theorem dX8_lay_102 : decode cX8_lay 102 = .ok (.invokevirtual 91, 3) := by decide +kernel
theorem dX8_lay_105 : decode cX8_lay 105 = .ok (.goto 4, 3) := by decide +kernel
theorem dX8_lay_108 : decode cX8_lay 108 = .ok (.iload_n 3, 1) := by decide +kernel
theorem dX8_lay_109 : decode cX8_lay 109 = .ok (.iastore, 1) := by decide +kernel
theorem dX8_lay_110 : decode cX8_lay 110 = .ok (.aload_n 0, 1) := by decide +kernel
theorem dX8_lay_111 : decode cX8_lay 111 = .ok (.getfield 34, 3) := by decide +kernel
theorem dX8_lay_114 : decode cX8_lay 114 = .ok (.iload_n 1, 1) := by decide +kernel
theorem dX8_lay_115 : decode cX8_lay 115 = .ok (.iload_n 2, 1) := by decide +kernel
theorem dX8_lay_116 : decode cX8_lay 116 = .ok (.iconst 1, 1) := by decide +kernel
theorem dX8_lay_117 : decode cX8_lay 117 = .ok (.if_icmp .ne 11, 3) := by decide +kernel
theorem dX8_lay_120 : decode cX8_lay 120 = .ok (.aload_n 0, 1) := by decide +kernel
theorem dX8_lay_121 : decode cX8_lay 121 = .ok (.iload_n 3, 1) := by decide +kernel
theorem dX8_lay_122 : decode cX8_lay 122 = .ok (.invokevirtual 118, 3) := by decide +kernel
theorem dX8_lay_125 : decode cX8_lay 125 = .ok (.goto 4, 3) := by decide +kernel
theorem dX8_lay_128 : decode cX8_lay 128 = .ok (.iconst 0, 1) := by decide +kernel
theorem dX8_lay_129 : decode cX8_lay 129 = .ok (.iastore, 1) := by decide +kernel
theorem dX8_lay_130 : decode cX8_lay 130 = .ok (.iload_n 2, 1) := by decide +kernel
theorem dX8_lay_131 : decode cX8_lay 131 = .ok (.iconst 2, 1) := by decide +kernel
theorem dX8_lay_132 : decode cX8_lay 132 = .ok (.if_icmp .ne 55, 3) := by decide +kernel
theorem dX8_lay_135 : decode cX8_lay 135 = .ok (.aload_n 0, 1) := by decide +kernel
theorem dX8_lay_136 : decode cX8_lay 136 = .ok (.getfield 37, 3) := by decide +kernel
theorem dX8_lay_139 : decode cX8_lay 139 = .ok (.iload_n 1, 1) := by decide +kernel
theorem dX8_lay_140 : decode cX8_lay 140 = .ok (.aload_n 0, 1) := by decide +kernel
theorem dX8_lay_141 : decode cX8_lay 141 = .ok (.getfield 22, 3) := by decide +kernel
theorem dX8_lay_144 : decode cX8_lay 144 = .ok (.iload_n 3, 1) := by decide +kernel
theorem dX8_lay_145 : decode cX8_lay 145 = .ok (.iaload, 1) := by decide +kernel
theorem dX8_lay_146 : decode cX8_lay 146 = .ok (.iastore, 1) := by decide +kernel
theorem dX8_lay_147 : decode cX8_lay 147 = .ok (.iconst 0, 1) := by decide +kernel
theorem dX8_lay_148 : decode cX8_lay 148 = .ok (.istore 6, 2) := by decide +kernel
theorem dX8_lay_150 : decode cX8_lay 150 = .ok (.iload 6, 2) := by decide +kernel
theorem dX8_lay_152 : decode cX8_lay 152 = .ok (.bipush 24, 2) := by decide +kernel
theorem dX8_lay_154 : decode cX8_lay 154 = .ok (.if_icmp .ge 33, 3) := by decide +kernel
theorem dX8_lay_157 : decode cX8_lay 157 = .ok (.aload_n 0, 1) := by decide +kernel
theorem dX8_lay_158 : decode cX8_lay 158 = .ok (.getfield 40, 3) := by decide +kernel
theorem dX8_lay_161 : decode cX8_lay 161 = .ok (.bipush 24, 2) := by decide +kernel
theorem dX8_lay_163 : decode cX8_lay 163 = .ok (.iload_n 1, 1) := by decide +kernel
theorem dX8_lay_164 : decode cX8_lay 164 = .ok (.imul, 1) := by decide +kernel
theorem dX8_lay_165 : decode cX8_lay 165 = .ok (.iload 6, 2) := by decide +kernel
theorem dX8_lay_167 : decode cX8_lay 167 = .ok (.iadd, 1) := by decide +kernel
theorem dX8_lay_168 : decode cX8_lay 168 = .ok (.aload_n 0, 1) := by decide +kernel
theorem dX8_lay_169 : decode cX8_lay 169 = .ok (.getfield 25, 3) := by decide +kernel
theorem dX8_lay_172 : decode cX8_lay 172 = .ok (.bipush 24, 2) := by decide +kernel
theorem dX8_lay_174 : decode cX8_lay 174 = .ok (.iload_n 3, 1) := by decide +kernel
theorem dX8_lay_175 : decode cX8_lay 175 = .ok (.imul, 1) := by decide +kernel
theorem dX8_lay_176 : decode cX8_lay 176 = .ok (.iload 6, 2) := by decide +kernel
theorem dX8_lay_178 : decode cX8_lay 178 = .ok (.iadd, 1) := by decide +kernel
theorem dX8_lay_179 : decode cX8_lay 179 = .ok (.iaload, 1) := by decide +kernel
theorem dX8_lay_180 : decode cX8_lay 180 = .ok (.iastore, 1) := by decide +kernel
theorem dX8_lay_181 : decode cX8_lay 181 = .ok (.iinc 6 1, 3) := by decide +kernel
theorem dX8_lay_184 : decode cX8_lay 184 = .ok (.goto (-34), 3) := by decide +kernel
theorem dX8_lay_187 : decode cX8_lay 187 = .ok (.iload 5, 2) := by decide +kernel
theorem dX8_lay_189 : decode cX8_lay 189 = .ok (.ireturn, 1) := by decide +kernel
theorem dX8_ask_0 : decode cX8_ask 0 = .ok (.iload_n 1, 1) := by decide +kernel
theorem dX8_ask_1 : decode cX8_ask 1 = .ok (.invokestatic 324, 3) := by decide +kernel
theorem dX8_ask_4 : decode cX8_ask 4 = .ok (.ifCond .eq 15, 3) := by decide +kernel
theorem dX8_ask_7 : decode cX8_ask 7 = .ok (.iload_n 2, 1) := by decide +kernel
theorem dX8_ask_8 : decode cX8_ask 8 = .ok (.i2l, 1) := by decide +kernel
theorem dX8_ask_9 : decode cX8_ask 9 = .ok (.lconst 0, 1) := by decide +kernel
theorem dX8_ask_10 : decode cX8_ask 10 = .ok (.ldc2_w 77, 3) := by decide +kernel
theorem dX8_ask_13 : decode cX8_ask 13 = .ok (.invokestatic 72, 3) := by decide +kernel
theorem dX8_ask_16 : decode cX8_ask 16 = .ok (.ifCond .ne 6, 3) := by decide +kernel
theorem dX8_ask_19 : decode cX8_ask 19 = .ok (.ldc 85, 2) := by decide +kernel
theorem dX8_ask_21 : decode cX8_ask 21 = .ok (.ireturn, 1) := by decide +kernel
theorem dX8_ask_22 : decode cX8_ask 22 = .ok (.aload_n 0, 1) := by decide +kernel
theorem dX8_ask_23 : decode cX8_ask 23 = .ok (.getfield 28, 3) := by decide +kernel
theorem dX8_ask_26 : decode cX8_ask 26 = .ok (.iload_n 1, 1) := by decide +kernel
theorem dX8_ask_27 : decode cX8_ask 27 = .ok (.iaload, 1) := by decide +kernel
theorem dX8_ask_28 : decode cX8_ask 28 = .ok (.ifCond .ne 7, 3) := by decide +kernel
theorem dX8_ask_31 : decode cX8_ask 31 = .ok (.ldc_w 315, 3) := by decide +kernel
theorem dX8_ask_34 : decode cX8_ask 34 = .ok (.ireturn, 1) := by decide +kernel
theorem dX8_ask_35 : decode cX8_ask 35 = .ok (.aload_n 0, 1) := by decide +kernel
theorem dX8_ask_36 : decode cX8_ask 36 = .ok (.getfield 28, 3) := by decide +kernel
theorem dX8_ask_39 : decode cX8_ask 39 = .ok (.iload_n 1, 1) := by decide +kernel
theorem dX8_ask_40 : decode cX8_ask 40 = .ok (.iaload, 1) := by decide +kernel
theorem dX8_ask_41 : decode cX8_ask 41 = .ok (.iconst 1, 1) := by decide +kernel
theorem dX8_ask_42 : decode cX8_ask 42 = .ok (.if_icmp .ne 25, 3) := by decide +kernel
theorem dX8_ask_45 : decode cX8_ask 45 = .ok (.aload_n 0, 1) := by decide +kernel
theorem dX8_ask_46 : decode cX8_ask 46 = .ok (.getfield 31, 3) := by decide +kernel
theorem dX8_ask_49 : decode cX8_ask 49 = .ok (.iload_n 1, 1) := by decide +kernel
theorem dX8_ask_50 : decode cX8_ask 50 = .ok (.iaload, 1) := by decide +kernel
theorem dX8_ask_51 : decode cX8_ask 51 = .ok (.iload_n 2, 1) := by decide +kernel
theorem dX8_ask_52 : decode cX8_ask 52 = .ok (.invokestatic 127, 3) := by decide +kernel
theorem dX8_ask_55 : decode cX8_ask 55 = .ok (.ifCond .eq 12, 3) := by decide +kernel
theorem dX8_ask_58 : decode cX8_ask 58 = .ok (.aload_n 0, 1) := by decide +kernel
theorem dX8_ask_59 : decode cX8_ask 59 = .ok (.getfield 34, 3) := by decide +kernel
theorem dX8_ask_62 : decode cX8_ask 62 = .ok (.iload_n 1, 1) := by decide +kernel
theorem dX8_ask_63 : decode cX8_ask 63 = .ok (.iaload, 1) := by decide +kernel
theorem dX8_ask_64 : decode cX8_ask 64 = .ok (.goto 5, 3) := by decide +kernel
theorem dX8_ask_67 : decode cX8_ask 67 = .ok (.ldc 131, 2) := by decide +kernel
theorem dX8_ask_69 : decode cX8_ask 69 = .ok (.ireturn, 1) := by decide +kernel
theorem dX8_item_0 : decode cX8_item 0 = .ok (.iload_n 1, 1) := by decide +kernel
theorem dX8_item_1 : decode cX8_item 1 = .ok (.invokestatic 324, 3) := by decide +kernel
theorem dX8_item_4 : decode cX8_item 4 = .ok (.ifCond .ne 6, 3) := by decide +kernel
theorem dX8_item_7 : decode cX8_item 7 = .ok (.ldc 85, 2) := by decide +kernel
theorem dX8_item_9 : decode cX8_item 9 = .ok (.ireturn, 1) := by decide +kernel
theorem dX8_item_10 : decode cX8_item 10 = .ok (.aload_n 0, 1) := by decide +kernel
theorem dX8_item_11 : decode cX8_item 11 = .ok (.getfield 28, 3) := by decide +kernel
theorem dX8_item_14 : decode cX8_item 14 = .ok (.iload_n 1, 1) := by decide +kernel
theorem dX8_item_15 : decode cX8_item 15 = .ok (.iaload, 1) := by decide +kernel
theorem dX8_item_16 : decode cX8_item 16 = .ok (.iconst 2, 1) := by decide +kernel
theorem dX8_item_17 : decode cX8_item 17 = .ok (.if_icmp .eq 21, 3) := by decide +kernel
theorem dX8_item_20 : decode cX8_item 20 = .ok (.aload_n 0, 1) := by decide +kernel
theorem dX8_item_21 : decode cX8_item 21 = .ok (.getfield 28, 3) := by decide +kernel
theorem dX8_item_24 : decode cX8_item 24 = .ok (.iload_n 1, 1) := by decide +kernel
theorem dX8_item_25 : decode cX8_item 25 = .ok (.iaload, 1) := by decide +kernel
theorem dX8_item_26 : decode cX8_item 26 = .ok (.ifCond .ne 9, 3) := by decide +kernel
theorem dX8_item_29 : decode cX8_item 29 = .ok (.ldc_w 315, 3) := by decide +kernel
theorem dX8_item_32 : decode cX8_item 32 = .ok (.goto 5, 3) := by decide +kernel
theorem dX8_item_35 : decode cX8_item 35 = .ok (.ldc 131, 2) := by decide +kernel
theorem dX8_item_37 : decode cX8_item 37 = .ok (.ireturn, 1) := by decide +kernel
theorem dX8_item_38 : decode cX8_item 38 = .ok (.iload_n 2, 1) := by decide +kernel
theorem dX8_item_39 : decode cX8_item 39 = .ok (.i2l, 1) := by decide +kernel
theorem dX8_item_40 : decode cX8_item 40 = .ok (.lconst 0, 1) := by decide +kernel
theorem dX8_item_41 : decode cX8_item 41 = .ok (.aload_n 0, 1) := by decide +kernel
theorem dX8_item_42 : decode cX8_item 42 = .ok (.getfield 37, 3) := by decide +kernel
theorem dX8_item_45 : decode cX8_item 45 = .ok (.iload_n 1, 1) := by decide +kernel
theorem dX8_item_46 : decode cX8_item 46 = .ok (.iaload, 1) := by decide +kernel
theorem dX8_item_47 : decode cX8_item 47 = .ok (.iconst 1, 1) := by decide +kernel
theorem dX8_item_48 : decode cX8_item 48 = .ok (.isub, 1) := by decide +kernel
theorem dX8_item_49 : decode cX8_item 49 = .ok (.i2l, 1) := by decide +kernel
theorem dX8_item_50 : decode cX8_item 50 = .ok (.invokestatic 72, 3) := by decide +kernel
theorem dX8_item_53 : decode cX8_item 53 = .ok (.ifCond .ne 7, 3) := by decide +kernel
theorem dX8_item_56 : decode cX8_item 56 = .ok (.ldc_w 316, 3) := by decide +kernel
theorem dX8_item_59 : decode cX8_item 59 = .ok (.ireturn, 1) := by decide +kernel
theorem dX8_item_60 : decode cX8_item 60 = .ok (.aload_n 0, 1) := by decide +kernel
theorem dX8_item_61 : decode cX8_item 61 = .ok (.getfield 40, 3) := by decide +kernel
theorem dX8_item_64 : decode cX8_item 64 = .ok (.bipush 24, 2) := by decide +kernel
theorem dX8_item_66 : decode cX8_item 66 = .ok (.iload_n 1, 1) := by decide +kernel
theorem dX8_item_67 : decode cX8_item 67 = .ok (.imul, 1) := by decide +kernel
theorem dX8_item_68 : decode cX8_item 68 = .ok (.iload_n 2, 1) := by decide +kernel
theorem dX8_item_69 : decode cX8_item 69 = .ok (.iadd, 1) := by decide +kernel
theorem dX8_item_70 : decode cX8_item 70 = .ok (.iaload, 1) := by decide +kernel
theorem dX8_item_71 : decode cX8_item 71 = .ok (.istore_n 3, 1) := by decide +kernel
theorem dX8_item_72 : decode cX8_item 72 = .ok (.iload_n 3, 1) := by decide +kernel
theorem dX8_item_73 : decode cX8_item 73 = .ok (.ldc 71, 2) := by decide +kernel
theorem dX8_item_75 : decode cX8_item 75 = .ok (.if_icmp .ne 8, 3) := by decide +kernel
theorem dX8_item_78 : decode cX8_item 78 = .ok (.ldc 131, 2) := by decide +kernel
theorem dX8_item_80 : decode cX8_item 80 = .ok (.goto 4, 3) := by decide +kernel
theorem dX8_item_83 : decode cX8_item 83 = .ok (.iload_n 3, 1) := by decide +kernel
theorem dX8_item_84 : decode cX8_item 84 = .ok (.ireturn, 1) := by decide +kernel
theorem dX8_rest_0 : decode cX8_rest 0 = .ok (.iload_n 1, 1) := by decide +kernel
theorem dX8_rest_1 : decode cX8_rest 1 = .ok (.invokestatic 324, 3) := by decide +kernel
theorem dX8_rest_4 : decode cX8_rest 4 = .ok (.ifCond .ne 6, 3) := by decide +kernel
theorem dX8_rest_7 : decode cX8_rest 7 = .ok (.ldc 85, 2) := by decide +kernel
theorem dX8_rest_9 : decode cX8_rest 9 = .ok (.ireturn, 1) := by decide +kernel
theorem dX8_rest_10 : decode cX8_rest 10 = .ok (.aload_n 0, 1) := by decide +kernel
theorem dX8_rest_11 : decode cX8_rest 11 = .ok (.getfield 28, 3) := by decide +kernel
theorem dX8_rest_14 : decode cX8_rest 14 = .ok (.iload_n 1, 1) := by decide +kernel
theorem dX8_rest_15 : decode cX8_rest 15 = .ok (.iaload, 1) := by decide +kernel
theorem dX8_rest_16 : decode cX8_rest 16 = .ok (.iconst 3, 1) := by decide +kernel
theorem dX8_rest_17 : decode cX8_rest 17 = .ok (.if_icmp .eq 21, 3) := by decide +kernel
theorem dX8_rest_20 : decode cX8_rest 20 = .ok (.aload_n 0, 1) := by decide +kernel
theorem dX8_rest_21 : decode cX8_rest 21 = .ok (.getfield 28, 3) := by decide +kernel
theorem dX8_rest_24 : decode cX8_rest 24 = .ok (.iload_n 1, 1) := by decide +kernel
theorem dX8_rest_25 : decode cX8_rest 25 = .ok (.iaload, 1) := by decide +kernel
theorem dX8_rest_26 : decode cX8_rest 26 = .ok (.ifCond .ne 9, 3) := by decide +kernel
theorem dX8_rest_29 : decode cX8_rest 29 = .ok (.ldc_w 315, 3) := by decide +kernel
theorem dX8_rest_32 : decode cX8_rest 32 = .ok (.goto 5, 3) := by decide +kernel
theorem dX8_rest_35 : decode cX8_rest 35 = .ok (.ldc 131, 2) := by decide +kernel
theorem dX8_rest_37 : decode cX8_rest 37 = .ok (.ireturn, 1) := by decide +kernel
theorem dX8_rest_38 : decode cX8_rest 38 = .ok (.iload_n 2, 1) := by decide +kernel
theorem dX8_rest_39 : decode cX8_rest 39 = .ok (.ifCond .ne 9, 3) := by decide +kernel
theorem dX8_rest_42 : decode cX8_rest 42 = .ok (.ldc_w 327, 3) := by decide +kernel
theorem dX8_rest_45 : decode cX8_rest 45 = .ok (.goto 11, 3) := by decide +kernel
theorem dX8_rest_48 : decode cX8_rest 48 = .ok (.aload_n 0, 1) := by decide +kernel
theorem dX8_rest_49 : decode cX8_rest 49 = .ok (.getfield 31, 3) := by decide +kernel
theorem dX8_rest_52 : decode cX8_rest 52 = .ok (.iload_n 1, 1) := by decide +kernel
theorem dX8_rest_53 : decode cX8_rest 53 = .ok (.iaload, 1) := by decide +kernel
theorem dX8_rest_54 : decode cX8_rest 54 = .ok (.iload_n 2, 1) := by decide +kernel
theorem dX8_rest_55 : decode cX8_rest 55 = .ok (.irem, 1) := by decide +kernel
theorem dX8_rest_56 : decode cX8_rest 56 = .ok (.ireturn, 1) := by decide +kernel
theorem dX8_tell_0 : decode cX8_tell 0 = .ok (.aload_n 0, 1) := by decide +kernel
theorem dX8_tell_1 : decode cX8_tell 1 = .ok (.getfield 328, 3) := by decide +kernel
theorem dX8_tell_4 : decode cX8_tell 4 = .ok (.bipush 60, 2) := by decide +kernel
theorem dX8_tell_6 : decode cX8_tell 6 = .ok (.if_icmp .ne 6, 3) := by decide +kernel
theorem dX8_tell_9 : decode cX8_tell 9 = .ok (.ldc 86, 2) := by decide +kernel
theorem dX8_tell_11 : decode cX8_tell 11 = .ok (.ireturn, 1) := by decide +kernel
theorem dX8_tell_12 : decode cX8_tell 12 = .ok (.aload_n 0, 1) := by decide +kernel
theorem dX8_tell_13 : decode cX8_tell 13 = .ok (.getfield 65, 3) := by decide +kernel
theorem dX8_tell_16 : decode cX8_tell 16 = .ok (.aload_n 0, 1) := by decide +kernel
theorem dX8_tell_17 : decode cX8_tell 17 = .ok (.getfield 328, 3) := by decide +kernel
theorem dX8_tell_20 : decode cX8_tell 20 = .ok (.iload_n 1, 1) := by decide +kernel
theorem dX8_tell_21 : decode cX8_tell 21 = .ok (.iastore, 1) := by decide +kernel
theorem dX8_tell_22 : decode cX8_tell 22 = .ok (.aload_n 0, 1) := by decide +kernel
theorem dX8_tell_23 : decode cX8_tell 23 = .ok (.dup, 1) := by decide +kernel
theorem dX8_tell_24 : decode cX8_tell 24 = .ok (.getfield 328, 3) := by decide +kernel
theorem dX8_tell_27 : decode cX8_tell 27 = .ok (.iconst 1, 1) := by decide +kernel
theorem dX8_tell_28 : decode cX8_tell 28 = .ok (.iadd, 1) := by decide +kernel
theorem dX8_tell_29 : decode cX8_tell 29 = .ok (.putfield 328, 3) := by decide +kernel
theorem dX8_tell_32 : decode cX8_tell 32 = .ok (.aload_n 0, 1) := by decide +kernel
theorem dX8_tell_33 : decode cX8_tell 33 = .ok (.getfield 328, 3) := by decide +kernel
theorem dX8_tell_36 : decode cX8_tell 36 = .ok (.ireturn, 1) := by decide +kernel
theorem dX8_setAside_0 : decode cX8_setAside 0 = .ok (.iconst 0, 1) := by decide +kernel
theorem dX8_setAside_1 : decode cX8_setAside 1 = .ok (.istore_n 3, 1) := by decide +kernel
theorem dX8_setAside_2 : decode cX8_setAside 2 = .ok (.iload_n 3, 1) := by decide +kernel
theorem dX8_setAside_3 : decode cX8_setAside 3 = .ok (.sipush 2908, 3) := by decide +kernel
theorem dX8_setAside_6 : decode cX8_setAside 6 = .ok (.if_icmp .ge 15, 3) := by decide +kernel
theorem dX8_setAside_9 : decode cX8_setAside 9 = .ok (.aload_n 2, 1) := by decide +kernel
theorem dX8_setAside_10 : decode cX8_setAside 10 = .ok (.iload_n 3, 1) := by decide +kernel
theorem dX8_setAside_11 : decode cX8_setAside 11 = .ok (.aload_n 1, 1) := by decide +kernel
theorem dX8_setAside_12 : decode cX8_setAside 12 = .ok (.iload_n 3, 1) := by decide +kernel
theorem dX8_setAside_13 : decode cX8_setAside 13 = .ok (.iaload, 1) := by decide +kernel
theorem dX8_setAside_14 : decode cX8_setAside 14 = .ok (.iastore, 1) := by decide +kernel
theorem dX8_setAside_15 : decode cX8_setAside 15 = .ok (.iinc 3 1, 3) := by decide +kernel
theorem dX8_setAside_18 : decode cX8_setAside 18 = .ok (.goto (-16), 3) := by decide +kernel
theorem dX8_setAside_21 : decode cX8_setAside 21 = .ok (.return_, 1) := by decide +kernel
theorem dX8_check_0 : decode cX8_check 0 = .ok (.aload_n 0, 1) := by decide +kernel
theorem dX8_check_1 : decode cX8_check 1 = .ok (.getfield 328, 3) := by decide +kernel
theorem dX8_check_4 : decode cX8_check 4 = .ok (.istore_n 2, 1) := by decide +kernel
theorem dX8_check_5 : decode cX8_check 5 = .ok (.aload_n 0, 1) := by decide +kernel
theorem dX8_check_6 : decode cX8_check 6 = .ok (.iconst 0, 1) := by decide +kernel
theorem dX8_check_7 : decode cX8_check 7 = .ok (.putfield 328, 3) := by decide +kernel
theorem dX8_check_10 : decode cX8_check 10 = .ok (.iload_n 1, 1) := by decide +kernel
theorem dX8_check_11 : decode cX8_check 11 = .ok (.i2l, 1) := by decide +kernel
theorem dX8_check_12 : decode cX8_check 12 = .ok (.lconst 1, 1) := by decide +kernel
theorem dX8_check_13 : decode cX8_check 13 = .ok (.ldc2_w 81, 3) := by decide +kernel
theorem dX8_check_16 : decode cX8_check 16 = .ok (.invokestatic 72, 3) := by decide +kernel
theorem dX8_check_19 : decode cX8_check 19 = .ok (.ifCond .ne 6, 3) := by decide +kernel
theorem dX8_check_22 : decode cX8_check 22 = .ok (.ldc 85, 2) := by decide +kernel
theorem dX8_check_24 : decode cX8_check 24 = .ok (.ireturn, 1) := by decide +kernel
theorem dX8_check_25 : decode cX8_check 25 = .ok (.aload_n 0, 1) := by decide +kernel
theorem dX8_check_26 : decode cX8_check 26 = .ok (.getfield 331, 3) := by decide +kernel
theorem dX8_check_29 : decode cX8_check 29 = .ok (.ifCond .ne 7, 3) := by decide +kernel
theorem dX8_check_32 : decode cX8_check 32 = .ok (.ldc_w 327, 3) := by decide +kernel
theorem dX8_check_35 : decode cX8_check 35 = .ok (.ireturn, 1) := by decide +kernel
theorem dX8_check_36 : decode cX8_check 36 = .ok (.aload_n 0, 1) := by decide +kernel
theorem dX8_check_37 : decode cX8_check 37 = .ok (.aload_n 0, 1) := by decide +kernel
theorem dX8_check_38 : decode cX8_check 38 = .ok (.getfield 7, 3) := by decide +kernel
theorem dX8_check_41 : decode cX8_check 41 = .ok (.aload_n 0, 1) := by decide +kernel
theorem dX8_check_42 : decode cX8_check 42 = .ok (.getfield 16, 3) := by decide +kernel
theorem dX8_check_45 : decode cX8_check 45 = .ok (.invokevirtual 335, 3) := by decide +kernel
theorem dX8_check_48 : decode cX8_check 48 = .ok (.aload_n 0, 1) := by decide +kernel
theorem dX8_check_49 : decode cX8_check 49 = .ok (.aload_n 0, 1) := by decide +kernel
theorem dX8_check_50 : decode cX8_check 50 = .ok (.getfield 13, 3) := by decide +kernel
theorem dX8_check_53 : decode cX8_check 53 = .ok (.aload_n 0, 1) := by decide +kernel
theorem dX8_check_54 : decode cX8_check 54 = .ok (.getfield 7, 3) := by decide +kernel
theorem dX8_check_57 : decode cX8_check 57 = .ok (.invokevirtual 335, 3) := by decide +kernel
theorem dX8_check_60 : decode cX8_check 60 = .ok (.iconst 0, 1) := by decide +kernel
theorem dX8_check_61 : decode cX8_check 61 = .ok (.istore_n 3, 1) := by decide +kernel
theorem dX8_check_62 : decode cX8_check 62 = .ok (.iconst 0, 1) := by decide +kernel
theorem dX8_check_63 : decode cX8_check 63 = .ok (.istore 4, 2) := by decide +kernel
theorem dX8_check_65 : decode cX8_check 65 = .ok (.iload 4, 2) := by decide +kernel
theorem dX8_check_67 : decode cX8_check 67 = .ok (.iload_n 1, 1) := by decide +kernel
theorem dX8_check_68 : decode cX8_check 68 = .ok (.if_icmp .ge 51, 3) := by decide +kernel
theorem dX8_check_71 : decode cX8_check 71 = .ok (.aload_n 0, 1) := by decide +kernel
theorem dX8_check_72 : decode cX8_check 72 = .ok (.getfield 7, 3) := by decide +kernel
theorem dX8_check_75 : decode cX8_check 75 = .ok (.iconst 2, 1) := by decide +kernel
theorem dX8_check_76 : decode cX8_check 76 = .ok (.iaload, 1) := by decide +kernel
theorem dX8_check_77 : decode cX8_check 77 = .ok (.ldc 181, 2) := by decide +kernel
theorem dX8_check_79 : decode cX8_check 79 = .ok (.if_icmp .ge 40, 3) := by decide +kernel
theorem dX8_check_82 : decode cX8_check 82 = .ok (.aload_n 0, 1) := by decide +kernel
theorem dX8_check_83 : decode cX8_check 83 = .ok (.invokevirtual 182, 3) := by decide +kernel
theorem dX8_check_86 : decode cX8_check 86 = .ok (.aload_n 0, 1) := by decide +kernel
theorem dX8_check_87 : decode cX8_check 87 = .ok (.getfield 68, 3) := by decide +kernel
theorem dX8_check_90 : decode cX8_check 90 = .ok (.iload_n 3, 1) := by decide +kernel
theorem dX8_check_91 : decode cX8_check 91 = .ok (.aload_n 0, 1) := by decide +kernel
theorem dX8_check_92 : decode cX8_check 92 = .ok (.getfield 7, 3) := by decide +kernel
theorem dX8_check_95 : decode cX8_check 95 = .ok (.iconst 5, 1) := by decide +kernel
theorem dX8_check_96 : decode cX8_check 96 = .ok (.iaload, 1) := by decide +kernel
theorem dX8_check_97 : decode cX8_check 97 = .ok (.iastore, 1) := by decide +kernel
theorem dX8_check_98 : decode cX8_check 98 = .ok (.aload_n 0, 1) := by decide +kernel
theorem dX8_check_99 : decode cX8_check 99 = .ok (.getfield 68, 3) := by decide +kernel
theorem dX8_check_102 : decode cX8_check 102 = .ok (.iload_n 3, 1) := by decide +kernel
theorem dX8_check_103 : decode cX8_check 103 = .ok (.iconst 1, 1) := by decide +kernel
theorem dX8_check_104 : decode cX8_check 104 = .ok (.iadd, 1) := by decide +kernel
theorem dX8_check_105 : decode cX8_check 105 = .ok (.aload_n 0, 1) := by decide +kernel
theorem dX8_check_106 : decode cX8_check 106 = .ok (.invokevirtual 106, 3) := by decide +kernel
theorem dX8_check_109 : decode cX8_check 109 = .ok (.iastore, 1) := by decide +kernel
theorem dX8_check_110 : decode cX8_check 110 = .ok (.iinc 3 2, 3) := by decide +kernel
theorem dX8_check_113 : decode cX8_check 113 = .ok (.iinc 4 1, 3) := by decide +kernel
theorem dX8_check_116 : decode cX8_check 116 = .ok (.goto (-51), 3) := by decide +kernel
theorem dX8_check_119 : decode cX8_check 119 = .ok (.aload_n 0, 1) := by decide +kernel
theorem dX8_check_120 : decode cX8_check 120 = .ok (.aload_n 0, 1) := by decide +kernel
theorem dX8_check_121 : decode cX8_check 121 = .ok (.getfield 16, 3) := by decide +kernel
theorem dX8_check_124 : decode cX8_check 124 = .ok (.aload_n 0, 1) := by decide +kernel
theorem dX8_check_125 : decode cX8_check 125 = .ok (.getfield 7, 3) := by decide +kernel
theorem dX8_check_128 : decode cX8_check 128 = .ok (.invokevirtual 335, 3) := by decide +kernel
theorem dX8_check_131 : decode cX8_check 131 = .ok (.iconst 0, 1) := by decide +kernel
theorem dX8_check_132 : decode cX8_check 132 = .ok (.istore 4, 2) := by decide +kernel
theorem dX8_check_134 : decode cX8_check 134 = .ok (.iload 4, 2) := by decide +kernel
theorem dX8_check_136 : decode cX8_check 136 = .ok (.iload_n 2, 1) := by decide +kernel
theorem dX8_check_137 : decode cX8_check 137 = .ok (.if_icmp .ge 32, 3) := by decide +kernel
theorem dX8_check_140 : decode cX8_check 140 = .ok (.iload 4, 2) := by decide +kernel
theorem dX8_check_142 : decode cX8_check 142 = .ok (.iload_n 3, 1) := by decide +kernel
theorem dX8_check_143 : decode cX8_check 143 = .ok (.if_icmp .ge 26, 3) := by decide +kernel
theorem dX8_check_146 : decode cX8_check 146 = .ok (.aload_n 0, 1) := by decide +kernel
theorem dX8_check_147 : decode cX8_check 147 = .ok (.getfield 65, 3) := by decide +kernel
theorem dX8_check_150 : decode cX8_check 150 = .ok (.iload 4, 2) := by decide +kernel
theorem dX8_check_152 : decode cX8_check 152 = .ok (.iaload, 1) := by decide +kernel
theorem dX8_check_153 : decode cX8_check 153 = .ok (.aload_n 0, 1) := by decide +kernel
theorem dX8_check_154 : decode cX8_check 154 = .ok (.getfield 68, 3) := by decide +kernel
theorem dX8_check_157 : decode cX8_check 157 = .ok (.iload 4, 2) := by decide +kernel
theorem dX8_check_159 : decode cX8_check 159 = .ok (.iaload, 1) := by decide +kernel
theorem dX8_check_160 : decode cX8_check 160 = .ok (.if_icmp .ne 9, 3) := by decide +kernel
theorem dX8_check_163 : decode cX8_check 163 = .ok (.iinc 4 1, 3) := by decide +kernel
theorem dX8_check_166 : decode cX8_check 166 = .ok (.goto (-32), 3) := by decide +kernel
theorem dX8_check_169 : decode cX8_check 169 = .ok (.iload 4, 2) := by decide +kernel
theorem dX8_check_171 : decode cX8_check 171 = .ok (.iload_n 2, 1) := by decide +kernel
theorem dX8_check_172 : decode cX8_check 172 = .ok (.if_icmp .ne 13, 3) := by decide +kernel
theorem dX8_check_175 : decode cX8_check 175 = .ok (.iload 4, 2) := by decide +kernel
theorem dX8_check_177 : decode cX8_check 177 = .ok (.iload_n 3, 1) := by decide +kernel
theorem dX8_check_178 : decode cX8_check 178 = .ok (.if_icmp .ne 7, 3) := by decide +kernel
theorem dX8_check_181 : decode cX8_check 181 = .ok (.iconst 0, 1) := by decide +kernel
theorem dX8_check_182 : decode cX8_check 182 = .ok (.goto 7, 3) := by decide +kernel
theorem dX8_check_185 : decode cX8_check 185 = .ok (.iconst 1, 1) := by decide +kernel
theorem dX8_check_186 : decode cX8_check 186 = .ok (.iload 4, 2) := by decide +kernel
theorem dX8_check_188 : decode cX8_check 188 = .ok (.iadd, 1) := by decide +kernel
theorem dX8_check_189 : decode cX8_check 189 = .ok (.ireturn, 1) := by decide +kernel
theorem dX8_keep_0 : decode cX8_keep 0 = .ok (.aload_n 0, 1) := by decide +kernel
theorem dX8_keep_1 : decode cX8_keep 1 = .ok (.iconst 1, 1) := by decide +kernel
theorem dX8_keep_2 : decode cX8_keep 2 = .ok (.putfield 331, 3) := by decide +kernel
theorem dX8_keep_5 : decode cX8_keep 5 = .ok (.aload_n 0, 1) := by decide +kernel
theorem dX8_keep_6 : decode cX8_keep 6 = .ok (.aload_n 0, 1) := by decide +kernel
theorem dX8_keep_7 : decode cX8_keep 7 = .ok (.getfield 7, 3) := by decide +kernel
theorem dX8_keep_10 : decode cX8_keep 10 = .ok (.aload_n 0, 1) := by decide +kernel
theorem dX8_keep_11 : decode cX8_keep 11 = .ok (.getfield 13, 3) := by decide +kernel
theorem dX8_keep_14 : decode cX8_keep 14 = .ok (.invokevirtual 335, 3) := by decide +kernel
theorem dX8_keep_17 : decode cX8_keep 17 = .ok (.aload_n 0, 1) := by decide +kernel
theorem dX8_keep_18 : decode cX8_keep 18 = .ok (.getfield 7, 3) := by decide +kernel
theorem dX8_keep_21 : decode cX8_keep 21 = .ok (.iconst 0, 1) := by decide +kernel
theorem dX8_keep_22 : decode cX8_keep 22 = .ok (.iaload, 1) := by decide +kernel
theorem dX8_keep_23 : decode cX8_keep 23 = .ok (.ireturn, 1) := by decide +kernel
theorem dX8_back_0 : decode cX8_back 0 = .ok (.aload_n 0, 1) := by decide +kernel
theorem dX8_back_1 : decode cX8_back 1 = .ok (.getfield 331, 3) := by decide +kernel
theorem dX8_back_4 : decode cX8_back 4 = .ok (.ifCond .ne 7, 3) := by decide +kernel
theorem dX8_back_7 : decode cX8_back 7 = .ok (.ldc_w 327, 3) := by decide +kernel
theorem dX8_back_10 : decode cX8_back 10 = .ok (.ireturn, 1) := by decide +kernel
theorem dX8_back_11 : decode cX8_back 11 = .ok (.aload_n 0, 1) := by decide +kernel
theorem dX8_back_12 : decode cX8_back 12 = .ok (.aload_n 0, 1) := by decide +kernel
theorem dX8_back_13 : decode cX8_back 13 = .ok (.getfield 13, 3) := by decide +kernel
theorem dX8_back_16 : decode cX8_back 16 = .ok (.aload_n 0, 1) := by decide +kernel
theorem dX8_back_17 : decode cX8_back 17 = .ok (.getfield 7, 3) := by decide +kernel
theorem dX8_back_20 : decode cX8_back 20 = .ok (.invokevirtual 335, 3) := by decide +kernel
theorem dX8_back_23 : decode cX8_back 23 = .ok (.aload_n 0, 1) := by decide +kernel
theorem dX8_back_24 : decode cX8_back 24 = .ok (.getfield 7, 3) := by decide +kernel
theorem dX8_back_27 : decode cX8_back 27 = .ok (.iconst 0, 1) := by decide +kernel
theorem dX8_back_28 : decode cX8_back 28 = .ok (.iaload, 1) := by decide +kernel
theorem dX8_back_29 : decode cX8_back 29 = .ok (.ireturn, 1) := by decide +kernel
theorem dX8_count_0 : decode cX8_count 0 = .ok (.iload_n 1, 1) := by decide +kernel
theorem dX8_count_1 : decode cX8_count 1 = .ok (.tableswitch 144 0 11 #[63, 70, 75, 82, 89, 97, 105, 112, 119, 126, 131, 136], 63) := by decide +kernel
theorem dX8_count_64 : decode cX8_count 64 = .ok (.aload_n 0, 1) := by decide +kernel
theorem dX8_count_65 : decode cX8_count 65 = .ok (.getfield 7, 3) := by decide +kernel
theorem dX8_count_68 : decode cX8_count 68 = .ok (.iconst 0, 1) := by decide +kernel
theorem dX8_count_69 : decode cX8_count 69 = .ok (.iaload, 1) := by decide +kernel
theorem dX8_count_70 : decode cX8_count 70 = .ok (.ireturn, 1) := by decide +kernel
theorem dX8_count_71 : decode cX8_count 71 = .ok (.aload_n 0, 1) := by decide +kernel
theorem dX8_count_72 : decode cX8_count 72 = .ok (.invokevirtual 106, 3) := by decide +kernel
theorem dX8_count_75 : decode cX8_count 75 = .ok (.ireturn, 1) := by decide +kernel
theorem dX8_count_76 : decode cX8_count 76 = .ok (.aload_n 0, 1) := by decide +kernel
theorem dX8_count_77 : decode cX8_count 77 = .ok (.getfield 7, 3) := by decide +kernel
theorem dX8_count_80 : decode cX8_count 80 = .ok (.iconst 2, 1) := by decide +kernel
theorem dX8_count_81 : decode cX8_count 81 = .ok (.iaload, 1) := by decide +kernel
theorem dX8_count_82 : decode cX8_count 82 = .ok (.ireturn, 1) := by decide +kernel
theorem dX8_count_83 : decode cX8_count 83 = .ok (.aload_n 0, 1) := by decide +kernel
theorem dX8_count_84 : decode cX8_count 84 = .ok (.getfield 7, 3) := by decide +kernel
theorem dX8_count_87 : decode cX8_count 87 = .ok (.iconst 5, 1) := by decide +kernel
theorem dX8_count_88 : decode cX8_count 88 = .ok (.iaload, 1) := by decide +kernel
theorem dX8_count_89 : decode cX8_count 89 = .ok (.ireturn, 1) := by decide +kernel
theorem dX8_count_90 : decode cX8_count 90 = .ok (.aload_n 0, 1) := by decide +kernel
theorem dX8_count_91 : decode cX8_count 91 = .ok (.getfield 7, 3) := by decide +kernel
theorem dX8_count_94 : decode cX8_count 94 = .ok (.bipush 8, 2) := by decide +kernel
theorem dX8_count_96 : decode cX8_count 96 = .ok (.iaload, 1) := by decide +kernel
theorem dX8_count_97 : decode cX8_count 97 = .ok (.ireturn, 1) := by decide +kernel
theorem dX8_count_98 : decode cX8_count 98 = .ok (.aload_n 0, 1) := by decide +kernel
theorem dX8_count_99 : decode cX8_count 99 = .ok (.getfield 7, 3) := by decide +kernel
theorem dX8_count_102 : decode cX8_count 102 = .ok (.bipush 9, 2) := by decide +kernel
theorem dX8_count_104 : decode cX8_count 104 = .ok (.iaload, 1) := by decide +kernel
theorem dX8_count_105 : decode cX8_count 105 = .ok (.ireturn, 1) := by decide +kernel
theorem dX8_count_106 : decode cX8_count 106 = .ok (.aload_n 0, 1) := by decide +kernel
theorem dX8_count_107 : decode cX8_count 107 = .ok (.bipush 9, 2) := by decide +kernel
theorem dX8_count_109 : decode cX8_count 109 = .ok (.invokevirtual 185, 3) := by decide +kernel
theorem dX8_count_112 : decode cX8_count 112 = .ok (.ireturn, 1) := by decide +kernel
theorem dX8_count_113 : decode cX8_count 113 = .ok (.aload_n 0, 1) := by decide +kernel
theorem dX8_count_114 : decode cX8_count 114 = .ok (.bipush 10, 2) := by decide +kernel
theorem dX8_count_116 : decode cX8_count 116 = .ok (.invokevirtual 185, 3) := by decide +kernel
theorem dX8_count_119 : decode cX8_count 119 = .ok (.ireturn, 1) := by decide +kernel
theorem dX8_count_120 : decode cX8_count 120 = .ok (.aload_n 0, 1) := by decide +kernel
theorem dX8_count_121 : decode cX8_count 121 = .ok (.getfield 7, 3) := by decide +kernel
theorem dX8_count_124 : decode cX8_count 124 = .ok (.iconst 1, 1) := by decide +kernel
theorem dX8_count_125 : decode cX8_count 125 = .ok (.iaload, 1) := by decide +kernel
theorem dX8_count_126 : decode cX8_count 126 = .ok (.ireturn, 1) := by decide +kernel
theorem dX8_count_127 : decode cX8_count 127 = .ok (.aload_n 0, 1) := by decide +kernel
theorem dX8_count_128 : decode cX8_count 128 = .ok (.getfield 328, 3) := by decide +kernel
theorem dX8_count_131 : decode cX8_count 131 = .ok (.ireturn, 1) := by decide +kernel
theorem dX8_count_132 : decode cX8_count 132 = .ok (.aload_n 0, 1) := by decide +kernel
theorem dX8_count_133 : decode cX8_count 133 = .ok (.getfield 206, 3) := by decide +kernel
theorem dX8_count_136 : decode cX8_count 136 = .ok (.ireturn, 1) := by decide +kernel
theorem dX8_count_137 : decode cX8_count 137 = .ok (.aload_n 0, 1) := by decide +kernel
theorem dX8_count_138 : decode cX8_count 138 = .ok (.getfield 7, 3) := by decide +kernel
theorem dX8_count_141 : decode cX8_count 141 = .ok (.bipush 10, 2) := by decide +kernel
theorem dX8_count_143 : decode cX8_count 143 = .ok (.iaload, 1) := by decide +kernel
theorem dX8_count_144 : decode cX8_count 144 = .ok (.ireturn, 1) := by decide +kernel
theorem dX8_count_145 : decode cX8_count 145 = .ok (.ldc 85, 2) := by decide +kernel
theorem dX8_count_147 : decode cX8_count 147 = .ok (.ireturn, 1) := by decide +kernel
end
section
theorem dL_law_0 : decode cL_law 0 = .ok (.new 7, 3) := by decide +kernel
theorem dL_law_3 : decode cL_law 3 = .ok (.dup, 1) := by decide +kernel
theorem dL_law_4 : decode cL_law 4 = .ok (.invokespecial 9, 3) := by decide +kernel
theorem dL_law_7 : decode cL_law 7 = .ok (.astore_n 1, 1) := by decide +kernel
theorem dL_law_8 : decode cL_law 8 = .ok (.new 10, 3) := by decide +kernel
theorem dL_law_11 : decode cL_law 11 = .ok (.dup, 1) := by decide +kernel
theorem dL_law_12 : decode cL_law 12 = .ok (.invokespecial 12, 3) := by decide +kernel
theorem dL_law_15 : decode cL_law 15 = .ok (.astore_n 2, 1) := by decide +kernel
theorem dL_law_16 : decode cL_law 16 = .ok (.iconst 0, 1) := by decide +kernel
theorem dL_law_17 : decode cL_law 17 = .ok (.istore_n 3, 1) := by decide +kernel
theorem dL_law_18 : decode cL_law 18 = .ok (.iload_n 3, 1) := by decide +kernel
theorem dL_law_19 : decode cL_law 19 = .ok (.aload_n 0, 1) := by decide +kernel
theorem dL_law_20 : decode cL_law 20 = .ok (.arraylength, 1) := by decide +kernel
theorem dL_law_21 : decode cL_law 21 = .ok (.bipush 6, 2) := by decide +kernel
theorem dL_law_23 : decode cL_law 23 = .ok (.isub, 1) := by decide +kernel
theorem dL_law_24 : decode cL_law 24 = .ok (.if_icmp .gt 1236, 3) := by decide +kernel
theorem dL_law_27 : decode cL_law 27 = .ok (.aload_n 0, 1) := by decide +kernel
theorem dL_law_28 : decode cL_law 28 = .ok (.iload_n 3, 1) := by decide +kernel
theorem dL_law_29 : decode cL_law 29 = .ok (.iaload, 1) := by decide +kernel
theorem dL_law_30 : decode cL_law 30 = .ok (.bipush 63, 2) := by decide +kernel
theorem dL_law_32 : decode cL_law 32 = .ok (.iand, 1) := by decide +kernel
theorem dL_law_33 : decode cL_law 33 = .ok (.tableswitch 1221 0 34 #[155, 208, 241, 274, 307, 350, 383, 406, 429, 452, 485, 508, 551, 584, 608, 621, 644, 687, 710, 723, 756, 779, 822, 865, 888, 921, 984, 1027, 1060, 1093, 1126, 1149, 1172, 1185, 1198], 155) := by decide +kernel
theorem dL_law_188 : decode cL_law 188 = .ok (.aload_n 1, 1) := by decide +kernel
theorem dL_law_189 : decode cL_law 189 = .ok (.aload_n 0, 1) := by decide +kernel
theorem dL_law_190 : decode cL_law 190 = .ok (.iload_n 3, 1) := by decide +kernel
theorem dL_law_191 : decode cL_law 191 = .ok (.iconst 1, 1) := by decide +kernel
theorem dL_law_192 : decode cL_law 192 = .ok (.iadd, 1) := by decide +kernel
theorem dL_law_193 : decode cL_law 193 = .ok (.iaload, 1) := by decide +kernel
theorem dL_law_194 : decode cL_law 194 = .ok (.aload_n 0, 1) := by decide +kernel
theorem dL_law_195 : decode cL_law 195 = .ok (.iload_n 3, 1) := by decide +kernel
theorem dL_law_196 : decode cL_law 196 = .ok (.iconst 2, 1) := by decide +kernel
theorem dL_law_197 : decode cL_law 197 = .ok (.iadd, 1) := by decide +kernel
theorem dL_law_198 : decode cL_law 198 = .ok (.iaload, 1) := by decide +kernel
theorem dL_law_199 : decode cL_law 199 = .ok (.aload_n 0, 1) := by decide +kernel
theorem dL_law_200 : decode cL_law 200 = .ok (.iload_n 3, 1) := by decide +kernel
theorem dL_law_201 : decode cL_law 201 = .ok (.iconst 3, 1) := by decide +kernel
theorem dL_law_202 : decode cL_law 202 = .ok (.iadd, 1) := by decide +kernel
theorem dL_law_203 : decode cL_law 203 = .ok (.iaload, 1) := by decide +kernel
theorem dL_law_204 : decode cL_law 204 = .ok (.aload_n 0, 1) := by decide +kernel
theorem dL_law_205 : decode cL_law 205 = .ok (.iload_n 3, 1) := by decide +kernel
theorem dL_law_206 : decode cL_law 206 = .ok (.iconst 4, 1) := by decide +kernel
theorem dL_law_207 : decode cL_law 207 = .ok (.iadd, 1) := by decide +kernel
theorem dL_law_208 : decode cL_law 208 = .ok (.iaload, 1) := by decide +kernel
theorem dL_law_209 : decode cL_law 209 = .ok (.invokevirtual 13, 3) := by decide +kernel
theorem dL_law_212 : decode cL_law 212 = .ok (.aload_n 2, 1) := by decide +kernel
theorem dL_law_213 : decode cL_law 213 = .ok (.aload_n 0, 1) := by decide +kernel
theorem dL_law_214 : decode cL_law 214 = .ok (.iload_n 3, 1) := by decide +kernel
theorem dL_law_215 : decode cL_law 215 = .ok (.iconst 1, 1) := by decide +kernel
theorem dL_law_216 : decode cL_law 216 = .ok (.iadd, 1) := by decide +kernel
theorem dL_law_217 : decode cL_law 217 = .ok (.iaload, 1) := by decide +kernel
theorem dL_law_218 : decode cL_law 218 = .ok (.aload_n 0, 1) := by decide +kernel
theorem dL_law_219 : decode cL_law 219 = .ok (.iload_n 3, 1) := by decide +kernel
theorem dL_law_220 : decode cL_law 220 = .ok (.iconst 2, 1) := by decide +kernel
theorem dL_law_221 : decode cL_law 221 = .ok (.iadd, 1) := by decide +kernel
theorem dL_law_222 : decode cL_law 222 = .ok (.iaload, 1) := by decide +kernel
theorem dL_law_223 : decode cL_law 223 = .ok (.aload_n 0, 1) := by decide +kernel
theorem dL_law_224 : decode cL_law 224 = .ok (.iload_n 3, 1) := by decide +kernel
theorem dL_law_225 : decode cL_law 225 = .ok (.iconst 3, 1) := by decide +kernel
theorem dL_law_226 : decode cL_law 226 = .ok (.iadd, 1) := by decide +kernel
theorem dL_law_227 : decode cL_law 227 = .ok (.iaload, 1) := by decide +kernel
theorem dL_law_228 : decode cL_law 228 = .ok (.aload_n 0, 1) := by decide +kernel
theorem dL_law_229 : decode cL_law 229 = .ok (.iload_n 3, 1) := by decide +kernel
theorem dL_law_230 : decode cL_law 230 = .ok (.iconst 4, 1) := by decide +kernel
theorem dL_law_231 : decode cL_law 231 = .ok (.iadd, 1) := by decide +kernel
theorem dL_law_232 : decode cL_law 232 = .ok (.iaload, 1) := by decide +kernel
theorem dL_law_233 : decode cL_law 233 = .ok (.invokevirtual 17, 3) := by decide +kernel
theorem dL_law_236 : decode cL_law 236 = .ok (.if_icmp .eq 1018, 3) := by decide +kernel
theorem dL_law_239 : decode cL_law 239 = .ok (.iconst 0, 1) := by decide +kernel
theorem dL_law_240 : decode cL_law 240 = .ok (.ireturn, 1) := by decide +kernel
theorem dL_law_241 : decode cL_law 241 = .ok (.aload_n 1, 1) := by decide +kernel
theorem dL_law_242 : decode cL_law 242 = .ok (.aload_n 0, 1) := by decide +kernel
theorem dL_law_243 : decode cL_law 243 = .ok (.iload_n 3, 1) := by decide +kernel
theorem dL_law_244 : decode cL_law 244 = .ok (.iconst 1, 1) := by decide +kernel
theorem dL_law_245 : decode cL_law 245 = .ok (.iadd, 1) := by decide +kernel
theorem dL_law_246 : decode cL_law 246 = .ok (.iaload, 1) := by decide +kernel
theorem dL_law_247 : decode cL_law 247 = .ok (.aload_n 0, 1) := by decide +kernel
theorem dL_law_248 : decode cL_law 248 = .ok (.iload_n 3, 1) := by decide +kernel
theorem dL_law_249 : decode cL_law 249 = .ok (.iconst 2, 1) := by decide +kernel
theorem dL_law_250 : decode cL_law 250 = .ok (.iadd, 1) := by decide +kernel
theorem dL_law_251 : decode cL_law 251 = .ok (.iaload, 1) := by decide +kernel
theorem dL_law_252 : decode cL_law 252 = .ok (.invokevirtual 18, 3) := by decide +kernel
theorem dL_law_255 : decode cL_law 255 = .ok (.aload_n 2, 1) := by decide +kernel
theorem dL_law_256 : decode cL_law 256 = .ok (.aload_n 0, 1) := by decide +kernel
theorem dL_law_257 : decode cL_law 257 = .ok (.iload_n 3, 1) := by decide +kernel
theorem dL_law_258 : decode cL_law 258 = .ok (.iconst 1, 1) := by decide +kernel
theorem dL_law_259 : decode cL_law 259 = .ok (.iadd, 1) := by decide +kernel
theorem dL_law_260 : decode cL_law 260 = .ok (.iaload, 1) := by decide +kernel
theorem dL_law_261 : decode cL_law 261 = .ok (.aload_n 0, 1) := by decide +kernel
theorem dL_law_262 : decode cL_law 262 = .ok (.iload_n 3, 1) := by decide +kernel
theorem dL_law_263 : decode cL_law 263 = .ok (.iconst 2, 1) := by decide +kernel
theorem dL_law_264 : decode cL_law 264 = .ok (.iadd, 1) := by decide +kernel
theorem dL_law_265 : decode cL_law 265 = .ok (.iaload, 1) := by decide +kernel
theorem dL_law_266 : decode cL_law 266 = .ok (.invokevirtual 22, 3) := by decide +kernel
theorem dL_law_269 : decode cL_law 269 = .ok (.if_icmp .eq 985, 3) := by decide +kernel
theorem dL_law_272 : decode cL_law 272 = .ok (.iconst 0, 1) := by decide +kernel
theorem dL_law_273 : decode cL_law 273 = .ok (.ireturn, 1) := by decide +kernel
theorem dL_law_274 : decode cL_law 274 = .ok (.aload_n 1, 1) := by decide +kernel
theorem dL_law_275 : decode cL_law 275 = .ok (.aload_n 0, 1) := by decide +kernel
theorem dL_law_276 : decode cL_law 276 = .ok (.iload_n 3, 1) := by decide +kernel
theorem dL_law_277 : decode cL_law 277 = .ok (.iconst 1, 1) := by decide +kernel
theorem dL_law_278 : decode cL_law 278 = .ok (.iadd, 1) := by decide +kernel
theorem dL_law_279 : decode cL_law 279 = .ok (.iaload, 1) := by decide +kernel
theorem dL_law_280 : decode cL_law 280 = .ok (.aload_n 0, 1) := by decide +kernel
theorem dL_law_281 : decode cL_law 281 = .ok (.iload_n 3, 1) := by decide +kernel
theorem dL_law_282 : decode cL_law 282 = .ok (.iconst 2, 1) := by decide +kernel
theorem dL_law_283 : decode cL_law 283 = .ok (.iadd, 1) := by decide +kernel
theorem dL_law_284 : decode cL_law 284 = .ok (.iaload, 1) := by decide +kernel
theorem dL_law_285 : decode cL_law 285 = .ok (.invokevirtual 23, 3) := by decide +kernel
theorem dL_law_288 : decode cL_law 288 = .ok (.aload_n 2, 1) := by decide +kernel
theorem dL_law_289 : decode cL_law 289 = .ok (.aload_n 0, 1) := by decide +kernel
theorem dL_law_290 : decode cL_law 290 = .ok (.iload_n 3, 1) := by decide +kernel
theorem dL_law_291 : decode cL_law 291 = .ok (.iconst 1, 1) := by decide +kernel
theorem dL_law_292 : decode cL_law 292 = .ok (.iadd, 1) := by decide +kernel
theorem dL_law_293 : decode cL_law 293 = .ok (.iaload, 1) := by decide +kernel
theorem dL_law_294 : decode cL_law 294 = .ok (.aload_n 0, 1) := by decide +kernel
theorem dL_law_295 : decode cL_law 295 = .ok (.iload_n 3, 1) := by decide +kernel
theorem dL_law_296 : decode cL_law 296 = .ok (.iconst 2, 1) := by decide +kernel
theorem dL_law_297 : decode cL_law 297 = .ok (.iadd, 1) := by decide +kernel
theorem dL_law_298 : decode cL_law 298 = .ok (.iaload, 1) := by decide +kernel
theorem dL_law_299 : decode cL_law 299 = .ok (.invokevirtual 26, 3) := by decide +kernel
theorem dL_law_302 : decode cL_law 302 = .ok (.if_icmp .eq 952, 3) := by decide +kernel
theorem dL_law_305 : decode cL_law 305 = .ok (.iconst 0, 1) := by decide +kernel
theorem dL_law_306 : decode cL_law 306 = .ok (.ireturn, 1) := by decide +kernel
theorem dL_law_307 : decode cL_law 307 = .ok (.aload_n 1, 1) := by decide +kernel
theorem dL_law_308 : decode cL_law 308 = .ok (.aload_n 0, 1) := by decide +kernel
theorem dL_law_309 : decode cL_law 309 = .ok (.iload_n 3, 1) := by decide +kernel
theorem dL_law_310 : decode cL_law 310 = .ok (.iconst 1, 1) := by decide +kernel
theorem dL_law_311 : decode cL_law 311 = .ok (.iadd, 1) := by decide +kernel
theorem dL_law_312 : decode cL_law 312 = .ok (.iaload, 1) := by decide +kernel
theorem dL_law_313 : decode cL_law 313 = .ok (.aload_n 0, 1) := by decide +kernel
theorem dL_law_314 : decode cL_law 314 = .ok (.iload_n 3, 1) := by decide +kernel
theorem dL_law_315 : decode cL_law 315 = .ok (.iconst 2, 1) := by decide +kernel
theorem dL_law_316 : decode cL_law 316 = .ok (.iadd, 1) := by decide +kernel
theorem dL_law_317 : decode cL_law 317 = .ok (.iaload, 1) := by decide +kernel
theorem dL_law_318 : decode cL_law 318 = .ok (.invokevirtual 27, 3) := by decide +kernel
theorem dL_law_321 : decode cL_law 321 = .ok (.aload_n 2, 1) := by decide +kernel
theorem dL_law_322 : decode cL_law 322 = .ok (.aload_n 0, 1) := by decide +kernel
theorem dL_law_323 : decode cL_law 323 = .ok (.iload_n 3, 1) := by decide +kernel
theorem dL_law_324 : decode cL_law 324 = .ok (.iconst 1, 1) := by decide +kernel
theorem dL_law_325 : decode cL_law 325 = .ok (.iadd, 1) := by decide +kernel
theorem dL_law_326 : decode cL_law 326 = .ok (.iaload, 1) := by decide +kernel
theorem dL_law_327 : decode cL_law 327 = .ok (.aload_n 0, 1) := by decide +kernel
theorem dL_law_328 : decode cL_law 328 = .ok (.iload_n 3, 1) := by decide +kernel
theorem dL_law_329 : decode cL_law 329 = .ok (.iconst 2, 1) := by decide +kernel
theorem dL_law_330 : decode cL_law 330 = .ok (.iadd, 1) := by decide +kernel
theorem dL_law_331 : decode cL_law 331 = .ok (.iaload, 1) := by decide +kernel
theorem dL_law_332 : decode cL_law 332 = .ok (.invokevirtual 30, 3) := by decide +kernel
theorem dL_law_335 : decode cL_law 335 = .ok (.if_icmp .eq 919, 3) := by decide +kernel
theorem dL_law_338 : decode cL_law 338 = .ok (.iconst 0, 1) := by decide +kernel
theorem dL_law_339 : decode cL_law 339 = .ok (.ireturn, 1) := by decide +kernel
theorem dL_law_340 : decode cL_law 340 = .ok (.aload_n 1, 1) := by decide +kernel
theorem dL_law_341 : decode cL_law 341 = .ok (.aload_n 0, 1) := by decide +kernel
theorem dL_law_342 : decode cL_law 342 = .ok (.iload_n 3, 1) := by decide +kernel
theorem dL_law_343 : decode cL_law 343 = .ok (.iconst 1, 1) := by decide +kernel
theorem dL_law_344 : decode cL_law 344 = .ok (.iadd, 1) := by decide +kernel
theorem dL_law_345 : decode cL_law 345 = .ok (.iaload, 1) := by decide +kernel
theorem dL_law_346 : decode cL_law 346 = .ok (.aload_n 0, 1) := by decide +kernel
theorem dL_law_347 : decode cL_law 347 = .ok (.iload_n 3, 1) := by decide +kernel
theorem dL_law_348 : decode cL_law 348 = .ok (.iconst 2, 1) := by decide +kernel
theorem dL_law_349 : decode cL_law 349 = .ok (.iadd, 1) := by decide +kernel
theorem dL_law_350 : decode cL_law 350 = .ok (.iaload, 1) := by decide +kernel
theorem dL_law_351 : decode cL_law 351 = .ok (.aload_n 0, 1) := by decide +kernel
theorem dL_law_352 : decode cL_law 352 = .ok (.iload_n 3, 1) := by decide +kernel
theorem dL_law_353 : decode cL_law 353 = .ok (.iconst 3, 1) := by decide +kernel
theorem dL_law_354 : decode cL_law 354 = .ok (.iadd, 1) := by decide +kernel
theorem dL_law_355 : decode cL_law 355 = .ok (.iaload, 1) := by decide +kernel
theorem dL_law_356 : decode cL_law 356 = .ok (.invokevirtual 31, 3) := by decide +kernel
theorem dL_law_359 : decode cL_law 359 = .ok (.aload_n 2, 1) := by decide +kernel
theorem dL_law_360 : decode cL_law 360 = .ok (.aload_n 0, 1) := by decide +kernel
theorem dL_law_361 : decode cL_law 361 = .ok (.iload_n 3, 1) := by decide +kernel
theorem dL_law_362 : decode cL_law 362 = .ok (.iconst 1, 1) := by decide +kernel
theorem dL_law_363 : decode cL_law 363 = .ok (.iadd, 1) := by decide +kernel
theorem dL_law_364 : decode cL_law 364 = .ok (.iaload, 1) := by decide +kernel
theorem dL_law_365 : decode cL_law 365 = .ok (.aload_n 0, 1) := by decide +kernel
theorem dL_law_366 : decode cL_law 366 = .ok (.iload_n 3, 1) := by decide +kernel
theorem dL_law_367 : decode cL_law 367 = .ok (.iconst 2, 1) := by decide +kernel
theorem dL_law_368 : decode cL_law 368 = .ok (.iadd, 1) := by decide +kernel
theorem dL_law_369 : decode cL_law 369 = .ok (.iaload, 1) := by decide +kernel
theorem dL_law_370 : decode cL_law 370 = .ok (.aload_n 0, 1) := by decide +kernel
theorem dL_law_371 : decode cL_law 371 = .ok (.iload_n 3, 1) := by decide +kernel
theorem dL_law_372 : decode cL_law 372 = .ok (.iconst 3, 1) := by decide +kernel
theorem dL_law_373 : decode cL_law 373 = .ok (.iadd, 1) := by decide +kernel
theorem dL_law_374 : decode cL_law 374 = .ok (.iaload, 1) := by decide +kernel
theorem dL_law_375 : decode cL_law 375 = .ok (.invokevirtual 35, 3) := by decide +kernel
theorem dL_law_378 : decode cL_law 378 = .ok (.if_icmp .eq 876, 3) := by decide +kernel
theorem dL_law_381 : decode cL_law 381 = .ok (.iconst 0, 1) := by decide +kernel
theorem dL_law_382 : decode cL_law 382 = .ok (.ireturn, 1) := by decide +kernel
theorem dL_law_383 : decode cL_law 383 = .ok (.aload_n 1, 1) := by decide +kernel
theorem dL_law_384 : decode cL_law 384 = .ok (.aload_n 0, 1) := by decide +kernel
theorem dL_law_385 : decode cL_law 385 = .ok (.iload_n 3, 1) := by decide +kernel
theorem dL_law_386 : decode cL_law 386 = .ok (.iconst 1, 1) := by decide +kernel
theorem dL_law_387 : decode cL_law 387 = .ok (.iadd, 1) := by decide +kernel
theorem dL_law_388 : decode cL_law 388 = .ok (.iaload, 1) := by decide +kernel
theorem dL_law_389 : decode cL_law 389 = .ok (.aload_n 0, 1) := by decide +kernel
theorem dL_law_390 : decode cL_law 390 = .ok (.iload_n 3, 1) := by decide +kernel
theorem dL_law_391 : decode cL_law 391 = .ok (.iconst 2, 1) := by decide +kernel
theorem dL_law_392 : decode cL_law 392 = .ok (.iadd, 1) := by decide +kernel
theorem dL_law_393 : decode cL_law 393 = .ok (.iaload, 1) := by decide +kernel
theorem dL_law_394 : decode cL_law 394 = .ok (.invokevirtual 36, 3) := by decide +kernel
theorem dL_law_397 : decode cL_law 397 = .ok (.aload_n 2, 1) := by decide +kernel
theorem dL_law_398 : decode cL_law 398 = .ok (.aload_n 0, 1) := by decide +kernel
theorem dL_law_399 : decode cL_law 399 = .ok (.iload_n 3, 1) := by decide +kernel
theorem dL_law_400 : decode cL_law 400 = .ok (.iconst 1, 1) := by decide +kernel
theorem dL_law_401 : decode cL_law 401 = .ok (.iadd, 1) := by decide +kernel
theorem dL_law_402 : decode cL_law 402 = .ok (.iaload, 1) := by decide +kernel
theorem dL_law_403 : decode cL_law 403 = .ok (.aload_n 0, 1) := by decide +kernel
theorem dL_law_404 : decode cL_law 404 = .ok (.iload_n 3, 1) := by decide +kernel
theorem dL_law_405 : decode cL_law 405 = .ok (.iconst 2, 1) := by decide +kernel
theorem dL_law_406 : decode cL_law 406 = .ok (.iadd, 1) := by decide +kernel
theorem dL_law_407 : decode cL_law 407 = .ok (.iaload, 1) := by decide +kernel
theorem dL_law_408 : decode cL_law 408 = .ok (.invokevirtual 39, 3) := by decide +kernel
theorem dL_law_411 : decode cL_law 411 = .ok (.if_icmp .eq 843, 3) := by decide +kernel
theorem dL_law_414 : decode cL_law 414 = .ok (.iconst 0, 1) := by decide +kernel
theorem dL_law_415 : decode cL_law 415 = .ok (.ireturn, 1) := by decide +kernel
theorem dL_law_416 : decode cL_law 416 = .ok (.aload_n 1, 1) := by decide +kernel
theorem dL_law_417 : decode cL_law 417 = .ok (.aload_n 0, 1) := by decide +kernel
theorem dL_law_418 : decode cL_law 418 = .ok (.iload_n 3, 1) := by decide +kernel
theorem dL_law_419 : decode cL_law 419 = .ok (.iconst 1, 1) := by decide +kernel
theorem dL_law_420 : decode cL_law 420 = .ok (.iadd, 1) := by decide +kernel
theorem dL_law_421 : decode cL_law 421 = .ok (.iaload, 1) := by decide +kernel
theorem dL_law_422 : decode cL_law 422 = .ok (.invokevirtual 40, 3) := by decide +kernel
theorem dL_law_425 : decode cL_law 425 = .ok (.aload_n 2, 1) := by decide +kernel
theorem dL_law_426 : decode cL_law 426 = .ok (.aload_n 0, 1) := by decide +kernel
theorem dL_law_427 : decode cL_law 427 = .ok (.iload_n 3, 1) := by decide +kernel
theorem dL_law_428 : decode cL_law 428 = .ok (.iconst 1, 1) := by decide +kernel
theorem dL_law_429 : decode cL_law 429 = .ok (.iadd, 1) := by decide +kernel
theorem dL_law_430 : decode cL_law 430 = .ok (.iaload, 1) := by decide +kernel
theorem dL_law_431 : decode cL_law 431 = .ok (.invokevirtual 44, 3) := by decide +kernel
theorem dL_law_434 : decode cL_law 434 = .ok (.if_icmp .eq 820, 3) := by decide +kernel
theorem dL_law_437 : decode cL_law 437 = .ok (.iconst 0, 1) := by decide +kernel
theorem dL_law_438 : decode cL_law 438 = .ok (.ireturn, 1) := by decide +kernel
theorem dL_law_439 : decode cL_law 439 = .ok (.aload_n 1, 1) := by decide +kernel
theorem dL_law_440 : decode cL_law 440 = .ok (.aload_n 0, 1) := by decide +kernel
theorem dL_law_441 : decode cL_law 441 = .ok (.iload_n 3, 1) := by decide +kernel
theorem dL_law_442 : decode cL_law 442 = .ok (.iconst 1, 1) := by decide +kernel
theorem dL_law_443 : decode cL_law 443 = .ok (.iadd, 1) := by decide +kernel
theorem dL_law_444 : decode cL_law 444 = .ok (.iaload, 1) := by decide +kernel
theorem dL_law_445 : decode cL_law 445 = .ok (.invokevirtual 45, 3) := by decide +kernel
theorem dL_law_448 : decode cL_law 448 = .ok (.aload_n 2, 1) := by decide +kernel
theorem dL_law_449 : decode cL_law 449 = .ok (.aload_n 0, 1) := by decide +kernel
theorem dL_law_450 : decode cL_law 450 = .ok (.iload_n 3, 1) := by decide +kernel
theorem dL_law_451 : decode cL_law 451 = .ok (.iconst 1, 1) := by decide +kernel
theorem dL_law_452 : decode cL_law 452 = .ok (.iadd, 1) := by decide +kernel
theorem dL_law_453 : decode cL_law 453 = .ok (.iaload, 1) := by decide +kernel
theorem dL_law_454 : decode cL_law 454 = .ok (.invokevirtual 48, 3) := by decide +kernel
theorem dL_law_457 : decode cL_law 457 = .ok (.if_icmp .eq 797, 3) := by decide +kernel
theorem dL_law_460 : decode cL_law 460 = .ok (.iconst 0, 1) := by decide +kernel
theorem dL_law_461 : decode cL_law 461 = .ok (.ireturn, 1) := by decide +kernel
theorem dL_law_462 : decode cL_law 462 = .ok (.aload_n 1, 1) := by decide +kernel
theorem dL_law_463 : decode cL_law 463 = .ok (.aload_n 0, 1) := by decide +kernel
theorem dL_law_464 : decode cL_law 464 = .ok (.iload_n 3, 1) := by decide +kernel
theorem dL_law_465 : decode cL_law 465 = .ok (.iconst 1, 1) := by decide +kernel
theorem dL_law_466 : decode cL_law 466 = .ok (.iadd, 1) := by decide +kernel
theorem dL_law_467 : decode cL_law 467 = .ok (.iaload, 1) := by decide +kernel
theorem dL_law_468 : decode cL_law 468 = .ok (.invokevirtual 49, 3) := by decide +kernel
theorem dL_law_471 : decode cL_law 471 = .ok (.aload_n 2, 1) := by decide +kernel
theorem dL_law_472 : decode cL_law 472 = .ok (.aload_n 0, 1) := by decide +kernel
theorem dL_law_473 : decode cL_law 473 = .ok (.iload_n 3, 1) := by decide +kernel
theorem dL_law_474 : decode cL_law 474 = .ok (.iconst 1, 1) := by decide +kernel
theorem dL_law_475 : decode cL_law 475 = .ok (.iadd, 1) := by decide +kernel
theorem dL_law_476 : decode cL_law 476 = .ok (.iaload, 1) := by decide +kernel
theorem dL_law_477 : decode cL_law 477 = .ok (.invokevirtual 52, 3) := by decide +kernel
theorem dL_law_480 : decode cL_law 480 = .ok (.if_icmp .eq 774, 3) := by decide +kernel
theorem dL_law_483 : decode cL_law 483 = .ok (.iconst 0, 1) := by decide +kernel
theorem dL_law_484 : decode cL_law 484 = .ok (.ireturn, 1) := by decide +kernel
theorem dL_law_485 : decode cL_law 485 = .ok (.aload_n 1, 1) := by decide +kernel
theorem dL_law_486 : decode cL_law 486 = .ok (.aload_n 0, 1) := by decide +kernel
theorem dL_law_487 : decode cL_law 487 = .ok (.iload_n 3, 1) := by decide +kernel
theorem dL_law_488 : decode cL_law 488 = .ok (.iconst 1, 1) := by decide +kernel
theorem dL_law_489 : decode cL_law 489 = .ok (.iadd, 1) := by decide +kernel
theorem dL_law_490 : decode cL_law 490 = .ok (.iaload, 1) := by decide +kernel
theorem dL_law_491 : decode cL_law 491 = .ok (.aload_n 0, 1) := by decide +kernel
theorem dL_law_492 : decode cL_law 492 = .ok (.iload_n 3, 1) := by decide +kernel
theorem dL_law_493 : decode cL_law 493 = .ok (.iconst 2, 1) := by decide +kernel
theorem dL_law_494 : decode cL_law 494 = .ok (.iadd, 1) := by decide +kernel
theorem dL_law_495 : decode cL_law 495 = .ok (.iaload, 1) := by decide +kernel
theorem dL_law_496 : decode cL_law 496 = .ok (.invokevirtual 53, 3) := by decide +kernel
theorem dL_law_499 : decode cL_law 499 = .ok (.aload_n 2, 1) := by decide +kernel
theorem dL_law_500 : decode cL_law 500 = .ok (.aload_n 0, 1) := by decide +kernel
theorem dL_law_501 : decode cL_law 501 = .ok (.iload_n 3, 1) := by decide +kernel
theorem dL_law_502 : decode cL_law 502 = .ok (.iconst 1, 1) := by decide +kernel
theorem dL_law_503 : decode cL_law 503 = .ok (.iadd, 1) := by decide +kernel
theorem dL_law_504 : decode cL_law 504 = .ok (.iaload, 1) := by decide +kernel
theorem dL_law_505 : decode cL_law 505 = .ok (.aload_n 0, 1) := by decide +kernel
theorem dL_law_506 : decode cL_law 506 = .ok (.iload_n 3, 1) := by decide +kernel
theorem dL_law_507 : decode cL_law 507 = .ok (.iconst 2, 1) := by decide +kernel
theorem dL_law_508 : decode cL_law 508 = .ok (.iadd, 1) := by decide +kernel
theorem dL_law_509 : decode cL_law 509 = .ok (.iaload, 1) := by decide +kernel
theorem dL_law_510 : decode cL_law 510 = .ok (.invokevirtual 56, 3) := by decide +kernel
theorem dL_law_513 : decode cL_law 513 = .ok (.if_icmp .eq 741, 3) := by decide +kernel
theorem dL_law_516 : decode cL_law 516 = .ok (.iconst 0, 1) := by decide +kernel
theorem dL_law_517 : decode cL_law 517 = .ok (.ireturn, 1) := by decide +kernel
theorem dL_law_518 : decode cL_law 518 = .ok (.aload_n 1, 1) := by decide +kernel
theorem dL_law_519 : decode cL_law 519 = .ok (.aload_n 0, 1) := by decide +kernel
theorem dL_law_520 : decode cL_law 520 = .ok (.iload_n 3, 1) := by decide +kernel
theorem dL_law_521 : decode cL_law 521 = .ok (.iconst 1, 1) := by decide +kernel
theorem dL_law_522 : decode cL_law 522 = .ok (.iadd, 1) := by decide +kernel
theorem dL_law_523 : decode cL_law 523 = .ok (.iaload, 1) := by decide +kernel
theorem dL_law_524 : decode cL_law 524 = .ok (.invokevirtual 57, 3) := by decide +kernel
theorem dL_law_527 : decode cL_law 527 = .ok (.aload_n 2, 1) := by decide +kernel
theorem dL_law_528 : decode cL_law 528 = .ok (.aload_n 0, 1) := by decide +kernel
theorem dL_law_529 : decode cL_law 529 = .ok (.iload_n 3, 1) := by decide +kernel
theorem dL_law_530 : decode cL_law 530 = .ok (.iconst 1, 1) := by decide +kernel
theorem dL_law_531 : decode cL_law 531 = .ok (.iadd, 1) := by decide +kernel
theorem dL_law_532 : decode cL_law 532 = .ok (.iaload, 1) := by decide +kernel
theorem dL_law_533 : decode cL_law 533 = .ok (.invokevirtual 60, 3) := by decide +kernel
theorem dL_law_536 : decode cL_law 536 = .ok (.if_icmp .eq 718, 3) := by decide +kernel
theorem dL_law_539 : decode cL_law 539 = .ok (.iconst 0, 1) := by decide +kernel
theorem dL_law_540 : decode cL_law 540 = .ok (.ireturn, 1) := by decide +kernel
theorem dL_law_541 : decode cL_law 541 = .ok (.aload_n 1, 1) := by decide +kernel
theorem dL_law_542 : decode cL_law 542 = .ok (.aload_n 0, 1) := by decide +kernel
theorem dL_law_543 : decode cL_law 543 = .ok (.iload_n 3, 1) := by decide +kernel
theorem dL_law_544 : decode cL_law 544 = .ok (.iconst 1, 1) := by decide +kernel
theorem dL_law_545 : decode cL_law 545 = .ok (.iadd, 1) := by decide +kernel
theorem dL_law_546 : decode cL_law 546 = .ok (.iaload, 1) := by decide +kernel
theorem dL_law_547 : decode cL_law 547 = .ok (.aload_n 0, 1) := by decide +kernel
theorem dL_law_548 : decode cL_law 548 = .ok (.iload_n 3, 1) := by decide +kernel
theorem dL_law_549 : decode cL_law 549 = .ok (.iconst 2, 1) := by decide +kernel
theorem dL_law_550 : decode cL_law 550 = .ok (.iadd, 1) := by decide +kernel
theorem dL_law_551 : decode cL_law 551 = .ok (.iaload, 1) := by decide +kernel
theorem dL_law_552 : decode cL_law 552 = .ok (.aload_n 0, 1) := by decide +kernel
theorem dL_law_553 : decode cL_law 553 = .ok (.iload_n 3, 1) := by decide +kernel
theorem dL_law_554 : decode cL_law 554 = .ok (.iconst 3, 1) := by decide +kernel
theorem dL_law_555 : decode cL_law 555 = .ok (.iadd, 1) := by decide +kernel
theorem dL_law_556 : decode cL_law 556 = .ok (.iaload, 1) := by decide +kernel
theorem dL_law_557 : decode cL_law 557 = .ok (.invokevirtual 61, 3) := by decide +kernel
theorem dL_law_560 : decode cL_law 560 = .ok (.aload_n 2, 1) := by decide +kernel
theorem dL_law_561 : decode cL_law 561 = .ok (.aload_n 0, 1) := by decide +kernel
theorem dL_law_562 : decode cL_law 562 = .ok (.iload_n 3, 1) := by decide +kernel
theorem dL_law_563 : decode cL_law 563 = .ok (.iconst 1, 1) := by decide +kernel
theorem dL_law_564 : decode cL_law 564 = .ok (.iadd, 1) := by decide +kernel
theorem dL_law_565 : decode cL_law 565 = .ok (.iaload, 1) := by decide +kernel
theorem dL_law_566 : decode cL_law 566 = .ok (.aload_n 0, 1) := by decide +kernel
theorem dL_law_567 : decode cL_law 567 = .ok (.iload_n 3, 1) := by decide +kernel
theorem dL_law_568 : decode cL_law 568 = .ok (.iconst 2, 1) := by decide +kernel
theorem dL_law_569 : decode cL_law 569 = .ok (.iadd, 1) := by decide +kernel
theorem dL_law_570 : decode cL_law 570 = .ok (.iaload, 1) := by decide +kernel
theorem dL_law_571 : decode cL_law 571 = .ok (.aload_n 0, 1) := by decide +kernel
theorem dL_law_572 : decode cL_law 572 = .ok (.iload_n 3, 1) := by decide +kernel
theorem dL_law_573 : decode cL_law 573 = .ok (.iconst 3, 1) := by decide +kernel
theorem dL_law_574 : decode cL_law 574 = .ok (.iadd, 1) := by decide +kernel
theorem dL_law_575 : decode cL_law 575 = .ok (.iaload, 1) := by decide +kernel
theorem dL_law_576 : decode cL_law 576 = .ok (.invokevirtual 64, 3) := by decide +kernel
theorem dL_law_579 : decode cL_law 579 = .ok (.if_icmp .eq 675, 3) := by decide +kernel
theorem dL_law_582 : decode cL_law 582 = .ok (.iconst 0, 1) := by decide +kernel
theorem dL_law_583 : decode cL_law 583 = .ok (.ireturn, 1) := by decide +kernel
theorem dL_law_584 : decode cL_law 584 = .ok (.aload_n 1, 1) := by decide +kernel
theorem dL_law_585 : decode cL_law 585 = .ok (.aload_n 0, 1) := by decide +kernel
theorem dL_law_586 : decode cL_law 586 = .ok (.iload_n 3, 1) := by decide +kernel
theorem dL_law_587 : decode cL_law 587 = .ok (.iconst 1, 1) := by decide +kernel
theorem dL_law_588 : decode cL_law 588 = .ok (.iadd, 1) := by decide +kernel
theorem dL_law_589 : decode cL_law 589 = .ok (.iaload, 1) := by decide +kernel
theorem dL_law_590 : decode cL_law 590 = .ok (.aload_n 0, 1) := by decide +kernel
theorem dL_law_591 : decode cL_law 591 = .ok (.iload_n 3, 1) := by decide +kernel
theorem dL_law_592 : decode cL_law 592 = .ok (.iconst 2, 1) := by decide +kernel
theorem dL_law_593 : decode cL_law 593 = .ok (.iadd, 1) := by decide +kernel
theorem dL_law_594 : decode cL_law 594 = .ok (.iaload, 1) := by decide +kernel
theorem dL_law_595 : decode cL_law 595 = .ok (.invokevirtual 65, 3) := by decide +kernel
theorem dL_law_598 : decode cL_law 598 = .ok (.aload_n 2, 1) := by decide +kernel
theorem dL_law_599 : decode cL_law 599 = .ok (.aload_n 0, 1) := by decide +kernel
theorem dL_law_600 : decode cL_law 600 = .ok (.iload_n 3, 1) := by decide +kernel
theorem dL_law_601 : decode cL_law 601 = .ok (.iconst 1, 1) := by decide +kernel
theorem dL_law_602 : decode cL_law 602 = .ok (.iadd, 1) := by decide +kernel
theorem dL_law_603 : decode cL_law 603 = .ok (.iaload, 1) := by decide +kernel
theorem dL_law_604 : decode cL_law 604 = .ok (.aload_n 0, 1) := by decide +kernel
theorem dL_law_605 : decode cL_law 605 = .ok (.iload_n 3, 1) := by decide +kernel
theorem dL_law_606 : decode cL_law 606 = .ok (.iconst 2, 1) := by decide +kernel
theorem dL_law_607 : decode cL_law 607 = .ok (.iadd, 1) := by decide +kernel
theorem dL_law_608 : decode cL_law 608 = .ok (.iaload, 1) := by decide +kernel
theorem dL_law_609 : decode cL_law 609 = .ok (.invokevirtual 68, 3) := by decide +kernel
theorem dL_law_612 : decode cL_law 612 = .ok (.if_icmp .eq 642, 3) := by decide +kernel
theorem dL_law_615 : decode cL_law 615 = .ok (.iconst 0, 1) := by decide +kernel
theorem dL_law_616 : decode cL_law 616 = .ok (.ireturn, 1) := by decide +kernel
theorem dL_law_617 : decode cL_law 617 = .ok (.aload_n 1, 1) := by decide +kernel
theorem dL_law_618 : decode cL_law 618 = .ok (.aload_n 0, 1) := by decide +kernel
theorem dL_law_619 : decode cL_law 619 = .ok (.iload_n 3, 1) := by decide +kernel
theorem dL_law_620 : decode cL_law 620 = .ok (.iconst 1, 1) := by decide +kernel
theorem dL_law_621 : decode cL_law 621 = .ok (.iadd, 1) := by decide +kernel
theorem dL_law_622 : decode cL_law 622 = .ok (.iaload, 1) := by decide +kernel
theorem dL_law_623 : decode cL_law 623 = .ok (.invokevirtual 69, 3) := by decide +kernel
theorem dL_law_626 : decode cL_law 626 = .ok (.aload_n 2, 1) := by decide +kernel
theorem dL_law_627 : decode cL_law 627 = .ok (.aload_n 0, 1) := by decide +kernel
theorem dL_law_628 : decode cL_law 628 = .ok (.iload_n 3, 1) := by decide +kernel
theorem dL_law_629 : decode cL_law 629 = .ok (.iconst 1, 1) := by decide +kernel
theorem dL_law_630 : decode cL_law 630 = .ok (.iadd, 1) := by decide +kernel
theorem dL_law_631 : decode cL_law 631 = .ok (.iaload, 1) := by decide +kernel
theorem dL_law_632 : decode cL_law 632 = .ok (.invokevirtual 73, 3) := by decide +kernel
theorem dL_law_635 : decode cL_law 635 = .ok (.lcmp, 1) := by decide +kernel
theorem dL_law_636 : decode cL_law 636 = .ok (.ifCond .eq 618, 3) := by decide +kernel
theorem dL_law_639 : decode cL_law 639 = .ok (.iconst 0, 1) := by decide +kernel
theorem dL_law_640 : decode cL_law 640 = .ok (.ireturn, 1) := by decide +kernel
theorem dL_law_641 : decode cL_law 641 = .ok (.aload_n 1, 1) := by decide +kernel
theorem dL_law_642 : decode cL_law 642 = .ok (.invokevirtual 74, 3) := by decide +kernel
theorem dL_law_645 : decode cL_law 645 = .ok (.aload_n 2, 1) := by decide +kernel
theorem dL_law_646 : decode cL_law 646 = .ok (.invokevirtual 78, 3) := by decide +kernel
theorem dL_law_649 : decode cL_law 649 = .ok (.if_icmp .eq 605, 3) := by decide +kernel
theorem dL_law_652 : decode cL_law 652 = .ok (.iconst 0, 1) := by decide +kernel
theorem dL_law_653 : decode cL_law 653 = .ok (.ireturn, 1) := by decide +kernel
theorem dL_law_654 : decode cL_law 654 = .ok (.aload_n 1, 1) := by decide +kernel
theorem dL_law_655 : decode cL_law 655 = .ok (.aload_n 0, 1) := by decide +kernel
theorem dL_law_656 : decode cL_law 656 = .ok (.iload_n 3, 1) := by decide +kernel
theorem dL_law_657 : decode cL_law 657 = .ok (.iconst 1, 1) := by decide +kernel
theorem dL_law_658 : decode cL_law 658 = .ok (.iadd, 1) := by decide +kernel
theorem dL_law_659 : decode cL_law 659 = .ok (.iaload, 1) := by decide +kernel
theorem dL_law_660 : decode cL_law 660 = .ok (.invokevirtual 79, 3) := by decide +kernel
theorem dL_law_663 : decode cL_law 663 = .ok (.aload_n 2, 1) := by decide +kernel
theorem dL_law_664 : decode cL_law 664 = .ok (.aload_n 0, 1) := by decide +kernel
theorem dL_law_665 : decode cL_law 665 = .ok (.iload_n 3, 1) := by decide +kernel
theorem dL_law_666 : decode cL_law 666 = .ok (.iconst 1, 1) := by decide +kernel
theorem dL_law_667 : decode cL_law 667 = .ok (.iadd, 1) := by decide +kernel
theorem dL_law_668 : decode cL_law 668 = .ok (.iaload, 1) := by decide +kernel
theorem dL_law_669 : decode cL_law 669 = .ok (.invokevirtual 82, 3) := by decide +kernel
theorem dL_law_672 : decode cL_law 672 = .ok (.if_icmp .eq 582, 3) := by decide +kernel
theorem dL_law_675 : decode cL_law 675 = .ok (.iconst 0, 1) := by decide +kernel
theorem dL_law_676 : decode cL_law 676 = .ok (.ireturn, 1) := by decide +kernel
theorem dL_law_677 : decode cL_law 677 = .ok (.aload_n 1, 1) := by decide +kernel
theorem dL_law_678 : decode cL_law 678 = .ok (.aload_n 0, 1) := by decide +kernel
theorem dL_law_679 : decode cL_law 679 = .ok (.iload_n 3, 1) := by decide +kernel
theorem dL_law_680 : decode cL_law 680 = .ok (.iconst 1, 1) := by decide +kernel
theorem dL_law_681 : decode cL_law 681 = .ok (.iadd, 1) := by decide +kernel
theorem dL_law_682 : decode cL_law 682 = .ok (.iaload, 1) := by decide +kernel
theorem dL_law_683 : decode cL_law 683 = .ok (.aload_n 0, 1) := by decide +kernel
theorem dL_law_684 : decode cL_law 684 = .ok (.iload_n 3, 1) := by decide +kernel
theorem dL_law_685 : decode cL_law 685 = .ok (.iconst 2, 1) := by decide +kernel
theorem dL_law_686 : decode cL_law 686 = .ok (.iadd, 1) := by decide +kernel
theorem dL_law_687 : decode cL_law 687 = .ok (.iaload, 1) := by decide +kernel
theorem dL_law_688 : decode cL_law 688 = .ok (.aload_n 0, 1) := by decide +kernel
theorem dL_law_689 : decode cL_law 689 = .ok (.iload_n 3, 1) := by decide +kernel
theorem dL_law_690 : decode cL_law 690 = .ok (.iconst 3, 1) := by decide +kernel
theorem dL_law_691 : decode cL_law 691 = .ok (.iadd, 1) := by decide +kernel
theorem dL_law_692 : decode cL_law 692 = .ok (.iaload, 1) := by decide +kernel
theorem dL_law_693 : decode cL_law 693 = .ok (.invokevirtual 83, 3) := by decide +kernel
theorem dL_law_696 : decode cL_law 696 = .ok (.aload_n 2, 1) := by decide +kernel
theorem dL_law_697 : decode cL_law 697 = .ok (.aload_n 0, 1) := by decide +kernel
theorem dL_law_698 : decode cL_law 698 = .ok (.iload_n 3, 1) := by decide +kernel
theorem dL_law_699 : decode cL_law 699 = .ok (.iconst 1, 1) := by decide +kernel
theorem dL_law_700 : decode cL_law 700 = .ok (.iadd, 1) := by decide +kernel
theorem dL_law_701 : decode cL_law 701 = .ok (.iaload, 1) := by decide +kernel
theorem dL_law_702 : decode cL_law 702 = .ok (.aload_n 0, 1) := by decide +kernel
theorem dL_law_703 : decode cL_law 703 = .ok (.iload_n 3, 1) := by decide +kernel
theorem dL_law_704 : decode cL_law 704 = .ok (.iconst 2, 1) := by decide +kernel
theorem dL_law_705 : decode cL_law 705 = .ok (.iadd, 1) := by decide +kernel
theorem dL_law_706 : decode cL_law 706 = .ok (.iaload, 1) := by decide +kernel
theorem dL_law_707 : decode cL_law 707 = .ok (.aload_n 0, 1) := by decide +kernel
theorem dL_law_708 : decode cL_law 708 = .ok (.iload_n 3, 1) := by decide +kernel
theorem dL_law_709 : decode cL_law 709 = .ok (.iconst 3, 1) := by decide +kernel
theorem dL_law_710 : decode cL_law 710 = .ok (.iadd, 1) := by decide +kernel
theorem dL_law_711 : decode cL_law 711 = .ok (.iaload, 1) := by decide +kernel
theorem dL_law_712 : decode cL_law 712 = .ok (.invokevirtual 86, 3) := by decide +kernel
theorem dL_law_715 : decode cL_law 715 = .ok (.if_icmp .eq 539, 3) := by decide +kernel
theorem dL_law_718 : decode cL_law 718 = .ok (.iconst 0, 1) := by decide +kernel
theorem dL_law_719 : decode cL_law 719 = .ok (.ireturn, 1) := by decide +kernel
theorem dL_law_720 : decode cL_law 720 = .ok (.aload_n 1, 1) := by decide +kernel
theorem dL_law_721 : decode cL_law 721 = .ok (.aload_n 0, 1) := by decide +kernel
theorem dL_law_722 : decode cL_law 722 = .ok (.iload_n 3, 1) := by decide +kernel
theorem dL_law_723 : decode cL_law 723 = .ok (.iconst 1, 1) := by decide +kernel
theorem dL_law_724 : decode cL_law 724 = .ok (.iadd, 1) := by decide +kernel
theorem dL_law_725 : decode cL_law 725 = .ok (.iaload, 1) := by decide +kernel
theorem dL_law_726 : decode cL_law 726 = .ok (.invokevirtual 87, 3) := by decide +kernel
theorem dL_law_729 : decode cL_law 729 = .ok (.aload_n 2, 1) := by decide +kernel
theorem dL_law_730 : decode cL_law 730 = .ok (.aload_n 0, 1) := by decide +kernel
theorem dL_law_731 : decode cL_law 731 = .ok (.iload_n 3, 1) := by decide +kernel
theorem dL_law_732 : decode cL_law 732 = .ok (.iconst 1, 1) := by decide +kernel
theorem dL_law_733 : decode cL_law 733 = .ok (.iadd, 1) := by decide +kernel
theorem dL_law_734 : decode cL_law 734 = .ok (.iaload, 1) := by decide +kernel
theorem dL_law_735 : decode cL_law 735 = .ok (.invokevirtual 90, 3) := by decide +kernel
theorem dL_law_738 : decode cL_law 738 = .ok (.if_icmp .eq 516, 3) := by decide +kernel
theorem dL_law_741 : decode cL_law 741 = .ok (.iconst 0, 1) := by decide +kernel
theorem dL_law_742 : decode cL_law 742 = .ok (.ireturn, 1) := by decide +kernel
theorem dL_law_743 : decode cL_law 743 = .ok (.aload_n 1, 1) := by decide +kernel
theorem dL_law_744 : decode cL_law 744 = .ok (.invokevirtual 91, 3) := by decide +kernel
theorem dL_law_747 : decode cL_law 747 = .ok (.aload_n 2, 1) := by decide +kernel
theorem dL_law_748 : decode cL_law 748 = .ok (.invokevirtual 94, 3) := by decide +kernel
theorem dL_law_751 : decode cL_law 751 = .ok (.if_icmp .eq 503, 3) := by decide +kernel
theorem dL_law_754 : decode cL_law 754 = .ok (.iconst 0, 1) := by decide +kernel
theorem dL_law_755 : decode cL_law 755 = .ok (.ireturn, 1) := by decide +kernel
theorem dL_law_756 : decode cL_law 756 = .ok (.aload_n 1, 1) := by decide +kernel
theorem dL_law_757 : decode cL_law 757 = .ok (.aload_n 0, 1) := by decide +kernel
theorem dL_law_758 : decode cL_law 758 = .ok (.iload_n 3, 1) := by decide +kernel
theorem dL_law_759 : decode cL_law 759 = .ok (.iconst 1, 1) := by decide +kernel
theorem dL_law_760 : decode cL_law 760 = .ok (.iadd, 1) := by decide +kernel
theorem dL_law_761 : decode cL_law 761 = .ok (.iaload, 1) := by decide +kernel
theorem dL_law_762 : decode cL_law 762 = .ok (.aload_n 0, 1) := by decide +kernel
theorem dL_law_763 : decode cL_law 763 = .ok (.iload_n 3, 1) := by decide +kernel
theorem dL_law_764 : decode cL_law 764 = .ok (.iconst 2, 1) := by decide +kernel
theorem dL_law_765 : decode cL_law 765 = .ok (.iadd, 1) := by decide +kernel
theorem dL_law_766 : decode cL_law 766 = .ok (.iaload, 1) := by decide +kernel
theorem dL_law_767 : decode cL_law 767 = .ok (.invokevirtual 95, 3) := by decide +kernel
theorem dL_law_770 : decode cL_law 770 = .ok (.aload_n 2, 1) := by decide +kernel
theorem dL_law_771 : decode cL_law 771 = .ok (.aload_n 0, 1) := by decide +kernel
theorem dL_law_772 : decode cL_law 772 = .ok (.iload_n 3, 1) := by decide +kernel
theorem dL_law_773 : decode cL_law 773 = .ok (.iconst 1, 1) := by decide +kernel
theorem dL_law_774 : decode cL_law 774 = .ok (.iadd, 1) := by decide +kernel
theorem dL_law_775 : decode cL_law 775 = .ok (.iaload, 1) := by decide +kernel
theorem dL_law_776 : decode cL_law 776 = .ok (.aload_n 0, 1) := by decide +kernel
theorem dL_law_777 : decode cL_law 777 = .ok (.iload_n 3, 1) := by decide +kernel
theorem dL_law_778 : decode cL_law 778 = .ok (.iconst 2, 1) := by decide +kernel
theorem dL_law_779 : decode cL_law 779 = .ok (.iadd, 1) := by decide +kernel
theorem dL_law_780 : decode cL_law 780 = .ok (.iaload, 1) := by decide +kernel
theorem dL_law_781 : decode cL_law 781 = .ok (.invokevirtual 98, 3) := by decide +kernel
theorem dL_law_784 : decode cL_law 784 = .ok (.if_icmp .eq 470, 3) := by decide +kernel
theorem dL_law_787 : decode cL_law 787 = .ok (.iconst 0, 1) := by decide +kernel
theorem dL_law_788 : decode cL_law 788 = .ok (.ireturn, 1) := by decide +kernel
theorem dL_law_789 : decode cL_law 789 = .ok (.aload_n 1, 1) := by decide +kernel
theorem dL_law_790 : decode cL_law 790 = .ok (.aload_n 0, 1) := by decide +kernel
theorem dL_law_791 : decode cL_law 791 = .ok (.iload_n 3, 1) := by decide +kernel
theorem dL_law_792 : decode cL_law 792 = .ok (.iconst 1, 1) := by decide +kernel
theorem dL_law_793 : decode cL_law 793 = .ok (.iadd, 1) := by decide +kernel
theorem dL_law_794 : decode cL_law 794 = .ok (.iaload, 1) := by decide +kernel
theorem dL_law_795 : decode cL_law 795 = .ok (.invokevirtual 99, 3) := by decide +kernel
theorem dL_law_798 : decode cL_law 798 = .ok (.aload_n 2, 1) := by decide +kernel
theorem dL_law_799 : decode cL_law 799 = .ok (.aload_n 0, 1) := by decide +kernel
theorem dL_law_800 : decode cL_law 800 = .ok (.iload_n 3, 1) := by decide +kernel
theorem dL_law_801 : decode cL_law 801 = .ok (.iconst 1, 1) := by decide +kernel
theorem dL_law_802 : decode cL_law 802 = .ok (.iadd, 1) := by decide +kernel
theorem dL_law_803 : decode cL_law 803 = .ok (.iaload, 1) := by decide +kernel
theorem dL_law_804 : decode cL_law 804 = .ok (.invokevirtual 102, 3) := by decide +kernel
theorem dL_law_807 : decode cL_law 807 = .ok (.if_icmp .eq 447, 3) := by decide +kernel
theorem dL_law_810 : decode cL_law 810 = .ok (.iconst 0, 1) := by decide +kernel
theorem dL_law_811 : decode cL_law 811 = .ok (.ireturn, 1) := by decide +kernel
theorem dL_law_812 : decode cL_law 812 = .ok (.aload_n 1, 1) := by decide +kernel
theorem dL_law_813 : decode cL_law 813 = .ok (.aload_n 0, 1) := by decide +kernel
theorem dL_law_814 : decode cL_law 814 = .ok (.iload_n 3, 1) := by decide +kernel
theorem dL_law_815 : decode cL_law 815 = .ok (.iconst 1, 1) := by decide +kernel
theorem dL_law_816 : decode cL_law 816 = .ok (.iadd, 1) := by decide +kernel
theorem dL_law_817 : decode cL_law 817 = .ok (.iaload, 1) := by decide +kernel
theorem dL_law_818 : decode cL_law 818 = .ok (.aload_n 0, 1) := by decide +kernel
theorem dL_law_819 : decode cL_law 819 = .ok (.iload_n 3, 1) := by decide +kernel
theorem dL_law_820 : decode cL_law 820 = .ok (.iconst 2, 1) := by decide +kernel
theorem dL_law_821 : decode cL_law 821 = .ok (.iadd, 1) := by decide +kernel
theorem dL_law_822 : decode cL_law 822 = .ok (.iaload, 1) := by decide +kernel
theorem dL_law_823 : decode cL_law 823 = .ok (.aload_n 0, 1) := by decide +kernel
theorem dL_law_824 : decode cL_law 824 = .ok (.iload_n 3, 1) := by decide +kernel
theorem dL_law_825 : decode cL_law 825 = .ok (.iconst 3, 1) := by decide +kernel
theorem dL_law_826 : decode cL_law 826 = .ok (.iadd, 1) := by decide +kernel
theorem dL_law_827 : decode cL_law 827 = .ok (.iaload, 1) := by decide +kernel
theorem dL_law_828 : decode cL_law 828 = .ok (.invokevirtual 103, 3) := by decide +kernel
theorem dL_law_831 : decode cL_law 831 = .ok (.aload_n 2, 1) := by decide +kernel
theorem dL_law_832 : decode cL_law 832 = .ok (.aload_n 0, 1) := by decide +kernel
theorem dL_law_833 : decode cL_law 833 = .ok (.iload_n 3, 1) := by decide +kernel
theorem dL_law_834 : decode cL_law 834 = .ok (.iconst 1, 1) := by decide +kernel
theorem dL_law_835 : decode cL_law 835 = .ok (.iadd, 1) := by decide +kernel
theorem dL_law_836 : decode cL_law 836 = .ok (.iaload, 1) := by decide +kernel
theorem dL_law_837 : decode cL_law 837 = .ok (.aload_n 0, 1) := by decide +kernel
theorem dL_law_838 : decode cL_law 838 = .ok (.iload_n 3, 1) := by decide +kernel
theorem dL_law_839 : decode cL_law 839 = .ok (.iconst 2, 1) := by decide +kernel
theorem dL_law_840 : decode cL_law 840 = .ok (.iadd, 1) := by decide +kernel
theorem dL_law_841 : decode cL_law 841 = .ok (.iaload, 1) := by decide +kernel
theorem dL_law_842 : decode cL_law 842 = .ok (.aload_n 0, 1) := by decide +kernel
theorem dL_law_843 : decode cL_law 843 = .ok (.iload_n 3, 1) := by decide +kernel
theorem dL_law_844 : decode cL_law 844 = .ok (.iconst 3, 1) := by decide +kernel
theorem dL_law_845 : decode cL_law 845 = .ok (.iadd, 1) := by decide +kernel
theorem dL_law_846 : decode cL_law 846 = .ok (.iaload, 1) := by decide +kernel
theorem dL_law_847 : decode cL_law 847 = .ok (.invokevirtual 106, 3) := by decide +kernel
theorem dL_law_850 : decode cL_law 850 = .ok (.if_icmp .eq 404, 3) := by decide +kernel
theorem dL_law_853 : decode cL_law 853 = .ok (.iconst 0, 1) := by decide +kernel
theorem dL_law_854 : decode cL_law 854 = .ok (.ireturn, 1) := by decide +kernel
theorem dL_law_855 : decode cL_law 855 = .ok (.aload_n 1, 1) := by decide +kernel
theorem dL_law_856 : decode cL_law 856 = .ok (.aload_n 0, 1) := by decide +kernel
theorem dL_law_857 : decode cL_law 857 = .ok (.iload_n 3, 1) := by decide +kernel
theorem dL_law_858 : decode cL_law 858 = .ok (.iconst 1, 1) := by decide +kernel
theorem dL_law_859 : decode cL_law 859 = .ok (.iadd, 1) := by decide +kernel
theorem dL_law_860 : decode cL_law 860 = .ok (.iaload, 1) := by decide +kernel
theorem dL_law_861 : decode cL_law 861 = .ok (.aload_n 0, 1) := by decide +kernel
theorem dL_law_862 : decode cL_law 862 = .ok (.iload_n 3, 1) := by decide +kernel
theorem dL_law_863 : decode cL_law 863 = .ok (.iconst 2, 1) := by decide +kernel
theorem dL_law_864 : decode cL_law 864 = .ok (.iadd, 1) := by decide +kernel
theorem dL_law_865 : decode cL_law 865 = .ok (.iaload, 1) := by decide +kernel
theorem dL_law_866 : decode cL_law 866 = .ok (.aload_n 0, 1) := by decide +kernel
theorem dL_law_867 : decode cL_law 867 = .ok (.iload_n 3, 1) := by decide +kernel
theorem dL_law_868 : decode cL_law 868 = .ok (.iconst 3, 1) := by decide +kernel
theorem dL_law_869 : decode cL_law 869 = .ok (.iadd, 1) := by decide +kernel
theorem dL_law_870 : decode cL_law 870 = .ok (.iaload, 1) := by decide +kernel
theorem dL_law_871 : decode cL_law 871 = .ok (.invokevirtual 107, 3) := by decide +kernel
theorem dL_law_874 : decode cL_law 874 = .ok (.aload_n 2, 1) := by decide +kernel
theorem dL_law_875 : decode cL_law 875 = .ok (.aload_n 0, 1) := by decide +kernel
theorem dL_law_876 : decode cL_law 876 = .ok (.iload_n 3, 1) := by decide +kernel
theorem dL_law_877 : decode cL_law 877 = .ok (.iconst 1, 1) := by decide +kernel
theorem dL_law_878 : decode cL_law 878 = .ok (.iadd, 1) := by decide +kernel
theorem dL_law_879 : decode cL_law 879 = .ok (.iaload, 1) := by decide +kernel
theorem dL_law_880 : decode cL_law 880 = .ok (.aload_n 0, 1) := by decide +kernel
theorem dL_law_881 : decode cL_law 881 = .ok (.iload_n 3, 1) := by decide +kernel
theorem dL_law_882 : decode cL_law 882 = .ok (.iconst 2, 1) := by decide +kernel
theorem dL_law_883 : decode cL_law 883 = .ok (.iadd, 1) := by decide +kernel
theorem dL_law_884 : decode cL_law 884 = .ok (.iaload, 1) := by decide +kernel
theorem dL_law_885 : decode cL_law 885 = .ok (.aload_n 0, 1) := by decide +kernel
theorem dL_law_886 : decode cL_law 886 = .ok (.iload_n 3, 1) := by decide +kernel
theorem dL_law_887 : decode cL_law 887 = .ok (.iconst 3, 1) := by decide +kernel
theorem dL_law_888 : decode cL_law 888 = .ok (.iadd, 1) := by decide +kernel
theorem dL_law_889 : decode cL_law 889 = .ok (.iaload, 1) := by decide +kernel
theorem dL_law_890 : decode cL_law 890 = .ok (.invokevirtual 110, 3) := by decide +kernel
theorem dL_law_893 : decode cL_law 893 = .ok (.if_icmp .eq 361, 3) := by decide +kernel
theorem dL_law_896 : decode cL_law 896 = .ok (.iconst 0, 1) := by decide +kernel
theorem dL_law_897 : decode cL_law 897 = .ok (.ireturn, 1) := by decide +kernel
theorem dL_law_898 : decode cL_law 898 = .ok (.aload_n 1, 1) := by decide +kernel
theorem dL_law_899 : decode cL_law 899 = .ok (.aload_n 0, 1) := by decide +kernel
theorem dL_law_900 : decode cL_law 900 = .ok (.iload_n 3, 1) := by decide +kernel
theorem dL_law_901 : decode cL_law 901 = .ok (.iconst 1, 1) := by decide +kernel
theorem dL_law_902 : decode cL_law 902 = .ok (.iadd, 1) := by decide +kernel
theorem dL_law_903 : decode cL_law 903 = .ok (.iaload, 1) := by decide +kernel
theorem dL_law_904 : decode cL_law 904 = .ok (.invokevirtual 111, 3) := by decide +kernel
theorem dL_law_907 : decode cL_law 907 = .ok (.aload_n 2, 1) := by decide +kernel
theorem dL_law_908 : decode cL_law 908 = .ok (.aload_n 0, 1) := by decide +kernel
theorem dL_law_909 : decode cL_law 909 = .ok (.iload_n 3, 1) := by decide +kernel
theorem dL_law_910 : decode cL_law 910 = .ok (.iconst 1, 1) := by decide +kernel
theorem dL_law_911 : decode cL_law 911 = .ok (.iadd, 1) := by decide +kernel
theorem dL_law_912 : decode cL_law 912 = .ok (.iaload, 1) := by decide +kernel
theorem dL_law_913 : decode cL_law 913 = .ok (.invokevirtual 114, 3) := by decide +kernel
theorem dL_law_916 : decode cL_law 916 = .ok (.if_icmp .eq 338, 3) := by decide +kernel
theorem dL_law_919 : decode cL_law 919 = .ok (.iconst 0, 1) := by decide +kernel
theorem dL_law_920 : decode cL_law 920 = .ok (.ireturn, 1) := by decide +kernel
theorem dL_law_921 : decode cL_law 921 = .ok (.aload_n 1, 1) := by decide +kernel
theorem dL_law_922 : decode cL_law 922 = .ok (.aload_n 0, 1) := by decide +kernel
theorem dL_law_923 : decode cL_law 923 = .ok (.iload_n 3, 1) := by decide +kernel
theorem dL_law_924 : decode cL_law 924 = .ok (.iconst 1, 1) := by decide +kernel
theorem dL_law_925 : decode cL_law 925 = .ok (.iadd, 1) := by decide +kernel
theorem dL_law_926 : decode cL_law 926 = .ok (.iaload, 1) := by decide +kernel
theorem dL_law_927 : decode cL_law 927 = .ok (.aload_n 0, 1) := by decide +kernel
theorem dL_law_928 : decode cL_law 928 = .ok (.iload_n 3, 1) := by decide +kernel
theorem dL_law_929 : decode cL_law 929 = .ok (.iconst 2, 1) := by decide +kernel
theorem dL_law_930 : decode cL_law 930 = .ok (.iadd, 1) := by decide +kernel
theorem dL_law_931 : decode cL_law 931 = .ok (.iaload, 1) := by decide +kernel
theorem dL_law_932 : decode cL_law 932 = .ok (.invokevirtual 115, 3) := by decide +kernel
theorem dL_law_935 : decode cL_law 935 = .ok (.aload_n 2, 1) := by decide +kernel
theorem dL_law_936 : decode cL_law 936 = .ok (.aload_n 0, 1) := by decide +kernel
theorem dL_law_937 : decode cL_law 937 = .ok (.iload_n 3, 1) := by decide +kernel
theorem dL_law_938 : decode cL_law 938 = .ok (.iconst 1, 1) := by decide +kernel
theorem dL_law_939 : decode cL_law 939 = .ok (.iadd, 1) := by decide +kernel
theorem dL_law_940 : decode cL_law 940 = .ok (.iaload, 1) := by decide +kernel
theorem dL_law_941 : decode cL_law 941 = .ok (.aload_n 0, 1) := by decide +kernel
theorem dL_law_942 : decode cL_law 942 = .ok (.iload_n 3, 1) := by decide +kernel
theorem dL_law_943 : decode cL_law 943 = .ok (.iconst 2, 1) := by decide +kernel
theorem dL_law_944 : decode cL_law 944 = .ok (.iadd, 1) := by decide +kernel
theorem dL_law_945 : decode cL_law 945 = .ok (.iaload, 1) := by decide +kernel
theorem dL_law_946 : decode cL_law 946 = .ok (.invokevirtual 118, 3) := by decide +kernel
theorem dL_law_949 : decode cL_law 949 = .ok (.if_icmp .eq 305, 3) := by decide +kernel
theorem dL_law_952 : decode cL_law 952 = .ok (.iconst 0, 1) := by decide +kernel
theorem dL_law_953 : decode cL_law 953 = .ok (.ireturn, 1) := by decide +kernel
theorem dL_law_954 : decode cL_law 954 = .ok (.aload_n 1, 1) := by decide +kernel
theorem dL_law_955 : decode cL_law 955 = .ok (.aload_n 0, 1) := by decide +kernel
theorem dL_law_956 : decode cL_law 956 = .ok (.iload_n 3, 1) := by decide +kernel
theorem dL_law_957 : decode cL_law 957 = .ok (.iconst 1, 1) := by decide +kernel
theorem dL_law_958 : decode cL_law 958 = .ok (.iadd, 1) := by decide +kernel
theorem dL_law_959 : decode cL_law 959 = .ok (.iaload, 1) := by decide +kernel
theorem dL_law_960 : decode cL_law 960 = .ok (.aload_n 0, 1) := by decide +kernel
theorem dL_law_961 : decode cL_law 961 = .ok (.iload_n 3, 1) := by decide +kernel
theorem dL_law_962 : decode cL_law 962 = .ok (.iconst 2, 1) := by decide +kernel
theorem dL_law_963 : decode cL_law 963 = .ok (.iadd, 1) := by decide +kernel
theorem dL_law_964 : decode cL_law 964 = .ok (.iaload, 1) := by decide +kernel
theorem dL_law_965 : decode cL_law 965 = .ok (.aload_n 0, 1) := by decide +kernel
theorem dL_law_966 : decode cL_law 966 = .ok (.iload_n 3, 1) := by decide +kernel
theorem dL_law_967 : decode cL_law 967 = .ok (.iconst 3, 1) := by decide +kernel
theorem dL_law_968 : decode cL_law 968 = .ok (.iadd, 1) := by decide +kernel
theorem dL_law_969 : decode cL_law 969 = .ok (.iaload, 1) := by decide +kernel
theorem dL_law_970 : decode cL_law 970 = .ok (.aload_n 0, 1) := by decide +kernel
theorem dL_law_971 : decode cL_law 971 = .ok (.iload_n 3, 1) := by decide +kernel
theorem dL_law_972 : decode cL_law 972 = .ok (.iconst 4, 1) := by decide +kernel
theorem dL_law_973 : decode cL_law 973 = .ok (.iadd, 1) := by decide +kernel
theorem dL_law_974 : decode cL_law 974 = .ok (.iaload, 1) := by decide +kernel
theorem dL_law_975 : decode cL_law 975 = .ok (.aload_n 0, 1) := by decide +kernel
theorem dL_law_976 : decode cL_law 976 = .ok (.iload_n 3, 1) := by decide +kernel
theorem dL_law_977 : decode cL_law 977 = .ok (.iconst 5, 1) := by decide +kernel
theorem dL_law_978 : decode cL_law 978 = .ok (.iadd, 1) := by decide +kernel
theorem dL_law_979 : decode cL_law 979 = .ok (.iaload, 1) := by decide +kernel
theorem dL_law_980 : decode cL_law 980 = .ok (.invokevirtual 119, 3) := by decide +kernel
theorem dL_law_983 : decode cL_law 983 = .ok (.aload_n 2, 1) := by decide +kernel
theorem dL_law_984 : decode cL_law 984 = .ok (.aload_n 0, 1) := by decide +kernel
theorem dL_law_985 : decode cL_law 985 = .ok (.iload_n 3, 1) := by decide +kernel
theorem dL_law_986 : decode cL_law 986 = .ok (.iconst 1, 1) := by decide +kernel
theorem dL_law_987 : decode cL_law 987 = .ok (.iadd, 1) := by decide +kernel
theorem dL_law_988 : decode cL_law 988 = .ok (.iaload, 1) := by decide +kernel
theorem dL_law_989 : decode cL_law 989 = .ok (.aload_n 0, 1) := by decide +kernel
theorem dL_law_990 : decode cL_law 990 = .ok (.iload_n 3, 1) := by decide +kernel
theorem dL_law_991 : decode cL_law 991 = .ok (.iconst 2, 1) := by decide +kernel
theorem dL_law_992 : decode cL_law 992 = .ok (.iadd, 1) := by decide +kernel
theorem dL_law_993 : decode cL_law 993 = .ok (.iaload, 1) := by decide +kernel
theorem dL_law_994 : decode cL_law 994 = .ok (.aload_n 0, 1) := by decide +kernel
theorem dL_law_995 : decode cL_law 995 = .ok (.iload_n 3, 1) := by decide +kernel
theorem dL_law_996 : decode cL_law 996 = .ok (.iconst 3, 1) := by decide +kernel
theorem dL_law_997 : decode cL_law 997 = .ok (.iadd, 1) := by decide +kernel
theorem dL_law_998 : decode cL_law 998 = .ok (.iaload, 1) := by decide +kernel
theorem dL_law_999 : decode cL_law 999 = .ok (.aload_n 0, 1) := by decide +kernel
theorem dL_law_1000 : decode cL_law 1000 = .ok (.iload_n 3, 1) := by decide +kernel
theorem dL_law_1001 : decode cL_law 1001 = .ok (.iconst 4, 1) := by decide +kernel
theorem dL_law_1002 : decode cL_law 1002 = .ok (.iadd, 1) := by decide +kernel
theorem dL_law_1003 : decode cL_law 1003 = .ok (.iaload, 1) := by decide +kernel
theorem dL_law_1004 : decode cL_law 1004 = .ok (.aload_n 0, 1) := by decide +kernel
theorem dL_law_1005 : decode cL_law 1005 = .ok (.iload_n 3, 1) := by decide +kernel
theorem dL_law_1006 : decode cL_law 1006 = .ok (.iconst 5, 1) := by decide +kernel
theorem dL_law_1007 : decode cL_law 1007 = .ok (.iadd, 1) := by decide +kernel
theorem dL_law_1008 : decode cL_law 1008 = .ok (.iaload, 1) := by decide +kernel
theorem dL_law_1009 : decode cL_law 1009 = .ok (.invokevirtual 123, 3) := by decide +kernel
theorem dL_law_1012 : decode cL_law 1012 = .ok (.if_icmp .eq 242, 3) := by decide +kernel
theorem dL_law_1015 : decode cL_law 1015 = .ok (.iconst 0, 1) := by decide +kernel
theorem dL_law_1016 : decode cL_law 1016 = .ok (.ireturn, 1) := by decide +kernel
theorem dL_law_1017 : decode cL_law 1017 = .ok (.aload_n 1, 1) := by decide +kernel
theorem dL_law_1018 : decode cL_law 1018 = .ok (.aload_n 0, 1) := by decide +kernel
theorem dL_law_1019 : decode cL_law 1019 = .ok (.iload_n 3, 1) := by decide +kernel
theorem dL_law_1020 : decode cL_law 1020 = .ok (.iconst 1, 1) := by decide +kernel
theorem dL_law_1021 : decode cL_law 1021 = .ok (.iadd, 1) := by decide +kernel
theorem dL_law_1022 : decode cL_law 1022 = .ok (.iaload, 1) := by decide +kernel
theorem dL_law_1023 : decode cL_law 1023 = .ok (.aload_n 0, 1) := by decide +kernel
theorem dL_law_1024 : decode cL_law 1024 = .ok (.iload_n 3, 1) := by decide +kernel
theorem dL_law_1025 : decode cL_law 1025 = .ok (.iconst 2, 1) := by decide +kernel
theorem dL_law_1026 : decode cL_law 1026 = .ok (.iadd, 1) := by decide +kernel
theorem dL_law_1027 : decode cL_law 1027 = .ok (.iaload, 1) := by decide +kernel
theorem dL_law_1028 : decode cL_law 1028 = .ok (.aload_n 0, 1) := by decide +kernel
theorem dL_law_1029 : decode cL_law 1029 = .ok (.iload_n 3, 1) := by decide +kernel
theorem dL_law_1030 : decode cL_law 1030 = .ok (.iconst 3, 1) := by decide +kernel
theorem dL_law_1031 : decode cL_law 1031 = .ok (.iadd, 1) := by decide +kernel
theorem dL_law_1032 : decode cL_law 1032 = .ok (.iaload, 1) := by decide +kernel
theorem dL_law_1033 : decode cL_law 1033 = .ok (.invokevirtual 124, 3) := by decide +kernel
theorem dL_law_1036 : decode cL_law 1036 = .ok (.aload_n 2, 1) := by decide +kernel
theorem dL_law_1037 : decode cL_law 1037 = .ok (.aload_n 0, 1) := by decide +kernel
theorem dL_law_1038 : decode cL_law 1038 = .ok (.iload_n 3, 1) := by decide +kernel
theorem dL_law_1039 : decode cL_law 1039 = .ok (.iconst 1, 1) := by decide +kernel
theorem dL_law_1040 : decode cL_law 1040 = .ok (.iadd, 1) := by decide +kernel
theorem dL_law_1041 : decode cL_law 1041 = .ok (.iaload, 1) := by decide +kernel
theorem dL_law_1042 : decode cL_law 1042 = .ok (.aload_n 0, 1) := by decide +kernel
theorem dL_law_1043 : decode cL_law 1043 = .ok (.iload_n 3, 1) := by decide +kernel
theorem dL_law_1044 : decode cL_law 1044 = .ok (.iconst 2, 1) := by decide +kernel
theorem dL_law_1045 : decode cL_law 1045 = .ok (.iadd, 1) := by decide +kernel
theorem dL_law_1046 : decode cL_law 1046 = .ok (.iaload, 1) := by decide +kernel
theorem dL_law_1047 : decode cL_law 1047 = .ok (.aload_n 0, 1) := by decide +kernel
theorem dL_law_1048 : decode cL_law 1048 = .ok (.iload_n 3, 1) := by decide +kernel
theorem dL_law_1049 : decode cL_law 1049 = .ok (.iconst 3, 1) := by decide +kernel
theorem dL_law_1050 : decode cL_law 1050 = .ok (.iadd, 1) := by decide +kernel
theorem dL_law_1051 : decode cL_law 1051 = .ok (.iaload, 1) := by decide +kernel
theorem dL_law_1052 : decode cL_law 1052 = .ok (.invokevirtual 127, 3) := by decide +kernel
theorem dL_law_1055 : decode cL_law 1055 = .ok (.if_icmp .eq 199, 3) := by decide +kernel
theorem dL_law_1058 : decode cL_law 1058 = .ok (.iconst 0, 1) := by decide +kernel
theorem dL_law_1059 : decode cL_law 1059 = .ok (.ireturn, 1) := by decide +kernel
theorem dL_law_1060 : decode cL_law 1060 = .ok (.aload_n 1, 1) := by decide +kernel
theorem dL_law_1061 : decode cL_law 1061 = .ok (.aload_n 0, 1) := by decide +kernel
theorem dL_law_1062 : decode cL_law 1062 = .ok (.iload_n 3, 1) := by decide +kernel
theorem dL_law_1063 : decode cL_law 1063 = .ok (.iconst 1, 1) := by decide +kernel
theorem dL_law_1064 : decode cL_law 1064 = .ok (.iadd, 1) := by decide +kernel
theorem dL_law_1065 : decode cL_law 1065 = .ok (.iaload, 1) := by decide +kernel
theorem dL_law_1066 : decode cL_law 1066 = .ok (.aload_n 0, 1) := by decide +kernel
theorem dL_law_1067 : decode cL_law 1067 = .ok (.iload_n 3, 1) := by decide +kernel
theorem dL_law_1068 : decode cL_law 1068 = .ok (.iconst 2, 1) := by decide +kernel
theorem dL_law_1069 : decode cL_law 1069 = .ok (.iadd, 1) := by decide +kernel
theorem dL_law_1070 : decode cL_law 1070 = .ok (.iaload, 1) := by decide +kernel
theorem dL_law_1071 : decode cL_law 1071 = .ok (.invokevirtual 128, 3) := by decide +kernel
theorem dL_law_1074 : decode cL_law 1074 = .ok (.aload_n 2, 1) := by decide +kernel
theorem dL_law_1075 : decode cL_law 1075 = .ok (.aload_n 0, 1) := by decide +kernel
theorem dL_law_1076 : decode cL_law 1076 = .ok (.iload_n 3, 1) := by decide +kernel
theorem dL_law_1077 : decode cL_law 1077 = .ok (.iconst 1, 1) := by decide +kernel
theorem dL_law_1078 : decode cL_law 1078 = .ok (.iadd, 1) := by decide +kernel
theorem dL_law_1079 : decode cL_law 1079 = .ok (.iaload, 1) := by decide +kernel
theorem dL_law_1080 : decode cL_law 1080 = .ok (.aload_n 0, 1) := by decide +kernel
theorem dL_law_1081 : decode cL_law 1081 = .ok (.iload_n 3, 1) := by decide +kernel
theorem dL_law_1082 : decode cL_law 1082 = .ok (.iconst 2, 1) := by decide +kernel
theorem dL_law_1083 : decode cL_law 1083 = .ok (.iadd, 1) := by decide +kernel
theorem dL_law_1084 : decode cL_law 1084 = .ok (.iaload, 1) := by decide +kernel
theorem dL_law_1085 : decode cL_law 1085 = .ok (.invokevirtual 131, 3) := by decide +kernel
theorem dL_law_1088 : decode cL_law 1088 = .ok (.if_icmp .eq 166, 3) := by decide +kernel
theorem dL_law_1091 : decode cL_law 1091 = .ok (.iconst 0, 1) := by decide +kernel
theorem dL_law_1092 : decode cL_law 1092 = .ok (.ireturn, 1) := by decide +kernel
theorem dL_law_1093 : decode cL_law 1093 = .ok (.aload_n 1, 1) := by decide +kernel
theorem dL_law_1094 : decode cL_law 1094 = .ok (.aload_n 0, 1) := by decide +kernel
theorem dL_law_1095 : decode cL_law 1095 = .ok (.iload_n 3, 1) := by decide +kernel
theorem dL_law_1096 : decode cL_law 1096 = .ok (.iconst 1, 1) := by decide +kernel
theorem dL_law_1097 : decode cL_law 1097 = .ok (.iadd, 1) := by decide +kernel
theorem dL_law_1098 : decode cL_law 1098 = .ok (.iaload, 1) := by decide +kernel
theorem dL_law_1099 : decode cL_law 1099 = .ok (.aload_n 0, 1) := by decide +kernel
theorem dL_law_1100 : decode cL_law 1100 = .ok (.iload_n 3, 1) := by decide +kernel
theorem dL_law_1101 : decode cL_law 1101 = .ok (.iconst 2, 1) := by decide +kernel
theorem dL_law_1102 : decode cL_law 1102 = .ok (.iadd, 1) := by decide +kernel
theorem dL_law_1103 : decode cL_law 1103 = .ok (.iaload, 1) := by decide +kernel
theorem dL_law_1104 : decode cL_law 1104 = .ok (.invokevirtual 132, 3) := by decide +kernel
theorem dL_law_1107 : decode cL_law 1107 = .ok (.aload_n 2, 1) := by decide +kernel
theorem dL_law_1108 : decode cL_law 1108 = .ok (.aload_n 0, 1) := by decide +kernel
theorem dL_law_1109 : decode cL_law 1109 = .ok (.iload_n 3, 1) := by decide +kernel
theorem dL_law_1110 : decode cL_law 1110 = .ok (.iconst 1, 1) := by decide +kernel
theorem dL_law_1111 : decode cL_law 1111 = .ok (.iadd, 1) := by decide +kernel
theorem dL_law_1112 : decode cL_law 1112 = .ok (.iaload, 1) := by decide +kernel
theorem dL_law_1113 : decode cL_law 1113 = .ok (.aload_n 0, 1) := by decide +kernel
theorem dL_law_1114 : decode cL_law 1114 = .ok (.iload_n 3, 1) := by decide +kernel
theorem dL_law_1115 : decode cL_law 1115 = .ok (.iconst 2, 1) := by decide +kernel
theorem dL_law_1116 : decode cL_law 1116 = .ok (.iadd, 1) := by decide +kernel
theorem dL_law_1117 : decode cL_law 1117 = .ok (.iaload, 1) := by decide +kernel
theorem dL_law_1118 : decode cL_law 1118 = .ok (.invokevirtual 135, 3) := by decide +kernel
theorem dL_law_1121 : decode cL_law 1121 = .ok (.if_icmp .eq 133, 3) := by decide +kernel
theorem dL_law_1124 : decode cL_law 1124 = .ok (.iconst 0, 1) := by decide +kernel
theorem dL_law_1125 : decode cL_law 1125 = .ok (.ireturn, 1) := by decide +kernel
theorem dL_law_1126 : decode cL_law 1126 = .ok (.aload_n 1, 1) := by decide +kernel
theorem dL_law_1127 : decode cL_law 1127 = .ok (.aload_n 0, 1) := by decide +kernel
theorem dL_law_1128 : decode cL_law 1128 = .ok (.iload_n 3, 1) := by decide +kernel
theorem dL_law_1129 : decode cL_law 1129 = .ok (.iconst 1, 1) := by decide +kernel
theorem dL_law_1130 : decode cL_law 1130 = .ok (.iadd, 1) := by decide +kernel
theorem dL_law_1131 : decode cL_law 1131 = .ok (.iaload, 1) := by decide +kernel
theorem dL_law_1132 : decode cL_law 1132 = .ok (.aload_n 0, 1) := by decide +kernel
theorem dL_law_1133 : decode cL_law 1133 = .ok (.iload_n 3, 1) := by decide +kernel
theorem dL_law_1134 : decode cL_law 1134 = .ok (.iconst 2, 1) := by decide +kernel
theorem dL_law_1135 : decode cL_law 1135 = .ok (.iadd, 1) := by decide +kernel
theorem dL_law_1136 : decode cL_law 1136 = .ok (.iaload, 1) := by decide +kernel
theorem dL_law_1137 : decode cL_law 1137 = .ok (.invokevirtual 136, 3) := by decide +kernel
theorem dL_law_1140 : decode cL_law 1140 = .ok (.aload_n 2, 1) := by decide +kernel
theorem dL_law_1141 : decode cL_law 1141 = .ok (.aload_n 0, 1) := by decide +kernel
theorem dL_law_1142 : decode cL_law 1142 = .ok (.iload_n 3, 1) := by decide +kernel
theorem dL_law_1143 : decode cL_law 1143 = .ok (.iconst 1, 1) := by decide +kernel
theorem dL_law_1144 : decode cL_law 1144 = .ok (.iadd, 1) := by decide +kernel
theorem dL_law_1145 : decode cL_law 1145 = .ok (.iaload, 1) := by decide +kernel
theorem dL_law_1146 : decode cL_law 1146 = .ok (.aload_n 0, 1) := by decide +kernel
theorem dL_law_1147 : decode cL_law 1147 = .ok (.iload_n 3, 1) := by decide +kernel
theorem dL_law_1148 : decode cL_law 1148 = .ok (.iconst 2, 1) := by decide +kernel
theorem dL_law_1149 : decode cL_law 1149 = .ok (.iadd, 1) := by decide +kernel
theorem dL_law_1150 : decode cL_law 1150 = .ok (.iaload, 1) := by decide +kernel
theorem dL_law_1151 : decode cL_law 1151 = .ok (.invokevirtual 139, 3) := by decide +kernel
theorem dL_law_1154 : decode cL_law 1154 = .ok (.if_icmp .eq 100, 3) := by decide +kernel
theorem dL_law_1157 : decode cL_law 1157 = .ok (.iconst 0, 1) := by decide +kernel
theorem dL_law_1158 : decode cL_law 1158 = .ok (.ireturn, 1) := by decide +kernel
theorem dL_law_1159 : decode cL_law 1159 = .ok (.aload_n 1, 1) := by decide +kernel
theorem dL_law_1160 : decode cL_law 1160 = .ok (.aload_n 0, 1) := by decide +kernel
theorem dL_law_1161 : decode cL_law 1161 = .ok (.iload_n 3, 1) := by decide +kernel
theorem dL_law_1162 : decode cL_law 1162 = .ok (.iconst 1, 1) := by decide +kernel
theorem dL_law_1163 : decode cL_law 1163 = .ok (.iadd, 1) := by decide +kernel
theorem dL_law_1164 : decode cL_law 1164 = .ok (.iaload, 1) := by decide +kernel
theorem dL_law_1165 : decode cL_law 1165 = .ok (.invokevirtual 140, 3) := by decide +kernel
theorem dL_law_1168 : decode cL_law 1168 = .ok (.aload_n 2, 1) := by decide +kernel
theorem dL_law_1169 : decode cL_law 1169 = .ok (.aload_n 0, 1) := by decide +kernel
theorem dL_law_1170 : decode cL_law 1170 = .ok (.iload_n 3, 1) := by decide +kernel
theorem dL_law_1171 : decode cL_law 1171 = .ok (.iconst 1, 1) := by decide +kernel
theorem dL_law_1172 : decode cL_law 1172 = .ok (.iadd, 1) := by decide +kernel
theorem dL_law_1173 : decode cL_law 1173 = .ok (.iaload, 1) := by decide +kernel
theorem dL_law_1174 : decode cL_law 1174 = .ok (.invokevirtual 143, 3) := by decide +kernel
theorem dL_law_1177 : decode cL_law 1177 = .ok (.if_icmp .eq 77, 3) := by decide +kernel
theorem dL_law_1180 : decode cL_law 1180 = .ok (.iconst 0, 1) := by decide +kernel
theorem dL_law_1181 : decode cL_law 1181 = .ok (.ireturn, 1) := by decide +kernel
theorem dL_law_1182 : decode cL_law 1182 = .ok (.aload_n 1, 1) := by decide +kernel
theorem dL_law_1183 : decode cL_law 1183 = .ok (.aload_n 0, 1) := by decide +kernel
theorem dL_law_1184 : decode cL_law 1184 = .ok (.iload_n 3, 1) := by decide +kernel
theorem dL_law_1185 : decode cL_law 1185 = .ok (.iconst 1, 1) := by decide +kernel
theorem dL_law_1186 : decode cL_law 1186 = .ok (.iadd, 1) := by decide +kernel
theorem dL_law_1187 : decode cL_law 1187 = .ok (.iaload, 1) := by decide +kernel
theorem dL_law_1188 : decode cL_law 1188 = .ok (.invokevirtual 144, 3) := by decide +kernel
theorem dL_law_1191 : decode cL_law 1191 = .ok (.aload_n 2, 1) := by decide +kernel
theorem dL_law_1192 : decode cL_law 1192 = .ok (.aload_n 0, 1) := by decide +kernel
theorem dL_law_1193 : decode cL_law 1193 = .ok (.iload_n 3, 1) := by decide +kernel
theorem dL_law_1194 : decode cL_law 1194 = .ok (.iconst 1, 1) := by decide +kernel
theorem dL_law_1195 : decode cL_law 1195 = .ok (.iadd, 1) := by decide +kernel
theorem dL_law_1196 : decode cL_law 1196 = .ok (.iaload, 1) := by decide +kernel
theorem dL_law_1197 : decode cL_law 1197 = .ok (.invokevirtual 147, 3) := by decide +kernel
theorem dL_law_1200 : decode cL_law 1200 = .ok (.if_icmp .eq 54, 3) := by decide +kernel
theorem dL_law_1203 : decode cL_law 1203 = .ok (.iconst 0, 1) := by decide +kernel
theorem dL_law_1204 : decode cL_law 1204 = .ok (.ireturn, 1) := by decide +kernel
theorem dL_law_1205 : decode cL_law 1205 = .ok (.aload_n 1, 1) := by decide +kernel
theorem dL_law_1206 : decode cL_law 1206 = .ok (.invokevirtual 148, 3) := by decide +kernel
theorem dL_law_1209 : decode cL_law 1209 = .ok (.aload_n 2, 1) := by decide +kernel
theorem dL_law_1210 : decode cL_law 1210 = .ok (.invokevirtual 151, 3) := by decide +kernel
theorem dL_law_1213 : decode cL_law 1213 = .ok (.if_icmp .eq 41, 3) := by decide +kernel
theorem dL_law_1216 : decode cL_law 1216 = .ok (.iconst 0, 1) := by decide +kernel
theorem dL_law_1217 : decode cL_law 1217 = .ok (.ireturn, 1) := by decide +kernel
theorem dL_law_1218 : decode cL_law 1218 = .ok (.aload_n 1, 1) := by decide +kernel
theorem dL_law_1219 : decode cL_law 1219 = .ok (.invokevirtual 152, 3) := by decide +kernel
theorem dL_law_1222 : decode cL_law 1222 = .ok (.aload_n 2, 1) := by decide +kernel
theorem dL_law_1223 : decode cL_law 1223 = .ok (.invokevirtual 155, 3) := by decide +kernel
theorem dL_law_1226 : decode cL_law 1226 = .ok (.if_icmp .eq 28, 3) := by decide +kernel
theorem dL_law_1229 : decode cL_law 1229 = .ok (.iconst 0, 1) := by decide +kernel
theorem dL_law_1230 : decode cL_law 1230 = .ok (.ireturn, 1) := by decide +kernel
theorem dL_law_1231 : decode cL_law 1231 = .ok (.aload_n 1, 1) := by decide +kernel
theorem dL_law_1232 : decode cL_law 1232 = .ok (.aload_n 0, 1) := by decide +kernel
theorem dL_law_1233 : decode cL_law 1233 = .ok (.iload_n 3, 1) := by decide +kernel
theorem dL_law_1234 : decode cL_law 1234 = .ok (.iconst 1, 1) := by decide +kernel
theorem dL_law_1235 : decode cL_law 1235 = .ok (.iadd, 1) := by decide +kernel
theorem dL_law_1236 : decode cL_law 1236 = .ok (.iaload, 1) := by decide +kernel
theorem dL_law_1237 : decode cL_law 1237 = .ok (.invokevirtual 156, 3) := by decide +kernel
theorem dL_law_1240 : decode cL_law 1240 = .ok (.aload_n 2, 1) := by decide +kernel
theorem dL_law_1241 : decode cL_law 1241 = .ok (.aload_n 0, 1) := by decide +kernel
theorem dL_law_1242 : decode cL_law 1242 = .ok (.iload_n 3, 1) := by decide +kernel
theorem dL_law_1243 : decode cL_law 1243 = .ok (.iconst 1, 1) := by decide +kernel
theorem dL_law_1244 : decode cL_law 1244 = .ok (.iadd, 1) := by decide +kernel
theorem dL_law_1245 : decode cL_law 1245 = .ok (.iaload, 1) := by decide +kernel
theorem dL_law_1246 : decode cL_law 1246 = .ok (.invokevirtual 159, 3) := by decide +kernel
theorem dL_law_1249 : decode cL_law 1249 = .ok (.if_icmp .eq 5, 3) := by decide +kernel
theorem dL_law_1252 : decode cL_law 1252 = .ok (.iconst 0, 1) := by decide +kernel
theorem dL_law_1253 : decode cL_law 1253 = .ok (.ireturn, 1) := by decide +kernel
theorem dL_law_1254 : decode cL_law 1254 = .ok (.iinc 3 6, 3) := by decide +kernel
theorem dL_law_1257 : decode cL_law 1257 = .ok (.goto (-1239), 3) := by decide +kernel
theorem dL_law_1260 : decode cL_law 1260 = .ok (.iconst 1, 1) := by decide +kernel
theorem dL_law_1261 : decode cL_law 1261 = .ok (.ireturn, 1) := by decide +kernel
end
section
theorem dJ11_isValidCodePoint_9a6ad_0 : decode cJ11_isValidCodePoint_9a6ad 0 = .ok (.iload_n 0, 1) := by decide +kernel
theorem dJ11_isValidCodePoint_9a6ad_1 : decode cJ11_isValidCodePoint_9a6ad 1 = .ok (.bipush 16, 2) := by decide +kernel
theorem dJ11_isValidCodePoint_9a6ad_3 : decode cJ11_isValidCodePoint_9a6ad 3 = .ok (.iushr, 1) := by decide +kernel
theorem dJ11_isValidCodePoint_9a6ad_4 : decode cJ11_isValidCodePoint_9a6ad 4 = .ok (.istore_n 1, 1) := by decide +kernel
theorem dJ11_isValidCodePoint_9a6ad_5 : decode cJ11_isValidCodePoint_9a6ad 5 = .ok (.iload_n 1, 1) := by decide +kernel
theorem dJ11_isValidCodePoint_9a6ad_6 : decode cJ11_isValidCodePoint_9a6ad 6 = .ok (.bipush 17, 2) := by decide +kernel
theorem dJ11_isValidCodePoint_9a6ad_8 : decode cJ11_isValidCodePoint_9a6ad 8 = .ok (.if_icmp .ge 7, 3) := by decide +kernel
theorem dJ11_isValidCodePoint_9a6ad_11 : decode cJ11_isValidCodePoint_9a6ad 11 = .ok (.iconst 1, 1) := by decide +kernel
theorem dJ11_isValidCodePoint_9a6ad_12 : decode cJ11_isValidCodePoint_9a6ad 12 = .ok (.goto 4, 3) := by decide +kernel
theorem dJ11_isValidCodePoint_9a6ad_15 : decode cJ11_isValidCodePoint_9a6ad 15 = .ok (.iconst 0, 1) := by decide +kernel
theorem dJ11_isValidCodePoint_9a6ad_16 : decode cJ11_isValidCodePoint_9a6ad 16 = .ok (.ireturn, 1) := by decide +kernel
theorem dJ11_highSurrogate_5068e_0 : decode cJ11_highSurrogate_5068e 0 = .ok (.iload_n 0, 1) := by decide +kernel
theorem dJ11_highSurrogate_5068e_1 : decode cJ11_highSurrogate_5068e 1 = .ok (.bipush 10, 2) := by decide +kernel
theorem dJ11_highSurrogate_5068e_3 : decode cJ11_highSurrogate_5068e 3 = .ok (.iushr, 1) := by decide +kernel
theorem dJ11_highSurrogate_5068e_4 : decode cJ11_highSurrogate_5068e 4 = .ok (.ldc 110, 2) := by decide +kernel
theorem dJ11_highSurrogate_5068e_6 : decode cJ11_highSurrogate_5068e 6 = .ok (.iadd, 1) := by decide +kernel
theorem dJ11_highSurrogate_5068e_7 : decode cJ11_highSurrogate_5068e 7 = .ok (.i2c, 1) := by decide +kernel
theorem dJ11_highSurrogate_5068e_8 : decode cJ11_highSurrogate_5068e 8 = .ok (.ireturn, 1) := by decide +kernel
theorem dJ11_lowSurrogate_5068e_0 : decode cJ11_lowSurrogate_5068e 0 = .ok (.iload_n 0, 1) := by decide +kernel
theorem dJ11_lowSurrogate_5068e_1 : decode cJ11_lowSurrogate_5068e 1 = .ok (.sipush 1023, 3) := by decide +kernel
theorem dJ11_lowSurrogate_5068e_4 : decode cJ11_lowSurrogate_5068e 4 = .ok (.iand, 1) := by decide +kernel
theorem dJ11_lowSurrogate_5068e_5 : decode cJ11_lowSurrogate_5068e 5 = .ok (.ldc 76, 2) := by decide +kernel
theorem dJ11_lowSurrogate_5068e_7 : decode cJ11_lowSurrogate_5068e 7 = .ok (.iadd, 1) := by decide +kernel
theorem dJ11_lowSurrogate_5068e_8 : decode cJ11_lowSurrogate_5068e 8 = .ok (.i2c, 1) := by decide +kernel
theorem dJ11_lowSurrogate_5068e_9 : decode cJ11_lowSurrogate_5068e 9 = .ok (.ireturn, 1) := by decide +kernel
theorem dJ9_abs_0f7a4_0 : decode cJ9_abs_0f7a4 0 = .ok (.iload_n 0, 1) := by decide +kernel
theorem dJ9_abs_0f7a4_1 : decode cJ9_abs_0f7a4 1 = .ok (.ifCond .ge 8, 3) := by decide +kernel
theorem dJ9_abs_0f7a4_4 : decode cJ9_abs_0f7a4 4 = .ok (.iload_n 0, 1) := by decide +kernel
theorem dJ9_abs_0f7a4_5 : decode cJ9_abs_0f7a4 5 = .ok (.ineg, 1) := by decide +kernel
theorem dJ9_abs_0f7a4_6 : decode cJ9_abs_0f7a4 6 = .ok (.goto 4, 3) := by decide +kernel
theorem dJ9_abs_0f7a4_9 : decode cJ9_abs_0f7a4 9 = .ok (.iload_n 0, 1) := by decide +kernel
theorem dJ9_abs_0f7a4_10 : decode cJ9_abs_0f7a4 10 = .ok (.ireturn, 1) := by decide +kernel
theorem dJ9_max_7cf53_0 : decode cJ9_max_7cf53 0 = .ok (.iload_n 0, 1) := by decide +kernel
theorem dJ9_max_7cf53_1 : decode cJ9_max_7cf53 1 = .ok (.iload_n 1, 1) := by decide +kernel
theorem dJ9_max_7cf53_2 : decode cJ9_max_7cf53 2 = .ok (.if_icmp .lt 7, 3) := by decide +kernel
theorem dJ9_max_7cf53_5 : decode cJ9_max_7cf53 5 = .ok (.iload_n 0, 1) := by decide +kernel
theorem dJ9_max_7cf53_6 : decode cJ9_max_7cf53 6 = .ok (.goto 4, 3) := by decide +kernel
theorem dJ9_max_7cf53_9 : decode cJ9_max_7cf53 9 = .ok (.iload_n 1, 1) := by decide +kernel
theorem dJ9_max_7cf53_10 : decode cJ9_max_7cf53 10 = .ok (.ireturn, 1) := by decide +kernel
theorem dJ9_min_7cf53_0 : decode cJ9_min_7cf53 0 = .ok (.iload_n 0, 1) := by decide +kernel
theorem dJ9_min_7cf53_1 : decode cJ9_min_7cf53 1 = .ok (.iload_n 1, 1) := by decide +kernel
theorem dJ9_min_7cf53_2 : decode cJ9_min_7cf53 2 = .ok (.if_icmp .gt 7, 3) := by decide +kernel
theorem dJ9_min_7cf53_5 : decode cJ9_min_7cf53 5 = .ok (.iload_n 0, 1) := by decide +kernel
theorem dJ9_min_7cf53_6 : decode cJ9_min_7cf53 6 = .ok (.goto 4, 3) := by decide +kernel
theorem dJ9_min_7cf53_9 : decode cJ9_min_7cf53 9 = .ok (.iload_n 1, 1) := by decide +kernel
theorem dJ9_min_7cf53_10 : decode cJ9_min_7cf53 10 = .ok (.ireturn, 1) := by decide +kernel
theorem dJ0_length_8abf5_0 : decode cJ0_length_8abf5 0 = .ok (.aload_n 0, 1) := by decide +kernel
theorem dJ0_length_8abf5_1 : decode cJ0_length_8abf5 1 = .ok (.getfield 9, 3) := by decide +kernel
theorem dJ0_length_8abf5_4 : decode cJ0_length_8abf5 4 = .ok (.arraylength, 1) := by decide +kernel
theorem dJ0_length_8abf5_5 : decode cJ0_length_8abf5 5 = .ok (.aload_n 0, 1) := by decide +kernel
theorem dJ0_length_8abf5_6 : decode cJ0_length_8abf5 6 = .ok (.invokevirtual 335, 3) := by decide +kernel
theorem dJ0_length_8abf5_9 : decode cJ0_length_8abf5 9 = .ok (.ishr, 1) := by decide +kernel
theorem dJ0_length_8abf5_10 : decode cJ0_length_8abf5 10 = .ok (.ireturn, 1) := by decide +kernel
theorem dJ0_charAt_5068e_0 : decode cJ0_charAt_5068e 0 = .ok (.aload_n 0, 1) := by decide +kernel
theorem dJ0_charAt_5068e_1 : decode cJ0_charAt_5068e 1 = .ok (.invokevirtual 492, 3) := by decide +kernel
theorem dJ0_charAt_5068e_4 : decode cJ0_charAt_5068e 4 = .ok (.ifCond .eq 12, 3) := by decide +kernel
theorem dJ0_charAt_5068e_7 : decode cJ0_charAt_5068e 7 = .ok (.aload_n 0, 1) := by decide +kernel
theorem dJ0_charAt_5068e_8 : decode cJ0_charAt_5068e 8 = .ok (.getfield 9, 3) := by decide +kernel
theorem dJ0_charAt_5068e_11 : decode cJ0_charAt_5068e 11 = .ok (.iload_n 1, 1) := by decide +kernel
theorem dJ0_charAt_5068e_12 : decode cJ0_charAt_5068e 12 = .ok (.invokestatic 495, 3) := by decide +kernel
theorem dJ0_charAt_5068e_15 : decode cJ0_charAt_5068e 15 = .ok (.ireturn, 1) := by decide +kernel
theorem dJ0_charAt_5068e_16 : decode cJ0_charAt_5068e 16 = .ok (.aload_n 0, 1) := by decide +kernel
theorem dJ0_charAt_5068e_17 : decode cJ0_charAt_5068e 17 = .ok (.getfield 9, 3) := by decide +kernel
theorem dJ0_charAt_5068e_20 : decode cJ0_charAt_5068e 20 = .ok (.iload_n 1, 1) := by decide +kernel
theorem dJ0_charAt_5068e_21 : decode cJ0_charAt_5068e 21 = .ok (.invokestatic 498, 3) := by decide +kernel
theorem dJ0_charAt_5068e_24 : decode cJ0_charAt_5068e 24 = .ok (.ireturn, 1) := by decide +kernel
theorem dJ0_indexOf_0f7a4_0 : decode cJ0_indexOf_0f7a4 0 = .ok (.aload_n 0, 1) := by decide +kernel
theorem dJ0_indexOf_0f7a4_1 : decode cJ0_indexOf_0f7a4 1 = .ok (.iload_n 1, 1) := by decide +kernel
theorem dJ0_indexOf_0f7a4_2 : decode cJ0_indexOf_0f7a4 2 = .ok (.iconst 0, 1) := by decide +kernel
theorem dJ0_indexOf_0f7a4_3 : decode cJ0_indexOf_0f7a4 3 = .ok (.invokevirtual 633, 3) := by decide +kernel
theorem dJ0_indexOf_0f7a4_6 : decode cJ0_indexOf_0f7a4 6 = .ok (.ireturn, 1) := by decide +kernel
theorem dJ0_indexOf_7cf53_0 : decode cJ0_indexOf_7cf53 0 = .ok (.aload_n 0, 1) := by decide +kernel
theorem dJ0_indexOf_7cf53_1 : decode cJ0_indexOf_7cf53 1 = .ok (.invokevirtual 492, 3) := by decide +kernel
theorem dJ0_indexOf_7cf53_4 : decode cJ0_indexOf_7cf53 4 = .ok (.ifCond .eq 19, 3) := by decide +kernel
theorem dJ0_indexOf_7cf53_7 : decode cJ0_indexOf_7cf53 7 = .ok (.aload_n 0, 1) := by decide +kernel
theorem dJ0_indexOf_7cf53_8 : decode cJ0_indexOf_7cf53 8 = .ok (.getfield 9, 3) := by decide +kernel
theorem dJ0_indexOf_7cf53_11 : decode cJ0_indexOf_7cf53 11 = .ok (.iload_n 1, 1) := by decide +kernel
theorem dJ0_indexOf_7cf53_12 : decode cJ0_indexOf_7cf53 12 = .ok (.iload_n 2, 1) := by decide +kernel
theorem dJ0_indexOf_7cf53_13 : decode cJ0_indexOf_7cf53 13 = .ok (.aload_n 0, 1) := by decide +kernel
theorem dJ0_indexOf_7cf53_14 : decode cJ0_indexOf_7cf53 14 = .ok (.invokevirtual 505, 3) := by decide +kernel
theorem dJ0_indexOf_7cf53_17 : decode cJ0_indexOf_7cf53 17 = .ok (.invokestatic 637, 3) := by decide +kernel
theorem dJ0_indexOf_7cf53_20 : decode cJ0_indexOf_7cf53 20 = .ok (.goto 16, 3) := by decide +kernel
theorem dJ0_indexOf_7cf53_23 : decode cJ0_indexOf_7cf53 23 = .ok (.aload_n 0, 1) := by decide +kernel
theorem dJ0_indexOf_7cf53_24 : decode cJ0_indexOf_7cf53 24 = .ok (.getfield 9, 3) := by decide +kernel
theorem dJ0_indexOf_7cf53_27 : decode cJ0_indexOf_7cf53 27 = .ok (.iload_n 1, 1) := by decide +kernel
theorem dJ0_indexOf_7cf53_28 : decode cJ0_indexOf_7cf53 28 = .ok (.iload_n 2, 1) := by decide +kernel
theorem dJ0_indexOf_7cf53_29 : decode cJ0_indexOf_7cf53 29 = .ok (.aload_n 0, 1) := by decide +kernel
theorem dJ0_indexOf_7cf53_30 : decode cJ0_indexOf_7cf53 30 = .ok (.invokevirtual 505, 3) := by decide +kernel
theorem dJ0_indexOf_7cf53_33 : decode cJ0_indexOf_7cf53 33 = .ok (.invokestatic 640, 3) := by decide +kernel
theorem dJ0_indexOf_7cf53_36 : decode cJ0_indexOf_7cf53 36 = .ok (.ireturn, 1) := by decide +kernel
theorem dJ0_coder_7d493_0 : decode cJ0_coder_7d493 0 = .ok (.getstatic 38, 3) := by decide +kernel
theorem dJ0_coder_7d493_3 : decode cJ0_coder_7d493 3 = .ok (.ifCond .eq 10, 3) := by decide +kernel
theorem dJ0_coder_7d493_6 : decode cJ0_coder_7d493 6 = .ok (.aload_n 0, 1) := by decide +kernel
theorem dJ0_coder_7d493_7 : decode cJ0_coder_7d493 7 = .ok (.getfield 15, 3) := by decide +kernel
theorem dJ0_coder_7d493_10 : decode cJ0_coder_7d493 10 = .ok (.goto 4, 3) := by decide +kernel
theorem dJ0_coder_7d493_13 : decode cJ0_coder_7d493 13 = .ok (.iconst 1, 1) := by decide +kernel
theorem dJ0_coder_7d493_14 : decode cJ0_coder_7d493 14 = .ok (.ireturn, 1) := by decide +kernel
theorem dJ0_isLatin1_aae02_0 : decode cJ0_isLatin1_aae02 0 = .ok (.getstatic 38, 3) := by decide +kernel
theorem dJ0_isLatin1_aae02_3 : decode cJ0_isLatin1_aae02 3 = .ok (.ifCond .eq 14, 3) := by decide +kernel
theorem dJ0_isLatin1_aae02_6 : decode cJ0_isLatin1_aae02 6 = .ok (.aload_n 0, 1) := by decide +kernel
theorem dJ0_isLatin1_aae02_7 : decode cJ0_isLatin1_aae02 7 = .ok (.getfield 15, 3) := by decide +kernel
theorem dJ0_isLatin1_aae02_10 : decode cJ0_isLatin1_aae02 10 = .ok (.ifCond .ne 7, 3) := by decide +kernel
theorem dJ0_isLatin1_aae02_13 : decode cJ0_isLatin1_aae02 13 = .ok (.iconst 1, 1) := by decide +kernel
theorem dJ0_isLatin1_aae02_14 : decode cJ0_isLatin1_aae02 14 = .ok (.goto 4, 3) := by decide +kernel
theorem dJ0_isLatin1_aae02_17 : decode cJ0_isLatin1_aae02 17 = .ok (.iconst 0, 1) := by decide +kernel
theorem dJ0_isLatin1_aae02_18 : decode cJ0_isLatin1_aae02 18 = .ok (.ireturn, 1) := by decide +kernel
theorem dJ0_checkIndex_df160_0 : decode cJ0_checkIndex_df160 0 = .ok (.iload_n 0, 1) := by decide +kernel
theorem dJ0_checkIndex_df160_1 : decode cJ0_checkIndex_df160 1 = .ok (.iload_n 1, 1) := by decide +kernel
theorem dJ0_checkIndex_df160_2 : decode cJ0_checkIndex_df160 2 = .ok (.getstatic 1053, 3) := by decide +kernel
theorem dJ0_checkIndex_df160_5 : decode cJ0_checkIndex_df160 5 = .ok (.invokestatic 1059, 3) := by decide +kernel
theorem dJ0_checkIndex_df160_8 : decode cJ0_checkIndex_df160 8 = .ok (.pop, 1) := by decide +kernel
theorem dJ0_checkIndex_df160_9 : decode cJ0_checkIndex_df160 9 = .ok (.return_, 1) := by decide +kernel
theorem dJ0_checkBoundsBeginEnd_23922_0 : decode cJ0_checkBoundsBeginEnd_23922 0 = .ok (.iload_n 0, 1) := by decide +kernel
theorem dJ0_checkBoundsBeginEnd_23922_1 : decode cJ0_checkBoundsBeginEnd_23922 1 = .ok (.iload_n 1, 1) := by decide +kernel
theorem dJ0_checkBoundsBeginEnd_23922_2 : decode cJ0_checkBoundsBeginEnd_23922 2 = .ok (.iload_n 2, 1) := by decide +kernel
theorem dJ0_checkBoundsBeginEnd_23922_3 : decode cJ0_checkBoundsBeginEnd_23922 3 = .ok (.getstatic 1053, 3) := by decide +kernel
theorem dJ0_checkBoundsBeginEnd_23922_6 : decode cJ0_checkBoundsBeginEnd_23922 6 = .ok (.invokestatic 1062, 3) := by decide +kernel
theorem dJ0_checkBoundsBeginEnd_23922_9 : decode cJ0_checkBoundsBeginEnd_23922 9 = .ok (.pop, 1) := by decide +kernel
theorem dJ0_checkBoundsBeginEnd_23922_10 : decode cJ0_checkBoundsBeginEnd_23922 10 = .ok (.return_, 1) := by decide +kernel
theorem dJ1_charAt_3b067_0 : decode cJ1_charAt_3b067 0 = .ok (.iload_n 1, 1) := by decide +kernel
theorem dJ1_charAt_3b067_1 : decode cJ1_charAt_3b067 1 = .ok (.aload_n 0, 1) := by decide +kernel
theorem dJ1_charAt_3b067_2 : decode cJ1_charAt_3b067 2 = .ok (.arraylength, 1) := by decide +kernel
theorem dJ1_charAt_3b067_3 : decode cJ1_charAt_3b067 3 = .ok (.invokestatic 9, 3) := by decide +kernel
theorem dJ1_charAt_3b067_6 : decode cJ1_charAt_3b067 6 = .ok (.aload_n 0, 1) := by decide +kernel
theorem dJ1_charAt_3b067_7 : decode cJ1_charAt_3b067 7 = .ok (.iload_n 1, 1) := by decide +kernel
theorem dJ1_charAt_3b067_8 : decode cJ1_charAt_3b067 8 = .ok (.baload, 1) := by decide +kernel
theorem dJ1_charAt_3b067_9 : decode cJ1_charAt_3b067 9 = .ok (.sipush 255, 3) := by decide +kernel
theorem dJ1_charAt_3b067_12 : decode cJ1_charAt_3b067 12 = .ok (.iand, 1) := by decide +kernel
theorem dJ1_charAt_3b067_13 : decode cJ1_charAt_3b067 13 = .ok (.i2c, 1) := by decide +kernel
theorem dJ1_charAt_3b067_14 : decode cJ1_charAt_3b067 14 = .ok (.ireturn, 1) := by decide +kernel
theorem dJ1_canEncode_9a6ad_0 : decode cJ1_canEncode_9a6ad 0 = .ok (.iload_n 0, 1) := by decide +kernel
theorem dJ1_canEncode_9a6ad_1 : decode cJ1_canEncode_9a6ad 1 = .ok (.ifCond .lt 14, 3) := by decide +kernel
theorem dJ1_canEncode_9a6ad_4 : decode cJ1_canEncode_9a6ad 4 = .ok (.iload_n 0, 1) := by decide +kernel
theorem dJ1_canEncode_9a6ad_5 : decode cJ1_canEncode_9a6ad 5 = .ok (.sipush 255, 3) := by decide +kernel
theorem dJ1_canEncode_9a6ad_8 : decode cJ1_canEncode_9a6ad 8 = .ok (.if_icmp .gt 7, 3) := by decide +kernel
theorem dJ1_canEncode_9a6ad_11 : decode cJ1_canEncode_9a6ad 11 = .ok (.iconst 1, 1) := by decide +kernel
theorem dJ1_canEncode_9a6ad_12 : decode cJ1_canEncode_9a6ad 12 = .ok (.goto 4, 3) := by decide +kernel
theorem dJ1_canEncode_9a6ad_15 : decode cJ1_canEncode_9a6ad 15 = .ok (.iconst 0, 1) := by decide +kernel
theorem dJ1_canEncode_9a6ad_16 : decode cJ1_canEncode_9a6ad 16 = .ok (.ireturn, 1) := by decide +kernel
theorem dJ1_indexOf_4cfef_0 : decode cJ1_indexOf_4cfef 0 = .ok (.iload_n 1, 1) := by decide +kernel
theorem dJ1_indexOf_4cfef_1 : decode cJ1_indexOf_4cfef 1 = .ok (.invokestatic 88, 3) := by decide +kernel
theorem dJ1_indexOf_4cfef_4 : decode cJ1_indexOf_4cfef 4 = .ok (.ifCond .ne 5, 3) := by decide +kernel
theorem dJ1_indexOf_4cfef_7 : decode cJ1_indexOf_4cfef 7 = .ok (.iconst (-1), 1) := by decide +kernel
theorem dJ1_indexOf_4cfef_8 : decode cJ1_indexOf_4cfef 8 = .ok (.ireturn, 1) := by decide +kernel
theorem dJ1_indexOf_4cfef_9 : decode cJ1_indexOf_4cfef 9 = .ok (.iload_n 2, 1) := by decide +kernel
theorem dJ1_indexOf_4cfef_10 : decode cJ1_indexOf_4cfef 10 = .ok (.iconst 0, 1) := by decide +kernel
theorem dJ1_indexOf_4cfef_11 : decode cJ1_indexOf_4cfef 11 = .ok (.invokestatic 92, 3) := by decide +kernel
theorem dJ1_indexOf_4cfef_14 : decode cJ1_indexOf_4cfef 14 = .ok (.istore_n 2, 1) := by decide +kernel
theorem dJ1_indexOf_4cfef_15 : decode cJ1_indexOf_4cfef 15 = .ok (.iload_n 3, 1) := by decide +kernel
theorem dJ1_indexOf_4cfef_16 : decode cJ1_indexOf_4cfef 16 = .ok (.aload_n 0, 1) := by decide +kernel
theorem dJ1_indexOf_4cfef_17 : decode cJ1_indexOf_4cfef 17 = .ok (.arraylength, 1) := by decide +kernel
theorem dJ1_indexOf_4cfef_18 : decode cJ1_indexOf_4cfef 18 = .ok (.invokestatic 38, 3) := by decide +kernel
theorem dJ1_indexOf_4cfef_21 : decode cJ1_indexOf_4cfef 21 = .ok (.istore_n 3, 1) := by decide +kernel
theorem dJ1_indexOf_4cfef_22 : decode cJ1_indexOf_4cfef 22 = .ok (.iload_n 2, 1) := by decide +kernel
theorem dJ1_indexOf_4cfef_23 : decode cJ1_indexOf_4cfef 23 = .ok (.iload_n 3, 1) := by decide +kernel
theorem dJ1_indexOf_4cfef_24 : decode cJ1_indexOf_4cfef 24 = .ok (.if_icmp .lt 5, 3) := by decide +kernel
theorem dJ1_indexOf_4cfef_27 : decode cJ1_indexOf_4cfef 27 = .ok (.iconst (-1), 1) := by decide +kernel
theorem dJ1_indexOf_4cfef_28 : decode cJ1_indexOf_4cfef 28 = .ok (.ireturn, 1) := by decide +kernel
theorem dJ1_indexOf_4cfef_29 : decode cJ1_indexOf_4cfef 29 = .ok (.aload_n 0, 1) := by decide +kernel
theorem dJ1_indexOf_4cfef_30 : decode cJ1_indexOf_4cfef 30 = .ok (.iload_n 1, 1) := by decide +kernel
theorem dJ1_indexOf_4cfef_31 : decode cJ1_indexOf_4cfef 31 = .ok (.iload_n 2, 1) := by decide +kernel
theorem dJ1_indexOf_4cfef_32 : decode cJ1_indexOf_4cfef 32 = .ok (.iload_n 3, 1) := by decide +kernel
theorem dJ1_indexOf_4cfef_33 : decode cJ1_indexOf_4cfef 33 = .ok (.invokestatic 95, 3) := by decide +kernel
theorem dJ1_indexOf_4cfef_36 : decode cJ1_indexOf_4cfef 36 = .ok (.ireturn, 1) := by decide +kernel
theorem dJ1_indexOfChar_4cfef_0 : decode cJ1_indexOfChar_4cfef 0 = .ok (.iload_n 1, 1) := by decide +kernel
theorem dJ1_indexOfChar_4cfef_1 : decode cJ1_indexOfChar_4cfef 1 = .ok (.i2b, 1) := by decide +kernel
theorem dJ1_indexOfChar_4cfef_2 : decode cJ1_indexOfChar_4cfef 2 = .ok (.istore 4, 2) := by decide +kernel
theorem dJ1_indexOfChar_4cfef_4 : decode cJ1_indexOfChar_4cfef 4 = .ok (.iload_n 2, 1) := by decide +kernel
theorem dJ1_indexOfChar_4cfef_5 : decode cJ1_indexOfChar_4cfef 5 = .ok (.istore 5, 2) := by decide +kernel
theorem dJ1_indexOfChar_4cfef_7 : decode cJ1_indexOfChar_4cfef 7 = .ok (.iload 5, 2) := by decide +kernel
theorem dJ1_indexOfChar_4cfef_9 : decode cJ1_indexOfChar_4cfef 9 = .ok (.iload_n 3, 1) := by decide +kernel
theorem dJ1_indexOfChar_4cfef_10 : decode cJ1_indexOfChar_4cfef 10 = .ok (.if_icmp .ge 21, 3) := by decide +kernel
theorem dJ1_indexOfChar_4cfef_13 : decode cJ1_indexOfChar_4cfef 13 = .ok (.aload_n 0, 1) := by decide +kernel
theorem dJ1_indexOfChar_4cfef_14 : decode cJ1_indexOfChar_4cfef 14 = .ok (.iload 5, 2) := by decide +kernel
theorem dJ1_indexOfChar_4cfef_16 : decode cJ1_indexOfChar_4cfef 16 = .ok (.baload, 1) := by decide +kernel
theorem dJ1_indexOfChar_4cfef_17 : decode cJ1_indexOfChar_4cfef 17 = .ok (.iload 4, 2) := by decide +kernel
theorem dJ1_indexOfChar_4cfef_19 : decode cJ1_indexOfChar_4cfef 19 = .ok (.if_icmp .ne 6, 3) := by decide +kernel
theorem dJ1_indexOfChar_4cfef_22 : decode cJ1_indexOfChar_4cfef 22 = .ok (.iload 5, 2) := by decide +kernel
theorem dJ1_indexOfChar_4cfef_24 : decode cJ1_indexOfChar_4cfef 24 = .ok (.ireturn, 1) := by decide +kernel
theorem dJ1_indexOfChar_4cfef_25 : decode cJ1_indexOfChar_4cfef 25 = .ok (.iinc 5 1, 3) := by decide +kernel
theorem dJ1_indexOfChar_4cfef_28 : decode cJ1_indexOfChar_4cfef 28 = .ok (.goto (-21), 3) := by decide +kernel
theorem dJ1_indexOfChar_4cfef_31 : decode cJ1_indexOfChar_4cfef 31 = .ok (.iconst (-1), 1) := by decide +kernel
theorem dJ1_indexOfChar_4cfef_32 : decode cJ1_indexOfChar_4cfef 32 = .ok (.ireturn, 1) := by decide +kernel
theorem dJ2_getChar_3b067_0 : decode cJ2_getChar_3b067 0 = .ok (.getstatic 44, 3) := by decide +kernel
theorem dJ2_getChar_3b067_3 : decode cJ2_getChar_3b067 3 = .ok (.ifCond .ne 25, 3) := by decide +kernel
theorem dJ2_getChar_3b067_6 : decode cJ2_getChar_3b067 6 = .ok (.iload_n 1, 1) := by decide +kernel
theorem dJ2_getChar_3b067_7 : decode cJ2_getChar_3b067 7 = .ok (.ifCond .lt 11, 3) := by decide +kernel
theorem dJ2_getChar_3b067_10 : decode cJ2_getChar_3b067 10 = .ok (.iload_n 1, 1) := by decide +kernel
theorem dJ2_getChar_3b067_11 : decode cJ2_getChar_3b067 11 = .ok (.aload_n 0, 1) := by decide +kernel
theorem dJ2_getChar_3b067_12 : decode cJ2_getChar_3b067 12 = .ok (.invokestatic 48, 3) := by decide +kernel
theorem dJ2_getChar_3b067_15 : decode cJ2_getChar_3b067 15 = .ok (.if_icmp .lt 13, 3) := by decide +kernel
theorem dJ2_getChar_3b067_18 : decode cJ2_getChar_3b067 18 = .ok (.new 52, 3) := by decide +kernel
theorem dJ2_getChar_3b067_21 : decode cJ2_getChar_3b067 21 = .ok (.dup, 1) := by decide +kernel
theorem dJ2_getChar_3b067_22 : decode cJ2_getChar_3b067 22 = .ok (.ldc 54, 2) := by decide +kernel
theorem dJ2_getChar_3b067_24 : decode cJ2_getChar_3b067 24 = .ok (.invokespecial 56, 3) := by decide +kernel
theorem dJ2_getChar_3b067_27 : decode cJ2_getChar_3b067 27 = .ok (.athrow, 1) := by decide +kernel
theorem dJ2_getChar_3b067_28 : decode cJ2_getChar_3b067 28 = .ok (.iload_n 1, 1) := by decide +kernel
theorem dJ2_getChar_3b067_29 : decode cJ2_getChar_3b067 29 = .ok (.iconst 1, 1) := by decide +kernel
theorem dJ2_getChar_3b067_30 : decode cJ2_getChar_3b067 30 = .ok (.ishl, 1) := by decide +kernel
theorem dJ2_getChar_3b067_31 : decode cJ2_getChar_3b067 31 = .ok (.istore_n 1, 1) := by decide +kernel
theorem dJ2_getChar_3b067_32 : decode cJ2_getChar_3b067 32 = .ok (.aload_n 0, 1) := by decide +kernel
theorem dJ2_getChar_3b067_33 : decode cJ2_getChar_3b067 33 = .ok (.iload_n 1, 1) := by decide +kernel
theorem dJ2_getChar_3b067_34 : decode cJ2_getChar_3b067 34 = .ok (.iinc 1 1, 3) := by decide +kernel
theorem dJ2_getChar_3b067_37 : decode cJ2_getChar_3b067 37 = .ok (.baload, 1) := by decide +kernel
theorem dJ2_getChar_3b067_38 : decode cJ2_getChar_3b067 38 = .ok (.sipush 255, 3) := by decide +kernel
theorem dJ2_getChar_3b067_41 : decode cJ2_getChar_3b067 41 = .ok (.iand, 1) := by decide +kernel
theorem dJ2_getChar_3b067_42 : decode cJ2_getChar_3b067 42 = .ok (.getstatic 59, 3) := by decide +kernel
theorem dJ2_getChar_3b067_45 : decode cJ2_getChar_3b067 45 = .ok (.ishl, 1) := by decide +kernel
theorem dJ2_getChar_3b067_46 : decode cJ2_getChar_3b067 46 = .ok (.aload_n 0, 1) := by decide +kernel
theorem dJ2_getChar_3b067_47 : decode cJ2_getChar_3b067 47 = .ok (.iload_n 1, 1) := by decide +kernel
theorem dJ2_getChar_3b067_48 : decode cJ2_getChar_3b067 48 = .ok (.baload, 1) := by decide +kernel
theorem dJ2_getChar_3b067_49 : decode cJ2_getChar_3b067 49 = .ok (.sipush 255, 3) := by decide +kernel
theorem dJ2_getChar_3b067_52 : decode cJ2_getChar_3b067 52 = .ok (.iand, 1) := by decide +kernel
theorem dJ2_getChar_3b067_53 : decode cJ2_getChar_3b067 53 = .ok (.getstatic 63, 3) := by decide +kernel
theorem dJ2_getChar_3b067_56 : decode cJ2_getChar_3b067 56 = .ok (.ishl, 1) := by decide +kernel
theorem dJ2_getChar_3b067_57 : decode cJ2_getChar_3b067 57 = .ok (.ior, 1) := by decide +kernel
theorem dJ2_getChar_3b067_58 : decode cJ2_getChar_3b067 58 = .ok (.i2c, 1) := by decide +kernel
theorem dJ2_getChar_3b067_59 : decode cJ2_getChar_3b067 59 = .ok (.ireturn, 1) := by decide +kernel
theorem dJ2_length_9d52b_0 : decode cJ2_length_9d52b 0 = .ok (.aload_n 0, 1) := by decide +kernel
theorem dJ2_length_9d52b_1 : decode cJ2_length_9d52b 1 = .ok (.arraylength, 1) := by decide +kernel
theorem dJ2_length_9d52b_2 : decode cJ2_length_9d52b 2 = .ok (.iconst 1, 1) := by decide +kernel
theorem dJ2_length_9d52b_3 : decode cJ2_length_9d52b 3 = .ok (.ishr, 1) := by decide +kernel
theorem dJ2_length_9d52b_4 : decode cJ2_length_9d52b 4 = .ok (.ireturn, 1) := by decide +kernel
theorem dJ2_indexOf_4cfef_0 : decode cJ2_indexOf_4cfef 0 = .ok (.iload_n 2, 1) := by decide +kernel
theorem dJ2_indexOf_4cfef_1 : decode cJ2_indexOf_4cfef 1 = .ok (.iconst 0, 1) := by decide +kernel
theorem dJ2_indexOf_4cfef_2 : decode cJ2_indexOf_4cfef 2 = .ok (.invokestatic 224, 3) := by decide +kernel
theorem dJ2_indexOf_4cfef_5 : decode cJ2_indexOf_4cfef 5 = .ok (.istore_n 2, 1) := by decide +kernel
theorem dJ2_indexOf_4cfef_6 : decode cJ2_indexOf_4cfef 6 = .ok (.iload_n 3, 1) := by decide +kernel
theorem dJ2_indexOf_4cfef_7 : decode cJ2_indexOf_4cfef 7 = .ok (.aload_n 0, 1) := by decide +kernel
theorem dJ2_indexOf_4cfef_8 : decode cJ2_indexOf_4cfef 8 = .ok (.arraylength, 1) := by decide +kernel
theorem dJ2_indexOf_4cfef_9 : decode cJ2_indexOf_4cfef 9 = .ok (.iconst 1, 1) := by decide +kernel
theorem dJ2_indexOf_4cfef_10 : decode cJ2_indexOf_4cfef 10 = .ok (.ishr, 1) := by decide +kernel
theorem dJ2_indexOf_4cfef_11 : decode cJ2_indexOf_4cfef 11 = .ok (.invokestatic 183, 3) := by decide +kernel
theorem dJ2_indexOf_4cfef_14 : decode cJ2_indexOf_4cfef 14 = .ok (.istore_n 3, 1) := by decide +kernel
theorem dJ2_indexOf_4cfef_15 : decode cJ2_indexOf_4cfef 15 = .ok (.iload_n 2, 1) := by decide +kernel
theorem dJ2_indexOf_4cfef_16 : decode cJ2_indexOf_4cfef 16 = .ok (.iload_n 3, 1) := by decide +kernel
theorem dJ2_indexOf_4cfef_17 : decode cJ2_indexOf_4cfef 17 = .ok (.if_icmp .lt 5, 3) := by decide +kernel
theorem dJ2_indexOf_4cfef_20 : decode cJ2_indexOf_4cfef 20 = .ok (.iconst (-1), 1) := by decide +kernel
theorem dJ2_indexOf_4cfef_21 : decode cJ2_indexOf_4cfef 21 = .ok (.ireturn, 1) := by decide +kernel
theorem dJ2_indexOf_4cfef_22 : decode cJ2_indexOf_4cfef 22 = .ok (.iload_n 1, 1) := by decide +kernel
theorem dJ2_indexOf_4cfef_23 : decode cJ2_indexOf_4cfef 23 = .ok (.ldc 227, 2) := by decide +kernel
theorem dJ2_indexOf_4cfef_25 : decode cJ2_indexOf_4cfef 25 = .ok (.if_icmp .ge 11, 3) := by decide +kernel
theorem dJ2_indexOf_4cfef_28 : decode cJ2_indexOf_4cfef 28 = .ok (.aload_n 0, 1) := by decide +kernel
theorem dJ2_indexOf_4cfef_29 : decode cJ2_indexOf_4cfef 29 = .ok (.iload_n 1, 1) := by decide +kernel
theorem dJ2_indexOf_4cfef_30 : decode cJ2_indexOf_4cfef 30 = .ok (.iload_n 2, 1) := by decide +kernel
theorem dJ2_indexOf_4cfef_31 : decode cJ2_indexOf_4cfef 31 = .ok (.iload_n 3, 1) := by decide +kernel
theorem dJ2_indexOf_4cfef_32 : decode cJ2_indexOf_4cfef 32 = .ok (.invokestatic 228, 3) := by decide +kernel
theorem dJ2_indexOf_4cfef_35 : decode cJ2_indexOf_4cfef 35 = .ok (.ireturn, 1) := by decide +kernel
theorem dJ2_indexOf_4cfef_36 : decode cJ2_indexOf_4cfef 36 = .ok (.aload_n 0, 1) := by decide +kernel
theorem dJ2_indexOf_4cfef_37 : decode cJ2_indexOf_4cfef 37 = .ok (.iload_n 1, 1) := by decide +kernel
theorem dJ2_indexOf_4cfef_38 : decode cJ2_indexOf_4cfef 38 = .ok (.iload_n 2, 1) := by decide +kernel
theorem dJ2_indexOf_4cfef_39 : decode cJ2_indexOf_4cfef 39 = .ok (.iload_n 3, 1) := by decide +kernel
theorem dJ2_indexOf_4cfef_40 : decode cJ2_indexOf_4cfef 40 = .ok (.invokestatic 232, 3) := by decide +kernel
theorem dJ2_indexOf_4cfef_43 : decode cJ2_indexOf_4cfef 43 = .ok (.ireturn, 1) := by decide +kernel
theorem dJ2_indexOfChar_4cfef_0 : decode cJ2_indexOfChar_4cfef 0 = .ok (.iload_n 2, 1) := by decide +kernel
theorem dJ2_indexOfChar_4cfef_1 : decode cJ2_indexOfChar_4cfef 1 = .ok (.iload_n 3, 1) := by decide +kernel
theorem dJ2_indexOfChar_4cfef_2 : decode cJ2_indexOfChar_4cfef 2 = .ok (.aload_n 0, 1) := by decide +kernel
theorem dJ2_indexOfChar_4cfef_3 : decode cJ2_indexOfChar_4cfef 3 = .ok (.invokestatic 96, 3) := by decide +kernel
theorem dJ2_indexOfChar_4cfef_6 : decode cJ2_indexOfChar_4cfef 6 = .ok (.aload_n 0, 1) := by decide +kernel
theorem dJ2_indexOfChar_4cfef_7 : decode cJ2_indexOfChar_4cfef 7 = .ok (.iload_n 1, 1) := by decide +kernel
theorem dJ2_indexOfChar_4cfef_8 : decode cJ2_indexOfChar_4cfef 8 = .ok (.iload_n 2, 1) := by decide +kernel
theorem dJ2_indexOfChar_4cfef_9 : decode cJ2_indexOfChar_4cfef 9 = .ok (.iload_n 3, 1) := by decide +kernel
theorem dJ2_indexOfChar_4cfef_10 : decode cJ2_indexOfChar_4cfef 10 = .ok (.invokestatic 244, 3) := by decide +kernel
theorem dJ2_indexOfChar_4cfef_13 : decode cJ2_indexOfChar_4cfef 13 = .ok (.ireturn, 1) := by decide +kernel
theorem dJ2_indexOfCharUnsafe_4cfef_0 : decode cJ2_indexOfCharUnsafe_4cfef 0 = .ok (.iload_n 2, 1) := by decide +kernel
theorem dJ2_indexOfCharUnsafe_4cfef_1 : decode cJ2_indexOfCharUnsafe_4cfef 1 = .ok (.istore 4, 2) := by decide +kernel
theorem dJ2_indexOfCharUnsafe_4cfef_3 : decode cJ2_indexOfCharUnsafe_4cfef 3 = .ok (.iload 4, 2) := by decide +kernel
theorem dJ2_indexOfCharUnsafe_4cfef_5 : decode cJ2_indexOfCharUnsafe_4cfef 5 = .ok (.iload_n 3, 1) := by decide +kernel
theorem dJ2_indexOfCharUnsafe_4cfef_6 : decode cJ2_indexOfCharUnsafe_4cfef 6 = .ok (.if_icmp .ge 22, 3) := by decide +kernel
theorem dJ2_indexOfCharUnsafe_4cfef_9 : decode cJ2_indexOfCharUnsafe_4cfef 9 = .ok (.aload_n 0, 1) := by decide +kernel
theorem dJ2_indexOfCharUnsafe_4cfef_10 : decode cJ2_indexOfCharUnsafe_4cfef 10 = .ok (.iload 4, 2) := by decide +kernel
theorem dJ2_indexOfCharUnsafe_4cfef_12 : decode cJ2_indexOfCharUnsafe_4cfef 12 = .ok (.invokestatic 71, 3) := by decide +kernel
theorem dJ2_indexOfCharUnsafe_4cfef_15 : decode cJ2_indexOfCharUnsafe_4cfef 15 = .ok (.iload_n 1, 1) := by decide +kernel
theorem dJ2_indexOfCharUnsafe_4cfef_16 : decode cJ2_indexOfCharUnsafe_4cfef 16 = .ok (.if_icmp .ne 6, 3) := by decide +kernel
theorem dJ2_indexOfCharUnsafe_4cfef_19 : decode cJ2_indexOfCharUnsafe_4cfef 19 = .ok (.iload 4, 2) := by decide +kernel
theorem dJ2_indexOfCharUnsafe_4cfef_21 : decode cJ2_indexOfCharUnsafe_4cfef 21 = .ok (.ireturn, 1) := by decide +kernel
theorem dJ2_indexOfCharUnsafe_4cfef_22 : decode cJ2_indexOfCharUnsafe_4cfef 22 = .ok (.iinc 4 1, 3) := by decide +kernel
theorem dJ2_indexOfCharUnsafe_4cfef_25 : decode cJ2_indexOfCharUnsafe_4cfef 25 = .ok (.goto (-22), 3) := by decide +kernel
theorem dJ2_indexOfCharUnsafe_4cfef_28 : decode cJ2_indexOfCharUnsafe_4cfef 28 = .ok (.iconst (-1), 1) := by decide +kernel
theorem dJ2_indexOfCharUnsafe_4cfef_29 : decode cJ2_indexOfCharUnsafe_4cfef 29 = .ok (.ireturn, 1) := by decide +kernel
theorem dJ2_indexOfSupplementary_4cfef_0 : decode cJ2_indexOfSupplementary_4cfef 0 = .ok (.iload_n 1, 1) := by decide +kernel
theorem dJ2_indexOfSupplementary_4cfef_1 : decode cJ2_indexOfSupplementary_4cfef 1 = .ok (.invokestatic 164, 3) := by decide +kernel
theorem dJ2_indexOfSupplementary_4cfef_4 : decode cJ2_indexOfSupplementary_4cfef 4 = .ok (.ifCond .eq 65, 3) := by decide +kernel
theorem dJ2_indexOfSupplementary_4cfef_7 : decode cJ2_indexOfSupplementary_4cfef 7 = .ok (.iload_n 1, 1) := by decide +kernel
theorem dJ2_indexOfSupplementary_4cfef_8 : decode cJ2_indexOfSupplementary_4cfef 8 = .ok (.invokestatic 157, 3) := by decide +kernel
theorem dJ2_indexOfSupplementary_4cfef_11 : decode cJ2_indexOfSupplementary_4cfef 11 = .ok (.istore 4, 2) := by decide +kernel
theorem dJ2_indexOfSupplementary_4cfef_13 : decode cJ2_indexOfSupplementary_4cfef 13 = .ok (.iload_n 1, 1) := by decide +kernel
theorem dJ2_indexOfSupplementary_4cfef_14 : decode cJ2_indexOfSupplementary_4cfef 14 = .ok (.invokestatic 161, 3) := by decide +kernel
theorem dJ2_indexOfSupplementary_4cfef_17 : decode cJ2_indexOfSupplementary_4cfef 17 = .ok (.istore 5, 2) := by decide +kernel
theorem dJ2_indexOfSupplementary_4cfef_19 : decode cJ2_indexOfSupplementary_4cfef 19 = .ok (.iload_n 2, 1) := by decide +kernel
theorem dJ2_indexOfSupplementary_4cfef_20 : decode cJ2_indexOfSupplementary_4cfef 20 = .ok (.iload_n 3, 1) := by decide +kernel
theorem dJ2_indexOfSupplementary_4cfef_21 : decode cJ2_indexOfSupplementary_4cfef 21 = .ok (.aload_n 0, 1) := by decide +kernel
theorem dJ2_indexOfSupplementary_4cfef_22 : decode cJ2_indexOfSupplementary_4cfef 22 = .ok (.invokestatic 96, 3) := by decide +kernel
theorem dJ2_indexOfSupplementary_4cfef_25 : decode cJ2_indexOfSupplementary_4cfef 25 = .ok (.iload_n 2, 1) := by decide +kernel
theorem dJ2_indexOfSupplementary_4cfef_26 : decode cJ2_indexOfSupplementary_4cfef 26 = .ok (.istore 6, 2) := by decide +kernel
theorem dJ2_indexOfSupplementary_4cfef_28 : decode cJ2_indexOfSupplementary_4cfef 28 = .ok (.iload 6, 2) := by decide +kernel
theorem dJ2_indexOfSupplementary_4cfef_30 : decode cJ2_indexOfSupplementary_4cfef 30 = .ok (.iload_n 3, 1) := by decide +kernel
theorem dJ2_indexOfSupplementary_4cfef_31 : decode cJ2_indexOfSupplementary_4cfef 31 = .ok (.iconst 1, 1) := by decide +kernel
theorem dJ2_indexOfSupplementary_4cfef_32 : decode cJ2_indexOfSupplementary_4cfef 32 = .ok (.isub, 1) := by decide +kernel
theorem dJ2_indexOfSupplementary_4cfef_33 : decode cJ2_indexOfSupplementary_4cfef 33 = .ok (.if_icmp .ge 36, 3) := by decide +kernel
theorem dJ2_indexOfSupplementary_4cfef_36 : decode cJ2_indexOfSupplementary_4cfef 36 = .ok (.aload_n 0, 1) := by decide +kernel
theorem dJ2_indexOfSupplementary_4cfef_37 : decode cJ2_indexOfSupplementary_4cfef 37 = .ok (.iload 6, 2) := by decide +kernel
theorem dJ2_indexOfSupplementary_4cfef_39 : decode cJ2_indexOfSupplementary_4cfef 39 = .ok (.invokestatic 71, 3) := by decide +kernel
theorem dJ2_indexOfSupplementary_4cfef_42 : decode cJ2_indexOfSupplementary_4cfef 42 = .ok (.iload 4, 2) := by decide +kernel
theorem dJ2_indexOfSupplementary_4cfef_44 : decode cJ2_indexOfSupplementary_4cfef 44 = .ok (.if_icmp .ne 19, 3) := by decide +kernel
theorem dJ2_indexOfSupplementary_4cfef_47 : decode cJ2_indexOfSupplementary_4cfef 47 = .ok (.aload_n 0, 1) := by decide +kernel
theorem dJ2_indexOfSupplementary_4cfef_48 : decode cJ2_indexOfSupplementary_4cfef 48 = .ok (.iload 6, 2) := by decide +kernel
theorem dJ2_indexOfSupplementary_4cfef_50 : decode cJ2_indexOfSupplementary_4cfef 50 = .ok (.iconst 1, 1) := by decide +kernel
theorem dJ2_indexOfSupplementary_4cfef_51 : decode cJ2_indexOfSupplementary_4cfef 51 = .ok (.iadd, 1) := by decide +kernel
theorem dJ2_indexOfSupplementary_4cfef_52 : decode cJ2_indexOfSupplementary_4cfef 52 = .ok (.invokestatic 71, 3) := by decide +kernel
theorem dJ2_indexOfSupplementary_4cfef_55 : decode cJ2_indexOfSupplementary_4cfef 55 = .ok (.iload 5, 2) := by decide +kernel
theorem dJ2_indexOfSupplementary_4cfef_57 : decode cJ2_indexOfSupplementary_4cfef 57 = .ok (.if_icmp .ne 6, 3) := by decide +kernel
theorem dJ2_indexOfSupplementary_4cfef_60 : decode cJ2_indexOfSupplementary_4cfef 60 = .ok (.iload 6, 2) := by decide +kernel
theorem dJ2_indexOfSupplementary_4cfef_62 : decode cJ2_indexOfSupplementary_4cfef 62 = .ok (.ireturn, 1) := by decide +kernel
theorem dJ2_indexOfSupplementary_4cfef_63 : decode cJ2_indexOfSupplementary_4cfef 63 = .ok (.iinc 6 1, 3) := by decide +kernel
theorem dJ2_indexOfSupplementary_4cfef_66 : decode cJ2_indexOfSupplementary_4cfef 66 = .ok (.goto (-38), 3) := by decide +kernel
theorem dJ2_indexOfSupplementary_4cfef_69 : decode cJ2_indexOfSupplementary_4cfef 69 = .ok (.iconst (-1), 1) := by decide +kernel
theorem dJ2_indexOfSupplementary_4cfef_70 : decode cJ2_indexOfSupplementary_4cfef 70 = .ok (.ireturn, 1) := by decide +kernel
theorem dJ2_charAt_3b067_0 : decode cJ2_charAt_3b067 0 = .ok (.iload_n 1, 1) := by decide +kernel
theorem dJ2_charAt_3b067_1 : decode cJ2_charAt_3b067 1 = .ok (.aload_n 0, 1) := by decide +kernel
theorem dJ2_charAt_3b067_2 : decode cJ2_charAt_3b067 2 = .ok (.invokestatic 67, 3) := by decide +kernel
theorem dJ2_charAt_3b067_5 : decode cJ2_charAt_3b067 5 = .ok (.aload_n 0, 1) := by decide +kernel
theorem dJ2_charAt_3b067_6 : decode cJ2_charAt_3b067 6 = .ok (.iload_n 1, 1) := by decide +kernel
theorem dJ2_charAt_3b067_7 : decode cJ2_charAt_3b067 7 = .ok (.invokestatic 71, 3) := by decide +kernel
theorem dJ2_charAt_3b067_10 : decode cJ2_charAt_3b067 10 = .ok (.ireturn, 1) := by decide +kernel
theorem dJ2_checkIndex_2214a_0 : decode cJ2_checkIndex_2214a 0 = .ok (.iload_n 0, 1) := by decide +kernel
theorem dJ2_checkIndex_2214a_1 : decode cJ2_checkIndex_2214a 1 = .ok (.aload_n 1, 1) := by decide +kernel
theorem dJ2_checkIndex_2214a_2 : decode cJ2_checkIndex_2214a 2 = .ok (.invokestatic 48, 3) := by decide +kernel
theorem dJ2_checkIndex_2214a_5 : decode cJ2_checkIndex_2214a 5 = .ok (.invokestatic 414, 3) := by decide +kernel
theorem dJ2_checkIndex_2214a_8 : decode cJ2_checkIndex_2214a 8 = .ok (.return_, 1) := by decide +kernel
theorem dJ2_checkBoundsBeginEnd_d044e_0 : decode cJ2_checkBoundsBeginEnd_d044e 0 = .ok (.iload_n 0, 1) := by decide +kernel
theorem dJ2_checkBoundsBeginEnd_d044e_1 : decode cJ2_checkBoundsBeginEnd_d044e 1 = .ok (.iload_n 1, 1) := by decide +kernel
theorem dJ2_checkBoundsBeginEnd_d044e_2 : decode cJ2_checkBoundsBeginEnd_d044e 2 = .ok (.aload_n 2, 1) := by decide +kernel
theorem dJ2_checkBoundsBeginEnd_d044e_3 : decode cJ2_checkBoundsBeginEnd_d044e 3 = .ok (.invokestatic 48, 3) := by decide +kernel
theorem dJ2_checkBoundsBeginEnd_d044e_6 : decode cJ2_checkBoundsBeginEnd_d044e 6 = .ok (.invokestatic 241, 3) := by decide +kernel
theorem dJ2_checkBoundsBeginEnd_d044e_9 : decode cJ2_checkBoundsBeginEnd_d044e 9 = .ok (.return_, 1) := by decide +kernel
theorem dJ7_fill_53178_0 : decode cJ7_fill_53178 0 = .ok (.iconst 0, 1) := by decide +kernel
theorem dJ7_fill_53178_1 : decode cJ7_fill_53178 1 = .ok (.istore_n 2, 1) := by decide +kernel
theorem dJ7_fill_53178_2 : decode cJ7_fill_53178 2 = .ok (.aload_n 0, 1) := by decide +kernel
theorem dJ7_fill_53178_3 : decode cJ7_fill_53178 3 = .ok (.arraylength, 1) := by decide +kernel
theorem dJ7_fill_53178_4 : decode cJ7_fill_53178 4 = .ok (.istore_n 3, 1) := by decide +kernel
theorem dJ7_fill_53178_5 : decode cJ7_fill_53178 5 = .ok (.iload_n 2, 1) := by decide +kernel
theorem dJ7_fill_53178_6 : decode cJ7_fill_53178 6 = .ok (.iload_n 3, 1) := by decide +kernel
theorem dJ7_fill_53178_7 : decode cJ7_fill_53178 7 = .ok (.if_icmp .ge 13, 3) := by decide +kernel
theorem dJ7_fill_53178_10 : decode cJ7_fill_53178 10 = .ok (.aload_n 0, 1) := by decide +kernel
theorem dJ7_fill_53178_11 : decode cJ7_fill_53178 11 = .ok (.iload_n 2, 1) := by decide +kernel
theorem dJ7_fill_53178_12 : decode cJ7_fill_53178 12 = .ok (.iload_n 1, 1) := by decide +kernel
theorem dJ7_fill_53178_13 : decode cJ7_fill_53178 13 = .ok (.iastore, 1) := by decide +kernel
theorem dJ7_fill_53178_14 : decode cJ7_fill_53178 14 = .ok (.iinc 2 1, 3) := by decide +kernel
theorem dJ7_fill_53178_17 : decode cJ7_fill_53178 17 = .ok (.goto (-12), 3) := by decide +kernel
theorem dJ7_fill_53178_20 : decode cJ7_fill_53178 20 = .ok (.return_, 1) := by decide +kernel
theorem dJ7_copyOf_59c91_0 : decode cJ7_copyOf_59c91 0 = .ok (.iload_n 1, 1) := by decide +kernel
theorem dJ7_copyOf_59c91_1 : decode cJ7_copyOf_59c91 1 = .ok (.aload_n 0, 1) := by decide +kernel
theorem dJ7_copyOf_59c91_2 : decode cJ7_copyOf_59c91 2 = .ok (.arraylength, 1) := by decide +kernel
theorem dJ7_copyOf_59c91_3 : decode cJ7_copyOf_59c91 3 = .ok (.if_icmp .ne 11, 3) := by decide +kernel
theorem dJ7_copyOf_59c91_6 : decode cJ7_copyOf_59c91 6 = .ok (.aload_n 0, 1) := by decide +kernel
theorem dJ7_copyOf_59c91_7 : decode cJ7_copyOf_59c91 7 = .ok (.invokevirtual 316, 3) := by decide +kernel
theorem dJ7_copyOf_59c91_10 : decode cJ7_copyOf_59c91 10 = .ok (.checkcast 317, 3) := by decide +kernel
theorem dJ7_copyOf_59c91_13 : decode cJ7_copyOf_59c91 13 = .ok (.areturn, 1) := by decide +kernel
theorem dJ7_copyOf_59c91_14 : decode cJ7_copyOf_59c91 14 = .ok (.iload_n 1, 1) := by decide +kernel
theorem dJ7_copyOf_59c91_15 : decode cJ7_copyOf_59c91 15 = .ok (.newarray .int, 2) := by decide +kernel
theorem dJ7_copyOf_59c91_17 : decode cJ7_copyOf_59c91 17 = .ok (.astore_n 2, 1) := by decide +kernel
theorem dJ7_copyOf_59c91_18 : decode cJ7_copyOf_59c91 18 = .ok (.aload_n 0, 1) := by decide +kernel
theorem dJ7_copyOf_59c91_19 : decode cJ7_copyOf_59c91 19 = .ok (.iconst 0, 1) := by decide +kernel
theorem dJ7_copyOf_59c91_20 : decode cJ7_copyOf_59c91 20 = .ok (.aload_n 2, 1) := by decide +kernel
theorem dJ7_copyOf_59c91_21 : decode cJ7_copyOf_59c91 21 = .ok (.iconst 0, 1) := by decide +kernel
theorem dJ7_copyOf_59c91_22 : decode cJ7_copyOf_59c91 22 = .ok (.aload_n 0, 1) := by decide +kernel
theorem dJ7_copyOf_59c91_23 : decode cJ7_copyOf_59c91 23 = .ok (.arraylength, 1) := by decide +kernel
theorem dJ7_copyOf_59c91_24 : decode cJ7_copyOf_59c91 24 = .ok (.iload_n 1, 1) := by decide +kernel
theorem dJ7_copyOf_59c91_25 : decode cJ7_copyOf_59c91 25 = .ok (.invokestatic 304, 3) := by decide +kernel
theorem dJ7_copyOf_59c91_28 : decode cJ7_copyOf_59c91 28 = .ok (.invokestatic 150, 3) := by decide +kernel
theorem dJ7_copyOf_59c91_31 : decode cJ7_copyOf_59c91 31 = .ok (.aload_n 2, 1) := by decide +kernel
theorem dJ7_copyOf_59c91_32 : decode cJ7_copyOf_59c91 32 = .ok (.areturn, 1) := by decide +kernel
theorem dJ3_checkIndex_8e157_0 : decode cJ3_checkIndex_8e157 0 = .ok (.iload_n 0, 1) := by decide +kernel
theorem dJ3_checkIndex_8e157_1 : decode cJ3_checkIndex_8e157 1 = .ok (.ifCond .lt 8, 3) := by decide +kernel
theorem dJ3_checkIndex_8e157_4 : decode cJ3_checkIndex_8e157 4 = .ok (.iload_n 0, 1) := by decide +kernel
theorem dJ3_checkIndex_8e157_5 : decode cJ3_checkIndex_8e157 5 = .ok (.iload_n 1, 1) := by decide +kernel
theorem dJ3_checkIndex_8e157_6 : decode cJ3_checkIndex_8e157 6 = .ok (.if_icmp .lt 10, 3) := by decide +kernel
theorem dJ3_checkIndex_8e157_9 : decode cJ3_checkIndex_8e157 9 = .ok (.aload_n 2, 1) := by decide +kernel
theorem dJ3_checkIndex_8e157_10 : decode cJ3_checkIndex_8e157 10 = .ok (.iload_n 0, 1) := by decide +kernel
theorem dJ3_checkIndex_8e157_11 : decode cJ3_checkIndex_8e157 11 = .ok (.iload_n 1, 1) := by decide +kernel
theorem dJ3_checkIndex_8e157_12 : decode cJ3_checkIndex_8e157 12 = .ok (.invokestatic 95, 3) := by decide +kernel
theorem dJ3_checkIndex_8e157_15 : decode cJ3_checkIndex_8e157 15 = .ok (.athrow, 1) := by decide +kernel
theorem dJ3_checkIndex_8e157_16 : decode cJ3_checkIndex_8e157 16 = .ok (.iload_n 0, 1) := by decide +kernel
theorem dJ3_checkIndex_8e157_17 : decode cJ3_checkIndex_8e157 17 = .ok (.ireturn, 1) := by decide +kernel
theorem dJ3_checkFromToIndex_8c36e_0 : decode cJ3_checkFromToIndex_8c36e 0 = .ok (.iload_n 0, 1) := by decide +kernel
theorem dJ3_checkFromToIndex_8c36e_1 : decode cJ3_checkFromToIndex_8c36e 1 = .ok (.ifCond .lt 13, 3) := by decide +kernel
theorem dJ3_checkFromToIndex_8c36e_4 : decode cJ3_checkFromToIndex_8c36e 4 = .ok (.iload_n 0, 1) := by decide +kernel
theorem dJ3_checkFromToIndex_8c36e_5 : decode cJ3_checkFromToIndex_8c36e 5 = .ok (.iload_n 1, 1) := by decide +kernel
theorem dJ3_checkFromToIndex_8c36e_6 : decode cJ3_checkFromToIndex_8c36e 6 = .ok (.if_icmp .gt 8, 3) := by decide +kernel
theorem dJ3_checkFromToIndex_8c36e_9 : decode cJ3_checkFromToIndex_8c36e 9 = .ok (.iload_n 1, 1) := by decide +kernel
theorem dJ3_checkFromToIndex_8c36e_10 : decode cJ3_checkFromToIndex_8c36e 10 = .ok (.iload_n 2, 1) := by decide +kernel
theorem dJ3_checkFromToIndex_8c36e_11 : decode cJ3_checkFromToIndex_8c36e 11 = .ok (.if_icmp .le 11, 3) := by decide +kernel
theorem dJ3_checkFromToIndex_8c36e_14 : decode cJ3_checkFromToIndex_8c36e 14 = .ok (.aload_n 3, 1) := by decide +kernel
theorem dJ3_checkFromToIndex_8c36e_15 : decode cJ3_checkFromToIndex_8c36e 15 = .ok (.iload_n 0, 1) := by decide +kernel
theorem dJ3_checkFromToIndex_8c36e_16 : decode cJ3_checkFromToIndex_8c36e 16 = .ok (.iload_n 1, 1) := by decide +kernel
theorem dJ3_checkFromToIndex_8c36e_17 : decode cJ3_checkFromToIndex_8c36e 17 = .ok (.iload_n 2, 1) := by decide +kernel
theorem dJ3_checkFromToIndex_8c36e_18 : decode cJ3_checkFromToIndex_8c36e 18 = .ok (.invokestatic 99, 3) := by decide +kernel
theorem dJ3_checkFromToIndex_8c36e_21 : decode cJ3_checkFromToIndex_8c36e 21 = .ok (.athrow, 1) := by decide +kernel
theorem dJ3_checkFromToIndex_8c36e_22 : decode cJ3_checkFromToIndex_8c36e 22 = .ok (.iload_n 0, 1) := by decide +kernel
theorem dJ3_checkFromToIndex_8c36e_23 : decode cJ3_checkFromToIndex_8c36e 23 = .ok (.ireturn, 1) := by decide +kernel
end
section
/-! the world of class and reference, cells by number -/
abbrev Mm : Type := Nat → Nat → Int32
def wr (M : Mm) (i k : Nat) (x : Int32) : Mm := va_up M i (upd (M i) k x)
abbrev cls : List vw_C := [(RX0, TX0, 13), (RX1, TX1, 7), (RX2, TX2, 2), (RX3, TX3, 14), (RX4, TX4, 3), (RX5, TX5, 4), (RX6, TX6, 4), (RX7, TX7, 9), (RX8, TX8, 34)]
/-- what kind of cell a number is: 1 ShyWell, 2 Scene, 3 laws, 4 comers, 5 Comer, 6 Reader, 7 Row, 8 sheets, 9 Sheet, 10 slots, 11 Slot, 12 reference, 20 Text, 21 its steps, 22 its pile, 1000 + n: a row of n ints -/
def tpL : List Nat := [1, 2, 3, 1003, 4, 5, 5, 5, 5, 5, 5, 5, 5, 2, 3, 1003, 4, 5, 5, 5, 5, 5, 5, 5, 5, 2, 3, 1003, 4, 5, 5, 5, 5, 5, 5, 5, 5, 6, 7, 1096, 7, 1096, 7, 1060, 8, 9, 1024, 9, 1024, 9, 1024, 9, 1024, 10, 11, 5, 9, 1024, 11, 5, 9, 1024, 11, 5, 9, 1024, 11, 5, 9, 1024, 11, 5, 9, 1024, 12, 4108, 4108, 4108, 1004, 1004, 1096, 1005, 1005, 1005, 1005, 1120, 1008, 1108, 1096, 1128, 1100, 1024, 1060, 1060]
def tp (i : Nat) : Nat := if i < 94 then tpL.getD i 0 else 20 + (i - 94) % 3
def LEN : Nat := 1000000
abbrev En : Type := va_G × (Nat → ClassId) × (Nat → Nat) × (Nat → Nat) × Nat
abbrev eD (E : En) : va_G := E.1
abbrev eC (E : En) : Nat → ClassId := E.2.1
abbrev eA (E : En) : Nat → Nat := E.2.2.1
abbrev eS (E : En) : Nat → Nat := E.2.2.2.1
abbrev eN (E : En) : Nat := E.2.2.2.2
def lawR (ad : Nat → Nat) (x : Int32) : Option Nat := if x = 0 then none else some (ad x.toNatClampNeg)
abbrev qa (f : Nat → Option Nat) : (Nat → Int32) ⊕ (Nat → Int64) ⊕ (Nat → UInt32) ⊕ (Nat → UInt64) ⊕ (Nat → Option Nat) := .inr (.inr (.inr (.inr f)))
def shT (t : Nat) (C : Nat → ClassId) (ad : Nat → Nat) (i : Nat) (m : Nat → Int32) : va_E := match t with
  | 1 => .inr (7, [.ref (ad 1), .ref (ad 13), .ref (ad 25), .int (m 3), .ref (ad 37), .ref (ad 38), .ref (ad 42), .ref (ad 44), .ref (ad 53)])
  | 2 => .inr (3, [.ref (ad (i + 1)), .ref (ad (i + 2)), .int (m 2), .ref (ad (i + 3)), .int (m 4), .int (m 5), .int (m 6), .int (m 7), .int (m 8), .int (m 9), .int (m 10), .int (m 11), .int (m 12), .int (m 13)])
  | 3 => .inl (C 2, 14, qa (fun j => lawR ad (m j)))
  | 4 => .inl (C 1, 8, qa (fun j => some (ad (i + 1 + j))))
  | 5 => .inr (0, [.int (m 0), .int (m 1), .int (m 2), .int (m 3), .int (m 4), .int (m 5), .int (m 6), .int (m 7), .int (m 8), .int (m 9), .int (m 10), .int (m 11), .int (m 12)])
  | 6 => .inr (1, [.ref (ad (i + 1)), .ref (ad (i + 3)), .int (m 2), .int (m 3), .int (m 4), .int (m 5), .int (m 6)])
  | 7 => .inr (2, [.ref (ad (i + 1)), .int (m 1)])
  | 8 => .inl (C 3, 4, qa (fun j => some (ad (i + 1 + 2 * j))))
  | 9 => .inr (4, [.ref (ad (i + 1)), .int (m 1), .int (m 2)])
  | 10 => .inl (C 4, 5, qa (fun j => some (ad (i + 1 + 4 * j))))
  | 11 => .inr (5, [.ref (ad (i + 1)), .ref (ad (i + 2)), .int (m 2), .int (m 3)])
  | 12 => .inr (8, [.ref (ad 75), .ref (ad 76), .ref (ad 77), .int (m 3), .ref (ad 78), .ref (ad 79), .ref (ad 80), .ref (ad 81), .ref (ad 82), .ref (ad 83), .ref (ad 84), .ref (ad 85), .ref (ad 86), .int (m 13), .int (m 14), .ref (ad 87), .ref (ad 88), .int (m 17), .int (m 18), .int (m 19), .int (m 20), .int (m 21), .int (m 22), .int (m 23), .int (m 24), .int (m 25), .int (m 26), .int (m 27), .ref (ad 89), .ref (ad 90), .ref (ad 91), .ref (ad 92), .int (m 32), .ref (ad 93)])
  | 20 => .inr (6, [.int (m 0), .int (m 1), .ref (ad (i + 1)), .ref (ad (i + 2))])
  | 21 => .inl (C 0, (m LEN).toNatClampNeg, .inl m)
  | 22 => .inl (C 0, (m LEN).toNatClampNeg, .inl m)
  | t => .inl (C 0, t - 1000, .inl m)
def sh (E : En) (i : Nat) (m : Nat → Int32) : va_E := shT (tp i) (eC E) (eA E) i m
theorem sh_of {E : En} {i t : Nat} (h : tp i = t) (m : Nat → Int32) : sh E i m = shT t (eC E) (eA E) i m := by unfold sh; rw [h]
/-- a row of ints of known length -/
theorem sh_ia {E : En} {i : Nat} (n : Nat) (h : tp i = 1000 + n) (m : Nat → Int32) : sh E i m = .inl (eC E 0, n, .inl m) := by
  rw [sh_of h]
  unfold shT
  split
  all_goals (first | omega | (simp; done) | (simp; omega))
theorem sh_tx {E : En} {i : Nat} (h : tp i = 21 ∨ tp i = 22) (m : Nat → Int32) : sh E i m = .inl (eC E 0, (m LEN).toNatClampNeg, .inl m) := by
  rcases h with h | h <;> rw [sh_of h] <;> rfl
def wd (E : En) (M : Mm) : va_W := (List.range (eN E)).map (fun i => (eA E i, sh E i (M i)))
theorem wd_get {E : En} {M : Mm} {i : Nat} (h : i < eN E) : (wd E M)[i]? = some (eA E i, sh E i (M i)) := by
  simp [wd, List.getElem?_map, List.getElem?_range h]
theorem wd_at {E : En} {M : Mm} {i : Nat} {e : va_E} (h : i < eN E) (he : sh E i (M i) = e) : (wd E M)[i]? = some (eA E i, e) := by rw [wd_get h, he]
theorem wd_len {E : En} {M : Mm} : (wd E M).length = eN E := by simp [wd]
theorem wd_set {E : En} {M : Mm} {i : Nat} {e : va_E} {f : Nat → Int32} (h : i < eN E) (he : sh E i f = e) : (wd E M).set i (eA E i, e) = wd E (va_up M i f) := by
  subst he
  apply List.ext_getElem?
  intro k
  rw [List.getElem?_set]
  by_cases hk : i = k
  · subst hk
    rw [if_pos rfl, if_pos (by rw [wd_len]; exact h), wd_get h]
    simp [va_up]
  · rw [if_neg hk]
    by_cases h2 : k < eN E
    · rw [wd_get h2, wd_get h2]
      simp [va_up, Ne.symm hk]
    · rw [List.getElem?_eq_none (by rw [wd_len]; omega), List.getElem?_eq_none (by rw [wd_len]; omega)]
/-- the addresses: apart, and of a kind -/
def aD (A : Nat → Prop) (E : En) : Prop := (∀ i j : Nat, i < eN E → j < eN E → eA E i = eA E j → i = j) ∧ ∀ i : Nat, i < eN E → A (eA E i)
theorem aD.D {A : Nat → Prop} {E : En} (h : aD A E) (M : Mm) : va_D A (wd E M) := by
  have hget : ∀ (k : Nat) (q : Nat × va_E), (wd E M)[k]? = some q → k < eN E ∧ q.1 = eA E k := by
    intro k q hq
    have hk : k < (wd E M).length := (List.getElem?_eq_some_iff.mp hq).1
    rw [wd_len] at hk
    rw [wd_get hk] at hq
    exact ⟨hk, by rw [← Option.some.inj hq]⟩
  refine ⟨fun i j p q hi hj he => ?_, fun k q hk => ?_⟩
  · obtain ⟨a1, a2⟩ := hget i p hi
    obtain ⟨b1, b2⟩ := hget j q hj
    exact h.1 i j a1 b1 (by rw [← a2, ← b2]; exact he)
  · obtain ⟨a1, a2⟩ := hget k q hk
    rw [a2]
    exact h.2 k a1
def aA (E : En) (sz : Nat) : Nat → Prop := fun q => (∃ i : Nat, i < eN E ∧ eA E i = q) ∨ sz ≤ q
/-! the words -/
def isNest : Cond → Bool
  | .fieldLinkNest _ _ _ _ _ _ => true
  | .methodLinkNest _ _ _ _ => true
  | _ => false
def tbG : List Cond := lw_tbl.filter goodWord
def tbN : List Cond := lw_tbl.filter isNest
theorem tb_g {w : Cond} (i : Nat) (h : lw_tbl[i]? = some w) (hg : goodWord w = true) : w ∈ tbG := List.mem_filter.mpr ⟨List.mem_of_getElem? h, hg⟩
theorem tb_n {w : Cond} (i : Nat) (h : lw_tbl[i]? = some w) (hg : isNest w = true) : w ∈ tbN := List.mem_filter.mpr ⟨List.mem_of_getElem? h, hg⟩
theorem tbG_good : GoodIn tbG tbG := fun w h => ⟨h, good_of_word (List.mem_filter.mp h).2⟩
def Nst (U : State) : Prop := ∀ w ∈ tbN, va_Nw w U
theorem Nst.same {u U : State} (h : u.vm = U.vm) (hN : Nst u) : Nst U := by
  intro w hw
  have h2 := (List.mem_filter.mp hw).2
  have ht : w.onTables = true := by
    cases w <;> first | rfl | (simp [isNest] at h2)
  exact va_Nw.same ht h (hN w hw)
theorem Nst.warm {s U : State} (hW : s.WarmedH U.vm) (hN : Nst s) : Nst U := by
  intro w hw
  have h2 := (List.mem_filter.mp hw).2
  have h3 := hN w hw
  cases w <;> first | exact va_Nw.warmF hW h3 | exact va_Nw.warmM hW h3 | (simp [isNest] at h2)
/-! what lies outside the world: the class's own rows of constants, the texts, what the library reads -/
def sArr (nm : String) (t N : Nat) (vs : List Int32) (A : Nat → Prop) (U : State) (H : Heap) : Prop := va_Z "ShyWell" nm "[I" (.ref t) A U H ∧ va_T .int t N (fun j => .int (vs.getD j 0)) A U H
def Str (tS : Nat → Nat) (U : State) : Prop := vk_R RX1 75 "leave" (tS 10) U ∧ vk_R RX1 81 "stay" (tS 11) U ∧ vk_R RX1 83 "fine" (tS 12) U ∧ vk_R RX1 125 "tsa" (tS 13) U ∧ vk_R RX1 127 "awn" (tS 14) U ∧ vk_R RX1 129 "ge" (tS 15) U
abbrev sLen : List Nat := [5, 4, 4, 3, 3, 2]
abbrev sByt : List (List Int32) := [[108, 101, 97, 118, 101], [115, 116, 97, 121], [102, 105, 110, 101], [116, 115, 97], [97, 119, 110], [103, 101]]
def Sta (tS : Nat → Nat) (A : Nat → Prop) (U : State) (H : Heap) : Prop :=
  (sArr "ABOVE" (tS 0) 6 [-1, 0, 0, 1, 2, 0] A U H ∧ sArr "HABIT_LEAST" (tS 1) 5 [0, 0, 1, 0, 0] A U H ∧ sArr "HABIT_MOST" (tS 2) 5 [5, 59, 30, 9, 9] A U H ∧ sArr "WELL_LEAST" (tS 3) 5 [1, 0, 0, 1, 0] A U H ∧ sArr "WELL_MOST" (tS 4) 5 [60, 99, 99, 9, 100] A U H) ∧
  vk_S 6 sLen sByt (fun i => tS (10 + i)) (fun i => tS (20 + i)) A U H ∧ va_Z "java/lang/String" "COMPACT_STRINGS" "Z" (.int 1) A U H ∧ va_Zq "jdk/internal/util/Preconditions" "SIOOBE_FORMATTER" "Ljava/util/function/BiFunction;" A U H
theorem sArr.go {nm : String} {t N : Nat} {vs : List Int32} {A B : Nat → Prop} {u U : State} {H H1 : Heap} (hvm : u.vm.Alike U.vm) (hq : ∀ a : Nat, a < H.size → ¬ A a → H1[a]? = H[a]?) (hAB : ∀ q, B q → A q) (h : sArr nm t N vs A u H) : sArr nm t N vs B U H1 :=
  ⟨((h.1.moved hvm).kept hq).narrow hAB, ((h.2.moved hvm).kept hq).narrow hAB⟩
theorem Sta.go {tS : Nat → Nat} {A B : Nat → Prop} {u U : State} {H H1 : Heap} (hvm : u.vm.Alike U.vm) (hq : ∀ a : Nat, a < H.size → ¬ A a → H1[a]? = H[a]?) (hAB : ∀ q, B q → A q) (h : Sta tS A u H) : Sta tS B U H1 :=
  ⟨⟨h.1.1.go hvm hq hAB, h.1.2.1.go hvm hq hAB, h.1.2.2.1.go hvm hq hAB, h.1.2.2.2.1.go hvm hq hAB, h.1.2.2.2.2.go hvm hq hAB⟩, ((h.2.1.moved hvm).kept hq).narrow hAB, ((h.2.2.1.moved hvm).kept hq).narrow hAB, ((h.2.2.2.moved hvm).kept hq).narrow hAB⟩
theorem Str.same {tS : Nat → Nat} {u U : State} (hv : U.vm = u.vm) (h : Str tS u) : Str tS U :=
  ⟨h.1.same hv, h.2.1.same hv, h.2.2.1.same hv, h.2.2.2.1.same hv, h.2.2.2.2.1.same hv, h.2.2.2.2.2.same hv⟩
theorem Str.warm {tS : Nat → Nat} {s U : State} (hW : s.WarmedH U.vm) (h : Str tS s) : Str tS U :=
  ⟨h.1.warm hW, h.2.1.warm hW, h.2.2.1.warm hW, h.2.2.2.1.warm hW, h.2.2.2.2.1.warm hW, h.2.2.2.2.2.warm hW⟩
abbrev tyl (C : Nat → ClassId) : List (ClassId × FieldType) := [(C 0, .int), (C 1, .object "ShyWell$Comer"), (C 2, .object "ShyWell$Text"), (C 3, .object "ShyWell$Sheet"), (C 4, .object "ShyWell$Slot")]
/-- a contract's start -/
def Pre (E : En) (M : Mm) (sz : Nat) (U : State) : Prop := U.heap.size = sz ∧ va_P (eD E) cls (wd E M) U.heap ∧ va_K (eD E) cls (tyl (eC E)) U ∧ aD (aA E sz) E ∧ Sta (eS E) (aA E sz) U U.heap ∧ Str (eS E) U ∧ Nst U ∧ 94 ≤ eN E ∧ eN E ≤ 1000
def rmD (d : Nat) : Room := { frames := d, cells := 0, slots := 0, locals := 40 * d }
def Ctr (l : Launch) (E : En) (y : MethodName) (cc : ByteArray) (maxL : Nat) (ret : Option FieldType) (d : Nat) (av : List Value) (M : Mm) (Qc : (Nat → Prop) → Array Value → State → Outcome → State → Prop) : Prop :=
  ∀ sz : Nat, Met l y (.code y cc maxL ret :: tbG) (rmD d) (va_Pc av (Pre E M sz)) (Qc (aA E sz)) 0 0 (aA E sz)
abbrev wdB (E : En) (M : Mm) (t : State) : Prop := va_P (eD E) cls (wd E M) t.heap
def QI (E : En) (K : Mm → Int32 → Prop) (A : Nat → Prop) : Array Value → State → Outcome → State → Prop := va_Qi (fun r M => K M r) (wdB E) A
def QV (E : En) (K : Mm → Prop) (A : Nat → Prop) : Array Value → State → Outcome → State → Prop := va_Qv (fun M => K M) (wdB E) A
def QL (E : En) (K : Mm → Int64 → Prop) (A : Nat → Prop) : Array Value → State → Outcome → State → Prop := va_Ql (fun r M => K M r) (wdB E) A
def QQ (E : En) (K : Mm → Option Nat → Prop) (A : Nat → Prop) : Array Value → State → Outcome → State → Prop := va_Qq (fun r (u : Mm × Option Nat) => r = u.2.map (eA E) ∧ K u.1 u.2) (fun u t => wdB E u.1 t) A
/-- an answer that is one of the texts -/
def QT (E : En) (K : Mm → Nat → Prop) (A : Nat → Prop) : Array Value → State → Outcome → State → Prop := va_Qq (fun r (u : Mm × Nat) => r = some (eS E (10 + u.2)) ∧ K u.1 u.2) (fun u t => wdB E u.1 t) A
/-! the walk -/
abbrev Gm : Type := Program × Launch × Env × Room × State × MethodId × Array Value × List Frame × Method × Code × Nat × Nat
abbrev gP (g : Gm) : Program := g.1
abbrev gL (g : Gm) : Launch := g.2.1
abbrev gE (g : Gm) : Env := g.2.2.1
abbrev gR (g : Gm) : Room := g.2.2.2.1
abbrev gS (g : Gm) : State := g.2.2.2.2.1
abbrev gM (g : Gm) : MethodId := g.2.2.2.2.2.1
abbrev gA (g : Gm) : Array Value := g.2.2.2.2.2.2.1
abbrev gB (g : Gm) : List Frame := g.2.2.2.2.2.2.2.1
abbrev gT (g : Gm) : Method := g.2.2.2.2.2.2.2.2.1
abbrev gC (g : Gm) : Code := g.2.2.2.2.2.2.2.2.2.1
abbrev gk (g : Gm) : Nat := g.2.2.2.2.2.2.2.2.2.2.1
abbrev gn (g : Gm) : Nat := g.2.2.2.2.2.2.2.2.2.2.2
abbrev WG (g : Gm) (H : Heap) (locs : List Loc) (Q : State → Prop) (F : JFrame) : Prop := W (gP g) (gL g) (gE g) (gR g) (gS g) (gM g) (gA g) (gB g) (gT g) (gC g) H locs (gk g) (gn g) Q F
def AW (g : Gm) (E : En) (A : Nat → Prop) (nL : Nat) (Q : State → Prop) (pc : Nat) (lv : List (Nat × Value)) (st : List Value) (M : Mm) : Prop :=
  ∀ (H : Heap) (locs : List Loc) (ls : Array Slot), va_P (eD E) cls (wd E M) H → va_S A (gS g).heap H locs → lv_has ls nL lv → WG g H locs Q (F0 (gM g) pc ls st)
def CX (g : Gm) (cc : ByteArray) (own : String) (ret : Option FieldType) (d : Nat) (E : En) (A : Nat → Prop) (nL : Nat) : Prop :=
  (gP g).tables.exec = Jvm.exec ∧ (gC g).code = cc ∧ (gC g).maxLocals = nL ∧ (gS g).vm.findClass own = some (gM g).cls ∧ (∀ w ∈ tbG, w.before (gA g) (gS g) = true) ∧ Nst (gS g) ∧ va_K (eD E) cls (tyl (eC E)) (gS g) ∧ aD A E ∧ Sta (eS E) A (gS g) (gS g).heap ∧ Str (eS E) (gS g) ∧ (94 ≤ eN E ∧ eN E ≤ 1000) ∧ (∀ q, (gS g).heap.size ≤ q → A q) ∧ ((gT g).sig.returnType = ret ∧ (gT g).locks = false) ∧ (d ≤ (gR g).frames ∧ 40 * d ≤ (gR g).locals) ∧ (gk g ≤ (gR g).cells ∧ gn g ≤ (gR g).slots)
section AWX
variable {g : Gm} {cc : ByteArray} {own : String} {ret : Option FieldType} {d : Nat} {E : En} {A : Nat → Prop} {nL : Nat}
theorem CX.hx (X : CX g cc own ret d E A nL) : (gP g).tables.exec = Jvm.exec := X.1
theorem CX.hb (X : CX g cc own ret d E A nL) : (gC g).code = cc := X.2.1
theorem CX.hml (X : CX g cc own ret d E A nL) : (gC g).maxLocals = nL := X.2.2.1
theorem CX.hown (X : CX g cc own ret d E A nL) : (gS g).vm.findClass own = some (gM g).cls := X.2.2.2.1
theorem CX.hts (X : CX g cc own ret d E A nL) : ∀ w ∈ tbG, w.before (gA g) (gS g) = true := X.2.2.2.2.1
theorem CX.nst (X : CX g cc own ret d E A nL) : Nst (gS g) := X.2.2.2.2.2.1
theorem CX.hK (X : CX g cc own ret d E A nL) : va_K (eD E) cls (tyl (eC E)) (gS g) := X.2.2.2.2.2.2.1
theorem CX.aD (X : CX g cc own ret d E A nL) : aD A E := X.2.2.2.2.2.2.2.1
theorem CX.sta (X : CX g cc own ret d E A nL) : Sta (eS E) A (gS g) (gS g).heap := X.2.2.2.2.2.2.2.2.1
theorem CX.str (X : CX g cc own ret d E A nL) : Str (eS E) (gS g) := X.2.2.2.2.2.2.2.2.2.1
theorem CX.lo (X : CX g cc own ret d E A nL) : 94 ≤ eN E := X.2.2.2.2.2.2.2.2.2.2.1.1
theorem CX.hi (X : CX g cc own ret d E A nL) : eN E ≤ 1000 := X.2.2.2.2.2.2.2.2.2.2.1.2
theorem CX.hA (X : CX g cc own ret d E A nL) : ∀ q, (gS g).heap.size ≤ q → A q := X.2.2.2.2.2.2.2.2.2.2.2.1
theorem CX.hr (X : CX g cc own ret d E A nL) : (gT g).sig.returnType = ret := X.2.2.2.2.2.2.2.2.2.2.2.2.1.1
theorem CX.lk (X : CX g cc own ret d E A nL) : (gT g).locks = false := X.2.2.2.2.2.2.2.2.2.2.2.2.1.2
theorem CX.rm (X : CX g cc own ret d E A nL) : d ≤ (gR g).frames ∧ 40 * d ≤ (gR g).locals := X.2.2.2.2.2.2.2.2.2.2.2.2.2.1
theorem CX.cs (X : CX g cc own ret d E A nL) : gk g ≤ (gR g).cells ∧ gn g ≤ (gR g).slots := X.2.2.2.2.2.2.2.2.2.2.2.2.2.2
theorem CX.D (X : CX g cc own ret d E A nL) (M : Mm) : va_D A (wd E M) := X.aD.D M
theorem CX.w (X : CX g cc own ret d E A nL) {w : Cond} (h : w ∈ tbG) : w.before (gA g) (gS g) = true := X.hts w h
theorem CX.nw (X : CX g cc own ret d E A nL) {w : Cond} (h : w ∈ tbN) : va_Nw w (gS g) := X.nst w h
/-- from a contract to the walk of its body -/
theorem Ctr.of {l : Launch} {y : MethodName} {maxL : Nat} {av : List Value} {M : Mm} {Qc : (Nat → Prop) → Array Value → State → Outcome → State → Prop} (hy : plainName y.cls = true) (hlen : (lg_sl av).length ≤ maxL)
    (body : ∀ (g : Gm) (A : Nat → Prop), gL g = l → CX g cc y.cls ret d E A maxL → AW g E A maxL (MQ (gB g) (Qc A) (gA g) (gS g) (gk g) (gn g) A) 0 (lv_args 0 av) [] M) : Ctr l E y cc maxL ret d av M Qc := by
  intro sz
  refine Met.ofW (cc := cc) (maxL := maxL) (ret := ret) hy rfl ?_
  intro p e s m args below meth c s₁ B hml hv
  obtain ⟨rfl, hsz, hP, hK, hD, hSt, hSr, hN, hlo, hhi⟩ := hv
  subst hsz
  have hts := atoms_spec (ws := .code y cc maxL ret :: tbG) B.pre
  have h := body (p, l, e, (headSpec (.code y cc maxL ret :: tbG) (rmD d)).room, s, m, av.toArray, below, meth, c, 0, 0) (aA E s.heap.size) rfl
    ⟨B.exec, B.bytes, hml, findClass_of_methodNamed B.named, fun w hw => hts w (List.mem_cons_of_mem _ hw), hN, hK, hD, hSt, hSr, ⟨hlo, hhi⟩, fun q hq => Or.inr hq, ⟨B.returns, B.notSynchronized⟩, ⟨Nat.le_refl _, Nat.le_refl _⟩, ⟨Nat.zero_le _, Nat.zero_le _⟩⟩
  rw [lg_entry_eq]
  exact h s.heap [] _ hP va_S.rf (lv_entry av hlen)
variable {Q : State → Prop} {pc : Nat} {lv : List (Nat × Value)} {st : List Value} {M : Mm}
/-- fewer locals -/
theorem aw_sub (ks : List Nat) {lv' : List (Nat × Value)} (hl : lv_pick lv ks = lv') (k : AW g E A nL Q pc lv' st M) : AW g E A nL Q pc lv st M := fun H locs ls hP hS h => k H locs ls hP hS (lv_sub h ks hl)
end AWX
end
section
def jrem (x y : Int32) : Int32 := x - x / y * y
section AWR
variable {g : Gm} {cc : ByteArray} {own : String} {ret : Option FieldType} {d : Nat} {E : En} {A : Nat → Prop} {nL : Nat} {Q : State → Prop} {pc : Nat} {lv : List (Nat × Value)} {st : List Value} {M : Mm}
theorem aw_iconst (X : CX g cc own ret d E A nL) {n : Int} {v : Int32} (hd : decode cc pc = .ok (.iconst n, 1)) (hv : Int32.ofInt n = v) (k : AW g E A nL Q (pc + 1) lv (.int v :: st) M) : AW g E A nL Q pc lv st M := fun H locs ls hP hS hl => lv_iconst X.hx X.hb hd hv (k H locs ls hP hS hl)
theorem aw_bipush (X : CX g cc own ret d E A nL) {n : Int} {v : Int32} (hd : decode cc pc = .ok (.bipush n, 2)) (hv : (Int8.ofInt n).toInt32 = v) (k : AW g E A nL Q (pc + 2) lv (.int v :: st) M) : AW g E A nL Q pc lv st M := fun H locs ls hP hS hl => lv_bipush X.hx X.hb hd hv (k H locs ls hP hS hl)
theorem aw_sipush (X : CX g cc own ret d E A nL) {n : Int} {v : Int32} (hd : decode cc pc = .ok (.sipush n, 3)) (hv : (Int16.ofInt n).toInt32 = v) (k : AW g E A nL Q (pc + 3) lv (.int v :: st) M) : AW g E A nL Q pc lv st M := fun H locs ls hP hS hl => lv_sipush X.hx X.hb hd hv (k H locs ls hP hS hl)
theorem aw_ldc (X : CX g cc own ret d E A nL) {index : Nat} {v : Int32} (hd : decode cc pc = .ok (.ldc index, 2)) (hw : Cond.constant own index v ∈ tbG) (k : AW g E A nL Q (pc + 2) lv (.int v :: st) M) : AW g E A nL Q pc lv st M := fun H locs ls hP hS hl => lv_ldc X.hx X.hb X.hown (X.w hw) hd (k H locs ls hP hS hl)
theorem aw_ldc_w (X : CX g cc own ret d E A nL) {index : Nat} {v : Int32} (hd : decode cc pc = .ok (.ldc_w index, 3)) (hw : Cond.constant own index v ∈ tbG) (k : AW g E A nL Q (pc + 3) lv (.int v :: st) M) : AW g E A nL Q pc lv st M := fun H locs ls hP hS hl => lv_ldcw X.hx X.hb X.hown (X.w hw) hd (k H locs ls hP hS hl)
theorem aw_ldc2_w (X : CX g cc own ret d E A nL) {index : Nat} {v : Int64} (hd : decode cc pc = .ok (.ldc2_w index, 3)) (hw : Cond.constantLong own index v ∈ tbG) (k : AW g E A nL Q (pc + 3) lv (.long v :: st) M) : AW g E A nL Q pc lv st M := fun H locs ls hP hS hl => lv_ldc2 X.hx X.hb X.hown (X.w hw) hd (k H locs ls hP hS hl)
theorem aw_lconst (X : CX g cc own ret d E A nL) {n : Fin 2} {v : Int64} (hd : decode cc pc = .ok (.lconst n, 1)) (hv : Int64.ofNat (n : Nat) = v) (k : AW g E A nL Q (pc + 1) lv (.long v :: st) M) : AW g E A nL Q pc lv st M := fun H locs ls hP hS hl => lv_lconst X.hx X.hb hd hv (k H locs ls hP hS hl)
theorem aw_null (X : CX g cc own ret d E A nL)  (hd : decode cc pc = .ok (.aconst_null, 1)) (k : AW g E A nL Q (pc + 1) lv (.null :: st) M) : AW g E A nL Q pc lv st M := fun H locs ls hP hS hl => lv_null X.hx X.hb hd (k H locs ls hP hS hl)
theorem aw_iload_n (X : CX g cc own ret d E A nL) {i : Fin 4} {x : Int32} (hd : decode cc pc = .ok (.iload_n i, 1)) (j : Nat) (hj : lv[j]? = some (i.val, .int x)) (k : AW g E A nL Q (pc + 1) lv (.int x :: st) M) : AW g E A nL Q pc lv st M := fun H locs ls hP hS hl => lv_iload_n X.hx X.hb hd rfl (lv_at hl j hj) (k H locs ls hP hS hl)
theorem aw_iload (X : CX g cc own ret d E A nL) {i : Nat} {x : Int32} (hd : decode cc pc = .ok (.iload i, 2)) (j : Nat) (hj : lv[j]? = some (i, .int x)) (k : AW g E A nL Q (pc + 2) lv (.int x :: st) M) : AW g E A nL Q pc lv st M := fun H locs ls hP hS hl => lv_iload X.hx X.hb hd (lv_at hl j hj) (k H locs ls hP hS hl)
theorem aw_lload_n (X : CX g cc own ret d E A nL) {i : Fin 4} {x : Int64} (hd : decode cc pc = .ok (.lload_n i, 1)) (j : Nat) (hj : lv[j]? = some (i.val, .long x)) (k : AW g E A nL Q (pc + 1) lv (.long x :: st) M) : AW g E A nL Q pc lv st M := fun H locs ls hP hS hl => lv_lload_n X.hx X.hb hd rfl (lv_at hl j hj) (k H locs ls hP hS hl)
theorem aw_lload (X : CX g cc own ret d E A nL) {i : Nat} {x : Int64} (hd : decode cc pc = .ok (.lload i, 2)) (j : Nat) (hj : lv[j]? = some (i, .long x)) (k : AW g E A nL Q (pc + 2) lv (.long x :: st) M) : AW g E A nL Q pc lv st M := fun H locs ls hP hS hl => lv_lload X.hx X.hb hd (lv_at hl j hj) (k H locs ls hP hS hl)
theorem aw_aload_n (X : CX g cc own ret d E A nL) {i : Fin 4} {x : Nat} (hd : decode cc pc = .ok (.aload_n i, 1)) (j : Nat) (hj : lv[j]? = some (i.val, .ref x)) (k : AW g E A nL Q (pc + 1) lv (.ref x :: st) M) : AW g E A nL Q pc lv st M := fun H locs ls hP hS hl => lv_aload_n X.hx X.hb hd rfl (lv_at hl j hj) (k H locs ls hP hS hl)
theorem aw_aload (X : CX g cc own ret d E A nL) {i : Nat} {x : Nat} (hd : decode cc pc = .ok (.aload i, 2)) (j : Nat) (hj : lv[j]? = some (i, .ref x)) (k : AW g E A nL Q (pc + 2) lv (.ref x :: st) M) : AW g E A nL Q pc lv st M := fun H locs ls hP hS hl => lv_aload X.hx X.hb hd (lv_at hl j hj) (k H locs ls hP hS hl)
theorem aw_aload_nN (X : CX g cc own ret d E A nL) {i : Fin 4} (hd : decode cc pc = .ok (.aload_n i, 1)) (j : Nat) (hj : lv[j]? = some (i.val, .null)) (k : AW g E A nL Q (pc + 1) lv (.null :: st) M) : AW g E A nL Q pc lv st M := fun H locs ls hP hS hl => lv_aload_nN X.hx X.hb hd rfl (lv_at hl j hj) (k H locs ls hP hS hl)
theorem aw_aloadN (X : CX g cc own ret d E A nL) {i : Nat} (hd : decode cc pc = .ok (.aload i, 2)) (j : Nat) (hj : lv[j]? = some (i, .null)) (k : AW g E A nL Q (pc + 2) lv (.null :: st) M) : AW g E A nL Q pc lv st M := fun H locs ls hP hS hl => lv_aloadN X.hx X.hb hd (lv_at hl j hj) (k H locs ls hP hS hl)
theorem aw_istore_n (X : CX g cc own ret d E A nL) {i : Fin 4} {x : Int32} {lv' : List (Nat × Value)} (hd : decode cc pc = .ok (.istore_n i, 1)) (hn : i.val < nL) (hl : (i.val, Value.int x) :: lv.filter (fun q => !(q.1 == i.val) && !(q.1 + 1 == i.val && q.2.category == 2)) = lv') (k : AW g E A nL Q (pc + 1) lv' st M) : AW g E A nL Q pc lv (Value.int x :: st) M := fun H locs ls hP hS h => lv_istore_n X.hx X.hb hd rfl h hn hl (fun ls' h' => k H locs ls' hP hS h')
theorem aw_istore (X : CX g cc own ret d E A nL) {i : Nat} {x : Int32} {lv' : List (Nat × Value)} (hd : decode cc pc = .ok (.istore i, 2)) (hn : i < nL) (hl : (i, Value.int x) :: lv.filter (fun q => !(q.1 == i) && !(q.1 + 1 == i && q.2.category == 2)) = lv') (k : AW g E A nL Q (pc + 2) lv' st M) : AW g E A nL Q pc lv (Value.int x :: st) M := fun H locs ls hP hS h => lv_istore X.hx X.hb hd h hn hl (fun ls' h' => k H locs ls' hP hS h')
theorem aw_lstore_n (X : CX g cc own ret d E A nL) {i : Fin 4} {x : Int64} {lv' : List (Nat × Value)} (hd : decode cc pc = .ok (.lstore_n i, 1)) (hn : i.val + 1 < nL) (hl : (i.val, Value.long x) :: lv.filter (fun q => !(q.1 == i.val) && (!(q.1 == i.val + 1) && !(q.1 + 1 == i.val && q.2.category == 2))) = lv') (k : AW g E A nL Q (pc + 1) lv' st M) : AW g E A nL Q pc lv (Value.long x :: st) M := fun H locs ls hP hS h => lv_lstore_n X.hx X.hb hd rfl h hn hl (fun ls' h' => k H locs ls' hP hS h')
theorem aw_lstore (X : CX g cc own ret d E A nL) {i : Nat} {x : Int64} {lv' : List (Nat × Value)} (hd : decode cc pc = .ok (.lstore i, 2)) (hn : i + 1 < nL) (hl : (i, Value.long x) :: lv.filter (fun q => !(q.1 == i) && (!(q.1 == i + 1) && !(q.1 + 1 == i && q.2.category == 2))) = lv') (k : AW g E A nL Q (pc + 2) lv' st M) : AW g E A nL Q pc lv (Value.long x :: st) M := fun H locs ls hP hS h => lv_lstore X.hx X.hb hd h hn hl (fun ls' h' => k H locs ls' hP hS h')
theorem aw_astore_n (X : CX g cc own ret d E A nL) {i : Fin 4} {x : Nat} {lv' : List (Nat × Value)} (hd : decode cc pc = .ok (.astore_n i, 1)) (hn : i.val < nL) (hl : (i.val, Value.ref x) :: lv.filter (fun q => !(q.1 == i.val) && !(q.1 + 1 == i.val && q.2.category == 2)) = lv') (k : AW g E A nL Q (pc + 1) lv' st M) : AW g E A nL Q pc lv (Value.ref x :: st) M := fun H locs ls hP hS h => lv_astore_n X.hx X.hb hd rfl h hn hl (fun ls' h' => k H locs ls' hP hS h')
theorem aw_astore (X : CX g cc own ret d E A nL) {i : Nat} {x : Nat} {lv' : List (Nat × Value)} (hd : decode cc pc = .ok (.astore i, 2)) (hn : i < nL) (hl : (i, Value.ref x) :: lv.filter (fun q => !(q.1 == i) && !(q.1 + 1 == i && q.2.category == 2)) = lv') (k : AW g E A nL Q (pc + 2) lv' st M) : AW g E A nL Q pc lv (Value.ref x :: st) M := fun H locs ls hP hS h => lv_astore X.hx X.hb hd h hn hl (fun ls' h' => k H locs ls' hP hS h')
theorem aw_astore_nN (X : CX g cc own ret d E A nL) {i : Fin 4}  {lv' : List (Nat × Value)} (hd : decode cc pc = .ok (.astore_n i, 1)) (hn : i.val < nL) (hl : (i.val, Value.null) :: lv.filter (fun q => !(q.1 == i.val) && !(q.1 + 1 == i.val && q.2.category == 2)) = lv') (k : AW g E A nL Q (pc + 1) lv' st M) : AW g E A nL Q pc lv (Value.null :: st) M := fun H locs ls hP hS h => lv_astore_nN X.hx X.hb hd rfl h hn hl (fun ls' h' => k H locs ls' hP hS h')
theorem aw_astoreN (X : CX g cc own ret d E A nL) {i : Nat}  {lv' : List (Nat × Value)} (hd : decode cc pc = .ok (.astore i, 2)) (hn : i < nL) (hl : (i, Value.null) :: lv.filter (fun q => !(q.1 == i) && !(q.1 + 1 == i && q.2.category == 2)) = lv') (k : AW g E A nL Q (pc + 2) lv' st M) : AW g E A nL Q pc lv (Value.null :: st) M := fun H locs ls hP hS h => lv_astoreN X.hx X.hb hd h hn hl (fun ls' h' => k H locs ls' hP hS h')
theorem aw_iinc (X : CX g cc own ret d E A nL) {i : Nat} {n : Int} {x v : Int32} {lv' : List (Nat × Value)} (hd : decode cc pc = .ok (.iinc i n, 3)) (j : Nat) (hj : lv[j]? = some (i, .int x)) (hv : x + Int32.ofInt n = v) (hn : i < nL) (hl : (i, Value.int v) :: lv.filter (fun q => !(q.1 == i) && !(q.1 + 1 == i && q.2.category == 2)) = lv') (k : AW g E A nL Q (pc + 3) lv' st M) : AW g E A nL Q pc lv st M := fun H locs ls hP hS h => lv_iinc X.hx X.hb hd h hj hv hn hl (fun ls' h' => k H locs ls' hP hS h')
theorem aw_iadd (X : CX g cc own ret d E A nL) {x y : Int32} (hd : decode cc pc = .ok (.iadd, 1)) (k : AW g E A nL Q (pc + 1) lv (.int (x + y) :: st) M) : AW g E A nL Q pc lv (.int y :: .int x :: st) M := fun H locs ls hP hS hl => lv_iadd X.hx X.hb hd (k H locs ls hP hS hl)
theorem aw_isub (X : CX g cc own ret d E A nL) {x y : Int32} (hd : decode cc pc = .ok (.isub, 1)) (k : AW g E A nL Q (pc + 1) lv (.int (x - y) :: st) M) : AW g E A nL Q pc lv (.int y :: .int x :: st) M := fun H locs ls hP hS hl => lv_isub X.hx X.hb hd (k H locs ls hP hS hl)
theorem aw_imul (X : CX g cc own ret d E A nL) {x y : Int32} (hd : decode cc pc = .ok (.imul, 1)) (k : AW g E A nL Q (pc + 1) lv (.int (x * y) :: st) M) : AW g E A nL Q pc lv (.int y :: .int x :: st) M := fun H locs ls hP hS hl => lv_imul X.hx X.hb hd (k H locs ls hP hS hl)
theorem aw_iand (X : CX g cc own ret d E A nL) {x y : Int32} (hd : decode cc pc = .ok (.iand, 1)) (k : AW g E A nL Q (pc + 1) lv (.int (x &&& y) :: st) M) : AW g E A nL Q pc lv (.int y :: .int x :: st) M := fun H locs ls hP hS hl => lv_iand X.hx X.hb hd (k H locs ls hP hS hl)
theorem aw_ishl (X : CX g cc own ret d E A nL) {x y : Int32} (hd : decode cc pc = .ok (.ishl, 1)) (k : AW g E A nL Q (pc + 1) lv (.int (x <<< (y &&& 31)) :: st) M) : AW g E A nL Q pc lv (.int y :: .int x :: st) M := fun H locs ls hP hS hl => lv_ishl X.hx X.hb hd (k H locs ls hP hS hl)
theorem aw_ishr (X : CX g cc own ret d E A nL) {x y : Int32} (hd : decode cc pc = .ok (.ishr, 1)) (k : AW g E A nL Q (pc + 1) lv (.int (x >>> (y &&& 31)) :: st) M) : AW g E A nL Q pc lv (.int y :: .int x :: st) M := fun H locs ls hP hS hl => lv_ishr X.hx X.hb hd (k H locs ls hP hS hl)
theorem aw_iushr (X : CX g cc own ret d E A nL) {x y v : Int32} (hd : decode cc pc = .ok (.iushr, 1)) (hv : (x.toUInt32 >>> (y.toUInt32 &&& Int32.toUInt32 31)).toInt32 = v) (k : AW g E A nL Q (pc + 1) lv (.int v :: st) M) : AW g E A nL Q pc lv (.int y :: .int x :: st) M := fun H locs ls hP hS hl => lv_iushr X.hx X.hb hd hv (k H locs ls hP hS hl)
theorem aw_idiv (X : CX g cc own ret d E A nL) {x y : Int32} (hd : decode cc pc = .ok (.idiv, 1)) (hne : ¬ y = 0) (k : AW g E A nL Q (pc + 1) lv (.int (x / y) :: st) M) : AW g E A nL Q pc lv (.int y :: .int x :: st) M := fun H locs ls hP hS hl => lv_idiv X.hx X.hb hd hne (k H locs ls hP hS hl)
theorem aw_irem (X : CX g cc own ret d E A nL) {x y : Int32} (hd : decode cc pc = .ok (.irem, 1)) (hne : ¬ y = 0) (k : AW g E A nL Q (pc + 1) lv (.int (jrem x y) :: st) M) : AW g E A nL Q pc lv (.int y :: .int x :: st) M := fun H locs ls hP hS hl => lv_irem X.hx X.hb hd hne (k H locs ls hP hS hl)
theorem aw_ineg (X : CX g cc own ret d E A nL) {x : Int32} (hd : decode cc pc = .ok (.ineg, 1)) (k : AW g E A nL Q (pc + 1) lv (.int (-x) :: st) M) : AW g E A nL Q pc lv (.int x :: st) M := fun H locs ls hP hS hl => lv_ineg X.hx X.hb hd (k H locs ls hP hS hl)
theorem aw_ladd (X : CX g cc own ret d E A nL) {x y : Int64} (hd : decode cc pc = .ok (.ladd, 1)) (k : AW g E A nL Q (pc + 1) lv (.long (x + y) :: st) M) : AW g E A nL Q pc lv (.long y :: .long x :: st) M := fun H locs ls hP hS hl => lv_ladd X.hx X.hb hd (k H locs ls hP hS hl)
theorem aw_ldiv (X : CX g cc own ret d E A nL) {x y : Int64} (hd : decode cc pc = .ok (.ldiv, 1)) (hne : ¬ y = 0) (k : AW g E A nL Q (pc + 1) lv (.long (x / y) :: st) M) : AW g E A nL Q pc lv (.long y :: .long x :: st) M := fun H locs ls hP hS hl => lv_ldiv X.hx X.hb hd hne (k H locs ls hP hS hl)
theorem aw_lrem (X : CX g cc own ret d E A nL) {x y : Int64} (hd : decode cc pc = .ok (.lrem, 1)) (hne : ¬ y = 0) (k : AW g E A nL Q (pc + 1) lv (.long (x - x / y * y) :: st) M) : AW g E A nL Q pc lv (.long y :: .long x :: st) M := fun H locs ls hP hS hl => lv_lrem X.hx X.hb hd hne (k H locs ls hP hS hl)
theorem aw_lcmp (X : CX g cc own ret d E A nL) {x y : Int64} (hd : decode cc pc = .ok (.lcmp, 1)) (k : AW g E A nL Q (pc + 1) lv (.int (lg_cmp x y) :: st) M) : AW g E A nL Q pc lv (.long y :: .long x :: st) M := fun H locs ls hP hS hl => W.lcmp X.hx X.hb hd (k H locs ls hP hS hl)
theorem aw_i2l (X : CX g cc own ret d E A nL) {x : Int32} (hd : decode cc pc = .ok (.i2l, 1)) (k : AW g E A nL Q (pc + 1) lv (.long x.toInt64 :: st) M) : AW g E A nL Q pc lv (.int x :: st) M := fun H locs ls hP hS hl => lv_i2l X.hx X.hb hd rfl (k H locs ls hP hS hl)
theorem aw_l2i (X : CX g cc own ret d E A nL) {x : Int64} (hd : decode cc pc = .ok (.l2i, 1)) (k : AW g E A nL Q (pc + 1) lv (.int x.toInt32 :: st) M) : AW g E A nL Q pc lv (.long x :: st) M := fun H locs ls hP hS hl => lv_l2i X.hx X.hb hd rfl (k H locs ls hP hS hl)
theorem aw_i2s (X : CX g cc own ret d E A nL) {x : Int32} (hd : decode cc pc = .ok (.i2s, 1)) (k : AW g E A nL Q (pc + 1) lv (.int x.toInt16.toInt32 :: st) M) : AW g E A nL Q pc lv (.int x :: st) M := fun H locs ls hP hS hl => lv_i2s X.hx X.hb hd rfl (k H locs ls hP hS hl)
theorem aw_i2c (X : CX g cc own ret d E A nL) {x : Int32} (hd : decode cc pc = .ok (.i2c, 1)) (k : AW g E A nL Q (pc + 1) lv (.int (x.toUInt32 % 65536).toInt32 :: st) M) : AW g E A nL Q pc lv (.int x :: st) M := fun H locs ls hP hS hl => lv_i2c X.hx X.hb hd rfl (k H locs ls hP hS hl)
theorem aw_dup (X : CX g cc own ret d E A nL) {v : Value} (hd : decode cc pc = .ok (.dup, 1)) (hv : v.category = 1) (k : AW g E A nL Q (pc + 1) lv (v :: v :: st) M) : AW g E A nL Q pc lv (v :: st) M := fun H locs ls hP hS hl => lv_dup X.hx X.hb hd hv (k H locs ls hP hS hl)
theorem aw_pop (X : CX g cc own ret d E A nL) {v : Value} (hd : decode cc pc = .ok (.pop, 1)) (hv : v.category = 1) (k : AW g E A nL Q (pc + 1) lv st M) : AW g E A nL Q pc lv (v :: st) M := fun H locs ls hP hS hl => lv_pop X.hx X.hb hd hv (k H locs ls hP hS hl)
theorem aw_dup_x1 (X : CX g cc own ret d E A nL) {v w : Value} (hd : decode cc pc = .ok (.dup_x1, 1)) (hv : v.category = 1) (hw : w.category = 1) (k : AW g E A nL Q (pc + 1) lv (v :: w :: v :: st) M) : AW g E A nL Q pc lv (v :: w :: st) M := fun H locs ls hP hS hl => lv_dup_x1 X.hx X.hb hd hv hw (k H locs ls hP hS hl)
theorem aw_dup2 (X : CX g cc own ret d E A nL) {v w : Value} (hd : decode cc pc = .ok (.dup2, 1)) (hv : v.category = 1) (hw : w.category = 1) (k : AW g E A nL Q (pc + 1) lv (v :: w :: v :: w :: st) M) : AW g E A nL Q pc lv (v :: w :: st) M := fun H locs ls hP hS hl => lv_dup2_11 X.hx X.hb hd hv hw (k H locs ls hP hS hl)
theorem aw_icmp_eq (X : CX g cc own ret d E A nL) {x y : Int32} {off : Int} {tgt : Nat} (hd : decode cc pc = .ok (.if_icmp .eq off, 3)) (ht : (pc : Int) + off = (tgt : Int)) (kt : x = y → AW g E A nL Q tgt lv st M) (kf : ¬ x = y → AW g E A nL Q (pc + 3) lv st M) : AW g E A nL Q pc lv (.int y :: .int x :: st) M := fun H locs ls hP hS hl => lv_icmp_eq X.hx X.hb hd ht (fun c => kt c H locs ls hP hS hl) (fun c => kf c H locs ls hP hS hl)
theorem aw_if_eq (X : CX g cc own ret d E A nL) {x : Int32} {off : Int} {tgt : Nat} (hd : decode cc pc = .ok (.ifCond .eq off, 3)) (ht : (pc : Int) + off = (tgt : Int)) (kt : x = 0 → AW g E A nL Q tgt lv st M) (kf : ¬ x = 0 → AW g E A nL Q (pc + 3) lv st M) : AW g E A nL Q pc lv (.int x :: st) M := fun H locs ls hP hS hl => lv_if_eq X.hx X.hb hd ht (fun c => kt c H locs ls hP hS hl) (fun c => kf c H locs ls hP hS hl)
theorem aw_icmp_ne (X : CX g cc own ret d E A nL) {x y : Int32} {off : Int} {tgt : Nat} (hd : decode cc pc = .ok (.if_icmp .ne off, 3)) (ht : (pc : Int) + off = (tgt : Int)) (kt : ¬ x = y → AW g E A nL Q tgt lv st M) (kf : x = y → AW g E A nL Q (pc + 3) lv st M) : AW g E A nL Q pc lv (.int y :: .int x :: st) M := fun H locs ls hP hS hl => lv_icmp_ne X.hx X.hb hd ht (fun c => kt c H locs ls hP hS hl) (fun c => kf c H locs ls hP hS hl)
theorem aw_if_ne (X : CX g cc own ret d E A nL) {x : Int32} {off : Int} {tgt : Nat} (hd : decode cc pc = .ok (.ifCond .ne off, 3)) (ht : (pc : Int) + off = (tgt : Int)) (kt : ¬ x = 0 → AW g E A nL Q tgt lv st M) (kf : x = 0 → AW g E A nL Q (pc + 3) lv st M) : AW g E A nL Q pc lv (.int x :: st) M := fun H locs ls hP hS hl => lv_if_ne X.hx X.hb hd ht (fun c => kt c H locs ls hP hS hl) (fun c => kf c H locs ls hP hS hl)
theorem aw_icmp_lt (X : CX g cc own ret d E A nL) {x y : Int32} {off : Int} {tgt : Nat} (hd : decode cc pc = .ok (.if_icmp .lt off, 3)) (ht : (pc : Int) + off = (tgt : Int)) (kt : x < y → AW g E A nL Q tgt lv st M) (kf : ¬ x < y → AW g E A nL Q (pc + 3) lv st M) : AW g E A nL Q pc lv (.int y :: .int x :: st) M := fun H locs ls hP hS hl => lv_icmp_lt X.hx X.hb hd ht (fun c => kt c H locs ls hP hS hl) (fun c => kf c H locs ls hP hS hl)
theorem aw_if_lt (X : CX g cc own ret d E A nL) {x : Int32} {off : Int} {tgt : Nat} (hd : decode cc pc = .ok (.ifCond .lt off, 3)) (ht : (pc : Int) + off = (tgt : Int)) (kt : x < 0 → AW g E A nL Q tgt lv st M) (kf : ¬ x < 0 → AW g E A nL Q (pc + 3) lv st M) : AW g E A nL Q pc lv (.int x :: st) M := fun H locs ls hP hS hl => lv_if_lt X.hx X.hb hd ht (fun c => kt c H locs ls hP hS hl) (fun c => kf c H locs ls hP hS hl)
theorem aw_icmp_ge (X : CX g cc own ret d E A nL) {x y : Int32} {off : Int} {tgt : Nat} (hd : decode cc pc = .ok (.if_icmp .ge off, 3)) (ht : (pc : Int) + off = (tgt : Int)) (kt : y ≤ x → AW g E A nL Q tgt lv st M) (kf : ¬ y ≤ x → AW g E A nL Q (pc + 3) lv st M) : AW g E A nL Q pc lv (.int y :: .int x :: st) M := fun H locs ls hP hS hl => lv_icmp_ge X.hx X.hb hd ht (fun c => kt c H locs ls hP hS hl) (fun c => kf c H locs ls hP hS hl)
theorem aw_if_ge (X : CX g cc own ret d E A nL) {x : Int32} {off : Int} {tgt : Nat} (hd : decode cc pc = .ok (.ifCond .ge off, 3)) (ht : (pc : Int) + off = (tgt : Int)) (kt : 0 ≤ x → AW g E A nL Q tgt lv st M) (kf : ¬ 0 ≤ x → AW g E A nL Q (pc + 3) lv st M) : AW g E A nL Q pc lv (.int x :: st) M := fun H locs ls hP hS hl => lv_if_ge X.hx X.hb hd ht (fun c => kt c H locs ls hP hS hl) (fun c => kf c H locs ls hP hS hl)
theorem aw_icmp_gt (X : CX g cc own ret d E A nL) {x y : Int32} {off : Int} {tgt : Nat} (hd : decode cc pc = .ok (.if_icmp .gt off, 3)) (ht : (pc : Int) + off = (tgt : Int)) (kt : y < x → AW g E A nL Q tgt lv st M) (kf : ¬ y < x → AW g E A nL Q (pc + 3) lv st M) : AW g E A nL Q pc lv (.int y :: .int x :: st) M := fun H locs ls hP hS hl => lv_icmp_gt X.hx X.hb hd ht (fun c => kt c H locs ls hP hS hl) (fun c => kf c H locs ls hP hS hl)
theorem aw_if_gt (X : CX g cc own ret d E A nL) {x : Int32} {off : Int} {tgt : Nat} (hd : decode cc pc = .ok (.ifCond .gt off, 3)) (ht : (pc : Int) + off = (tgt : Int)) (kt : 0 < x → AW g E A nL Q tgt lv st M) (kf : ¬ 0 < x → AW g E A nL Q (pc + 3) lv st M) : AW g E A nL Q pc lv (.int x :: st) M := fun H locs ls hP hS hl => lv_if_gt X.hx X.hb hd ht (fun c => kt c H locs ls hP hS hl) (fun c => kf c H locs ls hP hS hl)
theorem aw_icmp_le (X : CX g cc own ret d E A nL) {x y : Int32} {off : Int} {tgt : Nat} (hd : decode cc pc = .ok (.if_icmp .le off, 3)) (ht : (pc : Int) + off = (tgt : Int)) (kt : x ≤ y → AW g E A nL Q tgt lv st M) (kf : ¬ x ≤ y → AW g E A nL Q (pc + 3) lv st M) : AW g E A nL Q pc lv (.int y :: .int x :: st) M := fun H locs ls hP hS hl => lv_icmp_le X.hx X.hb hd ht (fun c => kt c H locs ls hP hS hl) (fun c => kf c H locs ls hP hS hl)
theorem aw_if_le (X : CX g cc own ret d E A nL) {x : Int32} {off : Int} {tgt : Nat} (hd : decode cc pc = .ok (.ifCond .le off, 3)) (ht : (pc : Int) + off = (tgt : Int)) (kt : x ≤ 0 → AW g E A nL Q tgt lv st M) (kf : ¬ x ≤ 0 → AW g E A nL Q (pc + 3) lv st M) : AW g E A nL Q pc lv (.int x :: st) M := fun H locs ls hP hS hl => lv_if_le X.hx X.hb hd ht (fun c => kt c H locs ls hP hS hl) (fun c => kf c H locs ls hP hS hl)
theorem aw_goto (X : CX g cc own ret d E A nL) {off : Int} {tgt : Nat} (hd : decode cc pc = .ok (.goto off, 3)) (ht : (pc : Int) + off = (tgt : Int)) (k : AW g E A nL Q tgt lv st M) : AW g E A nL Q pc lv st M := fun H locs ls hP hS hl => lv_goto X.hx X.hb hd ht (k H locs ls hP hS hl)
theorem aw_ifnull (X : CX g cc own ret d E A nL) {x : Nat} {off : Int} (hd : decode cc pc = .ok (.ifnull off, 3)) (k : AW g E A nL Q (pc + 3) lv st M) : AW g E A nL Q pc lv (.ref x :: st) M := fun H locs ls hP hS hl => lv_ifnull X.hx X.hb hd (k H locs ls hP hS hl)
theorem aw_ifnullN (X : CX g cc own ret d E A nL) {off : Int} {tgt : Nat} (hd : decode cc pc = .ok (.ifnull off, 3)) (ht : (pc : Int) + off = (tgt : Int)) (k : AW g E A nL Q tgt lv st M) : AW g E A nL Q pc lv (.null :: st) M := fun H locs ls hP hS hl => lv_ifnullN X.hx X.hb hd ht (k H locs ls hP hS hl)
theorem aw_ifnonnull (X : CX g cc own ret d E A nL) {x : Nat} {off : Int} {tgt : Nat} (hd : decode cc pc = .ok (.ifnonnull off, 3)) (ht : (pc : Int) + off = (tgt : Int)) (k : AW g E A nL Q tgt lv st M) : AW g E A nL Q pc lv (.ref x :: st) M := fun H locs ls hP hS hl => lv_ifnonnull X.hx X.hb hd ht (k H locs ls hP hS hl)
theorem aw_ifnonnullN (X : CX g cc own ret d E A nL) {off : Int} (hd : decode cc pc = .ok (.ifnonnull off, 3)) (k : AW g E A nL Q (pc + 3) lv st M) : AW g E A nL Q pc lv (.null :: st) M := fun H locs ls hP hS hl => lv_ifnonnullN X.hx X.hb hd (k H locs ls hP hS hl)
theorem aw_tableIn (X : CX g cc own ret d E A nL) {dflt lo hi : Int} {offs : Array Int} {len : Nat} {x : Int32} {off : Int} {tgt : Nat} (hd : decode cc pc = .ok (.tableswitch dflt lo hi offs, len)) (v : Int32) (hxv : x = v) (h1 : ¬ v.toInt < lo) (h2 : ¬ hi < v.toInt) (ho : offs[(v.toInt - lo).toNat]? = some off) (ht : (pc : Int) + off = (tgt : Int)) (k : AW g E A nL Q tgt lv st M) : AW g E A nL Q pc lv (.int x :: st) M := fun H locs ls hP hS hl => lv_tableIn X.hx X.hb hd (by rw [hxv]; exact h1) (by rw [hxv]; exact h2) (by rw [hxv]; exact ho) ht (k H locs ls hP hS hl)
theorem aw_tableOut (X : CX g cc own ret d E A nL) {dflt lo hi : Int} {offs : Array Int} {len : Nat} {x : Int32} {tgt : Nat} (hd : decode cc pc = .ok (.tableswitch dflt lo hi offs, len)) (h : x.toInt < lo ∨ hi < x.toInt) (ht : (pc : Int) + dflt = (tgt : Int)) (k : AW g E A nL Q tgt lv st M) : AW g E A nL Q pc lv (.int x :: st) M := fun H locs ls hP hS hl => lv_tableOut X.hx X.hb hd h ht (k H locs ls hP hS hl)
theorem aw_lookup (X : CX g cc own ret d E A nL) {dflt : Int} {ps : Array (Int × Int)} {len : Nat} {x : Int32} {off : Int} {tgt : Nat} (hd : decode cc pc = .ok (.lookupswitch dflt ps, len)) (hp : (ps.toList.zip (ps.toList.drop 1)).all (fun (a, next) => a.1 < next.1) = true) (ho : Op.lookupswitch.offset ps.toList dflt x.toInt = off) (ht : (pc : Int) + off = (tgt : Int)) (k : AW g E A nL Q tgt lv st M) : AW g E A nL Q pc lv (.int x :: st) M := fun H locs ls hP hS hl => lv_lookup X.hx X.hb hd hp ho ht (k H locs ls hP hS hl)
theorem aw_get (X : CX g cc own ret d E A nL) {i ci index N k : Nat} {C ref : String} {T : u_T} {fs : List Value} {v : Value} (hd : decode cc pc = .ok (.getfield index, 3)) (hi : i < eN E) (hs : sh E i (M i) = .inr (ci, fs)) (hc : cls[ci]? = some (C, T, N)) (hin : ∀ w ∈ u_ws C T N, w ∈ tbG) (hk : k < N) (hw : Cond.fieldLink own index ref (T k).2.1 (T k).2.2.1 ∈ tbG) (href : (T k).1 = ref) (hv : fs[k]? = some v) (kk : AW g E A nL Q (pc + 3) lv (v :: st) M) : AW g E A nL Q pc lv (.ref (eA E i) :: st) M := fun H locs ls hP hS hl => va_get (D := eD E) X.hx X.hb X.hts hin X.hown X.hK hP i (wd_at hi hs) hc k hk (X.w hw) (fun _ h => by rw [← href]; exact h) hv hd (kk H locs ls hP hS hl)
theorem aw_getN (X : CX g cc own ret d E A nL) {i ci index N k : Nat} {C ref host : String} {T : u_T} {fs : List Value} {v : Value} (hd : decode cc pc = .ok (.getfield index, 3)) (hi : i < eN E) (hs : sh E i (M i) = .inr (ci, fs)) (hc : cls[ci]? = some (C, T, N)) (hin : ∀ w ∈ u_ws C T N, w ∈ tbG) (hk : k < N) (hw : Cond.fieldLinkNest own index ref (T k).2.1 (T k).2.2.1 host ∈ tbN) (href : (T k).1 = ref) (hv : fs[k]? = some v) (kk : AW g E A nL Q (pc + 3) lv (v :: st) M) : AW g E A nL Q pc lv (.ref (eA E i) :: st) M := fun H locs ls hP hS hl => va_getN (D := eD E) X.hx X.hb X.hts hin X.hown X.hK hP i (wd_at hi hs) hc k hk (va_Nw.use rfl (X.nw hw)) (fun _ h => by rw [← href]; exact h) hv hd (kk H locs ls hP hS hl)
theorem aw_put (X : CX g cc own ret d E A nL) {i ci index N k : Nat} {C ref : String} {T : u_T} {fs : List Value} {x : Int32} {ty : FieldType} (hd : decode cc pc = .ok (.putfield index, 3)) (hi : i < eN E) (hs : sh E i (M i) = .inr (ci, fs)) (hc : cls[ci]? = some (C, T, N)) (hin : ∀ w ∈ u_ws C T N, w ∈ tbG) (ty0 : Nat → FieldType) (hty : ∀ k, k < N → parseFieldDescriptor (T k).2.2.1 = some (ty0 k)) (hnm : ∀ a, a < N → ∀ b, b < N → a ≠ b → (T a).2.1 ≠ (T b).2.1) (hk : k < N) (hw : Cond.fieldLink own index ref (T k).2.1 (T k).2.2.1 ∈ tbG) (href : (T k).1 = ref) (hfin : (T k).2.2.2 = false) (hdsc : parseFieldDescriptor (T k).2.2.1 = some ty) (hn : narrow ty (.int x) = .int x) (hfit : fits ty (.int x) = true) (hl : k < fs.length) (hs2 : sh E i (upd (M i) k x) = .inr (ci, fs.set k (.int x))) (kk : AW g E A nL Q (pc + 3) lv st (wr M i k x)) : AW g E A nL Q pc lv (.int x :: .ref (eA E i) :: st) M := fun H locs ls hP hS h => va_put (D := eD E) X.hx X.hb X.hts hin ty0 hty hnm X.hown X.hK hP (X.D M) hS i (wd_at hi hs) hc k hk (X.w hw) (fun _ h => by rw [← href]; exact h) hfin hdsc hn hfit hl hd (fun H1 l1 hP1 _ hS1 => kk H1 l1 ls (by rw [wd_set hi hs2] at hP1; exact hP1) hS1 h)
theorem aw_putN (X : CX g cc own ret d E A nL) {i ci index N k : Nat} {C ref host : String} {T : u_T} {fs : List Value} {x : Int32} {ty : FieldType} (hd : decode cc pc = .ok (.putfield index, 3)) (hi : i < eN E) (hs : sh E i (M i) = .inr (ci, fs)) (hc : cls[ci]? = some (C, T, N)) (hin : ∀ w ∈ u_ws C T N, w ∈ tbG) (ty0 : Nat → FieldType) (hty : ∀ k, k < N → parseFieldDescriptor (T k).2.2.1 = some (ty0 k)) (hnm : ∀ a, a < N → ∀ b, b < N → a ≠ b → (T a).2.1 ≠ (T b).2.1) (hk : k < N) (hw : Cond.fieldLinkNest own index ref (T k).2.1 (T k).2.2.1 host ∈ tbN) (href : (T k).1 = ref) (hfin : (T k).2.2.2 = false) (hdsc : parseFieldDescriptor (T k).2.2.1 = some ty) (hn : narrow ty (.int x) = .int x) (hfit : fits ty (.int x) = true) (hl : k < fs.length) (hs2 : sh E i (upd (M i) k x) = .inr (ci, fs.set k (.int x))) (kk : AW g E A nL Q (pc + 3) lv st (wr M i k x)) : AW g E A nL Q pc lv (.int x :: .ref (eA E i) :: st) M := fun H locs ls hP hS h => va_putN (D := eD E) X.hx X.hb X.hts hin ty0 hty hnm X.hown X.hK hP (X.D M) hS i (wd_at hi hs) hc k hk (va_Nw.use rfl (X.nw hw)) (fun _ h => by rw [← href]; exact h) hfin hdsc hn hfit hl hd (fun H1 l1 hP1 _ hS1 => kk H1 l1 ls (by rw [wd_set hi hs2] at hP1; exact hP1) hS1 h)
theorem aw_iald (X : CX g cc own ret d E A nL) {i n : Nat} {j : Int32} (hd : decode cc pc = .ok (.iaload, 1)) (hi : i < eN E) (hs : sh E i (M i) = .inl (eC E 0, n, .inl (M i))) (hin : vp_in j n) (kk : AW g E A nL Q (pc + 1) lv (.int (M i j.toNatClampNeg) :: st) M) : AW g E A nL Q pc lv (.int j :: .ref (eA E i) :: st) M := fun H locs ls hP hS hl => va_iald (D := eD E) X.hx X.hb X.hK hP i 0 (wd_at hi hs) rfl hin hd (kk H locs ls hP hS hl)
theorem aw_iast (X : CX g cc own ret d E A nL) {i n : Nat} {j x : Int32} (hd : decode cc pc = .ok (.iastore, 1)) (hi : i < eN E) (hs : sh E i (M i) = .inl (eC E 0, n, .inl (M i))) (hs2 : sh E i (upd (M i) j.toNatClampNeg x) = .inl (eC E 0, n, .inl (upd (M i) j.toNatClampNeg x))) (hin : vp_in j n) (kk : AW g E A nL Q (pc + 1) lv st (wr M i j.toNatClampNeg x)) : AW g E A nL Q pc lv (.int x :: .int j :: .ref (eA E i) :: st) M := fun H locs ls hP hS hl => va_iast (D := eD E) X.hx X.hb X.hK hP (X.D M) hS i 0 (wd_at hi hs) rfl hin hd (fun H1 l1 hP1 _ hS1 => kk H1 l1 ls (by rw [wd_set hi hs2] at hP1; exact hP1) hS1 hl)
theorem aw_alen (X : CX g cc own ret d E A nL) {i t : Nat} {cA : ClassId} {x : vp_A} {ty : FieldType} {v : Int32} (hd : decode cc pc = .ok (.arraylength, 1)) (hi : i < eN E) (hs : sh E i (M i) = .inl (cA, x)) (ht : (tyl (eC E))[t]? = some (cA, ty)) (hv : Int32.ofNat x.1 = v) (kk : AW g E A nL Q (pc + 1) lv (.int v :: st) M) : AW g E A nL Q pc lv (.ref (eA E i) :: st) M := fun H locs ls hP hS hl => va_alen (D := eD E) X.hx X.hb X.hK hP i t (wd_at hi hs) ht hv hd (kk H locs ls hP hS hl)
theorem aw_aald (X : CX g cc own ret d E A nL) {i t n : Nat} {cA : ClassId} {C : String} {f : Nat → Option Nat} {j : Int32} {v : Value} (hd : decode cc pc = .ok (.aaload, 1)) (hi : i < eN E) (hs : sh E i (M i) = .inl (cA, n, qa f)) (ht : (tyl (eC E))[t]? = some (cA, .object C)) (hin : vp_in j n) (hv : va_rf (f j.toNatClampNeg) = v) (kk : AW g E A nL Q (pc + 1) lv (v :: st) M) : AW g E A nL Q pc lv (.int j :: .ref (eA E i) :: st) M := fun H locs ls hP hS hl => va_aldq (D := eD E) X.hx X.hb X.hK hP i t (wd_at hi hs) ht hin hd (by rw [hv]; exact kk H locs ls hP hS hl)
theorem aw_gets (X : CX g cc own ret d E A nL) {C n dd ref : String} {v : Value} {index : Nat} (hd : decode cc pc = .ok (.getstatic index, 3)) (hZ : va_Z C n dd v A (gS g) (gS g).heap) (hw : Cond.fieldLink own index ref n dd ∈ tbG) (hCr : C = ref) (k : AW g E A nL Q (pc + 3) lv (v :: st) M) : AW g E A nL Q pc lv st M := fun H locs ls hP hS hl => va_gets X.hx X.hb hZ hS X.hown (X.w hw) (fun _ h => by rw [← hCr]; exact h) hd (k H locs ls hP hS hl)
theorem aw_ti (X : CX g cc own ret d E A nL) {t N : Nat} {vs : List Int32} {j : Int32} (hd : decode cc pc = .ok (.iaload, 1)) (hT : va_T .int t N (fun j => .int (vs.getD j 0)) A (gS g) (gS g).heap) (hin : vp_in j N) (k : AW g E A nL Q (pc + 1) lv (.int (vs.getD j.toNatClampNeg 0) :: st) M) : AW g E A nL Q pc lv (.int j :: .ref t :: st) M := fun H locs ls hP hS hl => va_ti X.hx X.hb hT hS hin rfl hd (k H locs ls hP hS hl)
theorem aw_tlen (X : CX g cc own ret d E A nL) {t N : Nat} {ty : FieldType} {f : Nat → Value} {v : Int32} (hd : decode cc pc = .ok (.arraylength, 1)) (hT : va_T ty t N f A (gS g) (gS g).heap) (hv : Int32.ofNat N = v) (k : AW g E A nL Q (pc + 1) lv (.int v :: st) M) : AW g E A nL Q pc lv (.ref t :: st) M := fun H locs ls hP hS hl => va_tlen X.hx X.hb hT hS hv hd (k H locs ls hP hS hl)
theorem aw_mmax (X : CX g cc own ret d E A nL) {index : Nat} {x y : Int32} (hd : decode cc pc = .ok (.invokestatic index, 3)) (hw : Cond.methodLink own index Lib.Math.max.name ∈ tbG) (h0 : Cond.static Lib.Math.max.name ∈ tbG) (h1 : Cond.initialized "java/lang/Math" ∈ tbG) (h2 : Cond.code Lib.Math.max.name Lib.Math.max.code 2 (some .int) ∈ tbG) (hd1 : 1 ≤ d) (hc : (st.map fun v => v.category).sum ≤ 8) (k : AW g E A nL Q (pc + 3) lv (.int (if x < y then y else x) :: st) M) : AW g E A nL Q pc lv (.int y :: .int x :: st) M := fun H locs ls hP hS hl => va_mmax X.hx X.hb (X.hml.trans hl.1.symm) X.hown (X.w hw) (X.w h0) (X.w h1) (X.w h2) (Nat.le_trans hd1 X.rm.1) (by have := X.rm.2; omega) X.cs.1 X.cs.2 hd (k H locs ls hP hS hl)
theorem aw_mmin (X : CX g cc own ret d E A nL) {index : Nat} {x y : Int32} (hd : decode cc pc = .ok (.invokestatic index, 3)) (hw : Cond.methodLink own index Lib.Math.min.name ∈ tbG) (h0 : Cond.static Lib.Math.min.name ∈ tbG) (h1 : Cond.initialized "java/lang/Math" ∈ tbG) (h2 : Cond.code Lib.Math.min.name Lib.Math.min.code 2 (some .int) ∈ tbG) (hd1 : 1 ≤ d) (hc : (st.map fun v => v.category).sum ≤ 8) (k : AW g E A nL Q (pc + 3) lv (.int (if y < x then y else x) :: st) M) : AW g E A nL Q pc lv (.int y :: .int x :: st) M := fun H locs ls hP hS hl => va_mmin X.hx X.hb (X.hml.trans hl.1.symm) X.hown (X.w hw) (X.w h0) (X.w h1) (X.w h2) (Nat.le_trans hd1 X.rm.1) (by have := X.rm.2; omega) X.cs.1 X.cs.2 hd (k H locs ls hP hS hl)
theorem aw_mabs (X : CX g cc own ret d E A nL) {index : Nat} {x : Int32} (hd : decode cc pc = .ok (.invokestatic index, 3)) (hw : Cond.methodLink own index Lib.Math.abs.name ∈ tbG) (h0 : Cond.static Lib.Math.abs.name ∈ tbG) (h1 : Cond.initialized "java/lang/Math" ∈ tbG) (h2 : Cond.code Lib.Math.abs.name Lib.Math.abs.code 1 (some .int) ∈ tbG) (hd1 : 1 ≤ d) (hc : (st.map fun v => v.category).sum ≤ 8) (k : AW g E A nL Q (pc + 3) lv (.int (if 0 ≤ x then x else 0 - x) :: st) M) : AW g E A nL Q pc lv (.int x :: st) M := fun H locs ls hP hS hl => va_mabs X.hx X.hb (X.hml.trans hl.1.symm) X.hown (X.w hw) (X.w h0) (X.w h1) (X.w h2) (Nat.le_trans hd1 X.rm.1) (by have := X.rm.2; omega) X.cs.1 X.cs.2 hd (k H locs ls hP hS hl)
theorem aw_iret (X : CX g cc own (some .int) d E A nL) {K : Mm → Int32 → Prop} {v : Int32} (hd : decode cc pc = .ok (.ireturn, 1)) (hk : K M v) : AW g E A nL (MQ (gB g) (QI E K A) (gA g) (gS g) (gk g) (gn g) A) pc lv [.int v] M := fun H locs ls hP hS hl => W.iret (v := v) X.hx X.hb X.hr (fun t ht hW => ⟨⟨v, M, rfl, hk, by show va_P _ _ _ _; rw [ht]; exact hP⟩, hS.F ht⟩) hS.2.2 hd X.lk
theorem aw_zret (X : CX g cc own (some .boolean) d E A nL) {K : Mm → Int32 → Prop} {v : Int32} (hd : decode cc pc = .ok (.ireturn, 1)) (hn : narrow .boolean (.int v) = .int v) (hk : K M v) : AW g E A nL (MQ (gB g) (QI E K A) (gA g) (gS g) (gk g) (gn g) A) pc lv [.int v] M := fun H locs ls hP hS hl => W.zret (v := v) X.hx X.hb X.hr hn (fun t ht hW => ⟨⟨v, M, rfl, hk, by show va_P _ _ _ _; rw [ht]; exact hP⟩, hS.F ht⟩) hS.2.2 hd X.lk
theorem aw_vret (X : CX g cc own none d E A nL) {K : Mm → Prop} (hd : decode cc pc = .ok (.return_, 1)) (hk : K M) : AW g E A nL (MQ (gB g) (QV E K A) (gA g) (gS g) (gk g) (gn g) A) pc lv [] M := fun H locs ls hP hS hl => W.vret X.hx X.hb X.hr (fun t ht hW => ⟨⟨M, rfl, hk, by show va_P _ _ _ _; rw [ht]; exact hP⟩, hS.F ht⟩) hS.2.2 hd X.lk
theorem aw_lret (X : CX g cc own (some .long) d E A nL) {K : Mm → Int64 → Prop} {v : Int64} (hd : decode cc pc = .ok (.lreturn, 1)) (hk : K M v) : AW g E A nL (MQ (gB g) (QL E K A) (gA g) (gS g) (gk g) (gn g) A) pc lv [.long v] M := fun H locs ls hP hS hl => W.lret (v := v) X.hx X.hb X.hr (fun t ht hW => ⟨⟨v, M, rfl, hk, by show va_P _ _ _ _; rw [ht]; exact hP⟩, hS.F ht⟩) hS.2.2 hd X.lk
theorem aw_aret {rn : String} (X : CX g cc own (some (.object rn)) d E A nL) {K : Mm → Option Nat → Prop} (o : Option Nat) {v : Value} (hv : va_rf (o.map (eA E)) = v) (hd : decode cc pc = .ok (.areturn, 1)) (hk : K M o) : AW g E A nL (MQ (gB g) (QQ E K A) (gA g) (gS g) (gk g) (gn g) A) pc lv [v] M := fun H locs ls hP hS hl => by
  subst hv
  exact W.aret X.hx X.hb X.hr (Or.inl ⟨_, rfl⟩) (va_rf_or _) (fun t ht hW => ⟨⟨o.map (eA E), (M, o), rfl, ⟨rfl, hk⟩, by show va_P _ _ _ _; rw [ht]; exact hP⟩, hS.F ht⟩) hS.2.2 hd X.lk
theorem aw_tret {rn : String} (X : CX g cc own (some (.object rn)) d E A nL) {K : Mm → Nat → Prop} (o : Nat) (hd : decode cc pc = .ok (.areturn, 1)) (hk : K M o) : AW g E A nL (MQ (gB g) (QT E K A) (gA g) (gS g) (gk g) (gn g) A) pc lv [.ref (eS E (10 + o))] M := fun H locs ls hP hS hl => W.aret X.hx X.hb X.hr (Or.inl ⟨_, rfl⟩) (Or.inr ⟨_, rfl⟩) (fun t ht hW => ⟨⟨some (eS E (10 + o)), (M, o), rfl, ⟨rfl, hk⟩, by show va_P _ _ _ _; rw [ht]; exact hP⟩, hS.F ht⟩) hS.2.2 hd X.lk
def Rn (g : Gm) (E : En) (A : Nat → Prop) (nL : Nat) (pc : Nat) (lv : List (Nat × Value)) (st rest : List Value) (M : Mm) (Qc : (Nat → Prop) → Array Value → State → Outcome → State → Prop) : Prop :=
  ∀ (H : Heap) (locs : List Loc) (ls : Array Slot), va_P (eD E) cls (wd E M) H → va_S A (gS g).heap H locs → lv_has ls nL lv → ∃ a : Array Value, va_Run (gP g) (gL g) (gE g) (gR g) (gS g) (gM g) (gA g) (gB g) (gT g) (gC g) H locs (gk g) (gn g) 0 0 (F0 (gM g) pc ls st) rest (Qc (aA E H.size) a) (aA E H.size)
theorem CX.sub (X : CX g cc own ret d E A nL) {H : Heap} {locs : List Loc} (hS : va_S A (gS g).heap H locs) : ∀ q, aA E H.size q → A q := by
  intro q h
  rcases h with ⟨i, hi, rfl⟩ | h
  · exact X.aD.2 i hi
  · exact X.hA q (Nat.le_trans hS.1 h)
theorem CX.pre (X : CX g cc own ret d E A nL) {H : Heap} {locs : List Loc} (hP : va_P (eD E) cls (wd E M) H) (hS : va_S A (gS g).heap H locs) {U : State} (hU : U.heap = H) (hW : (gS g).WarmedH U.vm) : Pre E M H.size U := by
  subst hU
  exact ⟨rfl, hP, X.hK.moved hW.alike, ⟨X.aD.1, fun i hi => Or.inl ⟨i, hi, rfl⟩⟩, X.sta.go hW.alike hS.2.1 (X.sub hS), X.str.warm hW, X.nst.warm hW, X.lo, X.hi⟩
theorem pre_blind {E : En} {M : Mm} {sz : Nat} {av : List Value} : FrameBlind (va_Pc av (Pre E M sz)) := by
  intro a U g mk q
  obtain ⟨q0, q1, q2, q3, q4, q5, q6, q7, q8⟩ := q
  exact ⟨q0, q1, q2, va_K.moved (u := U) (U := U.calling g mk a) (Vm.Alike.refl U.vm) q3, q4, Sta.go (u := U) (U := U.calling g mk a) (Vm.Alike.refl U.vm) (fun _ _ _ => rfl) (fun _ h => h) q5, Str.same (u := U) (U := U.calling g mk a) rfl q6, Nst.same (u := U) (U := U.calling g mk a) rfl q7, q8⟩
def Cal (y : MethodName) (bytes : ByteArray) (maxL : Nat) (ret : Option FieldType) (np : Nat) : Prop := (Cond.code y bytes maxL ret ∈ tbG ∧ Cond.initialized y.cls ∈ tbG) ∧ (y.cls ≠ "java/lang/invoke/MethodHandle" ∧ y.cls ≠ "java/lang/invoke/VarHandle" ∧ (parseMethodDescriptor y.desc).map (fun d => d.parameters.length) = some np) ∧ maxL ≤ 21
theorem good_code {y : MethodName} {bytes : ByteArray} {maxL : Nat} {ret : Option FieldType} (h : Cond.code y bytes maxL ret ∈ tbG) : GoodIn tbG (Cond.code y bytes maxL ret :: tbG) := fun w hw => (List.mem_cons.mp hw).elim (fun e => by rw [e]; exact tbG_good _ h) (tbG_good w)
theorem CX.room (X : CX g cc own ret d E A nL) {d1 maxL : Nat} (h : d1 + 1 ≤ d) (hm : maxL ≤ 21) : (rmD d1).frames + 1 ≤ (gR g).frames ∧ 8 + (maxL + 11) + (rmD d1).locals ≤ (gR g).locals := by
  have h1 := X.rm.1
  have h2 := X.rm.2
  refine ⟨by show d1 + 1 ≤ _; omega, ?_⟩
  show 8 + (maxL + 11) + 40 * d1 ≤ _
  omega
theorem rn_v (X : CX g cc own ret d E A nL) {y : MethodName} {bytes : ByteArray} {maxL d1 np index : Nat} {ret1 : Option FieldType} {Qc : (Nat → Prop) → Array Value → State → Outcome → State → Prop} (As rest : List Value) {i ci : Nat} {fs : List Value} {q : vw_C} (hi : i < eN E) (hs : sh E i (M i) = .inr (ci, fs)) (hc : cls[ci]? = some q) (hq : q.1 = y.cls) (h5 : Cond.instanceMethod y ∈ tbG) (h6 : Cond.selects y.cls y y ∈ tbG) (hM : Ctr (gL g) E y bytes maxL ret1 d1 (.ref (eA E i) :: As) M Qc) (hCal : Cal y bytes maxL ret1 np) (hw : Cond.methodLink own index y ∈ tbG) (hd1 : d1 + 1 ≤ d) (hn : As.length = np) (hst : st = As.reverse ++ .ref (eA E i) :: rest) (hcat : (rest.map fun v => v.category).sum ≤ 8) (hd : decode cc pc = .ok (.invokevirtual index, 3)) : Rn g E A nL pc lv st rest M Qc := fun H locs ls hP hS hl => ⟨_, va_runV (C := y.cls) (As := As) (rest := rest) (Ts := tbG) ⟨X.hx, X.hb, X.hml, X.hown, X.hts⟩ (hM H.size) ⟨callB_of np X.hts (good_code hCal.1.1) rfl rfl rfl (X.w hCal.1.2) (X.w hw) hCal.2.1 (X.room hd1 hCal.2.2), X.w h5, X.w h6⟩ ⟨pre_blind, by rw [← hq]; exact va_recv X.hK hP hc (wd_at hi hs), fun U hU hW => ⟨rfl, X.pre hP hS hU hW⟩⟩ rfl hn hl.1 hst (lv_room hcat) hd X.cs⟩
theorem rn_vn (X : CX g cc own ret d E A nL) {y : MethodName} {bytes : ByteArray} {maxL d1 np index : Nat} {host : String} {ret1 : Option FieldType} {Qc : (Nat → Prop) → Array Value → State → Outcome → State → Prop} (As rest : List Value) {i ci : Nat} {fs : List Value} {q : vw_C} (hi : i < eN E) (hs : sh E i (M i) = .inr (ci, fs)) (hc : cls[ci]? = some q) (hq : q.1 = y.cls) (h5 : Cond.instanceMethod y ∈ tbG) (h6 : Cond.selects y.cls y y ∈ tbG) (hM : Ctr (gL g) E y bytes maxL ret1 d1 (.ref (eA E i) :: As) M Qc) (hCal : Cal y bytes maxL ret1 np) (hw : Cond.methodLinkNest own index y host ∈ tbN) (hd1 : d1 + 1 ≤ d) (hn : As.length = np) (hst : st = As.reverse ++ .ref (eA E i) :: rest) (hcat : (rest.map fun v => v.category).sum ≤ 8) (hd : decode cc pc = .ok (.invokevirtual index, 3)) : Rn g E A nL pc lv st rest M Qc := fun H locs ls hP hS hl => ⟨_, va_runVN (C := y.cls) (As := As) (rest := rest) (Ts := tbG) ⟨X.hx, X.hb, X.hml, X.hown, X.hts⟩ (hM H.size) ⟨va_cnB np X.hts (good_code hCal.1.1) rfl rfl rfl (X.nw hw) (X.w hCal.1.2) hCal.2.1 (X.room hd1 hCal.2.2), X.w h5, X.w h6⟩ ⟨pre_blind, by rw [← hq]; exact va_recv X.hK hP hc (wd_at hi hs), fun U hU hW => ⟨rfl, X.pre hP hS hU hW⟩⟩ rfl hn hl.1 hst (lv_room hcat) hd X.cs⟩
theorem rn_s (X : CX g cc own ret d E A nL) {y : MethodName} {bytes : ByteArray} {maxL d1 np index : Nat} {ret1 : Option FieldType} {Qc : (Nat → Prop) → Array Value → State → Outcome → State → Prop} (As rest : List Value) (h5 : Cond.static y ∈ tbG) (hM : Ctr (gL g) E y bytes maxL ret1 d1 As M Qc) (hCal : Cal y bytes maxL ret1 np) (hw : Cond.methodLink own index y ∈ tbG) (hd1 : d1 + 1 ≤ d) (hn : As.length = np) (hst : st = As.reverse ++ rest) (hcat : (rest.map fun v => v.category).sum ≤ 8) (hd : decode cc pc = .ok (.invokestatic index, 3)) : Rn g E A nL pc lv st rest M Qc := fun H locs ls hP hS hl => ⟨_, va_runS (As := As) (rest := rest) (Ts := tbG) ⟨X.hx, X.hb, X.hml, X.hown, X.hts⟩ (hM H.size) ⟨callB_of np X.hts (good_code hCal.1.1) rfl rfl rfl (X.w hCal.1.2) (X.w hw) hCal.2.1 (X.room hd1 hCal.2.2), X.w h5⟩ ⟨pre_blind, fun U hU hW => ⟨rfl, X.pre hP hS hU hW⟩⟩ rfl hn hl.1 hst (lv_room hcat) hd X.cs⟩
theorem rn_sn (X : CX g cc own ret d E A nL) {y : MethodName} {bytes : ByteArray} {maxL d1 np index : Nat} {host : String} {ret1 : Option FieldType} {Qc : (Nat → Prop) → Array Value → State → Outcome → State → Prop} (As rest : List Value) (h5 : Cond.static y ∈ tbG) (hM : Ctr (gL g) E y bytes maxL ret1 d1 As M Qc) (hCal : Cal y bytes maxL ret1 np) (hw : Cond.methodLinkNest own index y host ∈ tbN) (hd1 : d1 + 1 ≤ d) (hn : As.length = np) (hst : st = As.reverse ++ rest) (hcat : (rest.map fun v => v.category).sum ≤ 8) (hd : decode cc pc = .ok (.invokestatic index, 3)) : Rn g E A nL pc lv st rest M Qc := fun H locs ls hP hS hl => ⟨_, va_runSN (As := As) (rest := rest) (Ts := tbG) ⟨X.hx, X.hb, X.hml, X.hown, X.hts⟩ (hM H.size) ⟨va_cnB np X.hts (good_code hCal.1.1) rfl rfl rfl (X.nw hw) (X.w hCal.1.2) hCal.2.1 (X.room hd1 hCal.2.2), X.w h5, trivial⟩ ⟨pre_blind, fun U hU hW => ⟨rfl, X.pre hP hS hU hW⟩⟩ rfl hn hl.1 hst (lv_room hcat) hd X.cs⟩
theorem ca_i (X : CX g cc own ret d E A nL) {rest : List Value} {K : Mm → Int32 → Prop} (hr : Rn g E A nL pc lv st rest M (QI E K)) (k : ∀ (M1 : Mm) (r : Int32), K M1 r → AW g E A nL Q (pc + 3) lv (.int r :: rest) M1) : AW g E A nL Q pc lv st M := fun H locs ls hP hS hl => by
  obtain ⟨a, hr⟩ := hr H locs ls hP hS hl
  exact va_calli hr hS (fun q _ h => X.sub hS q h) (X.sub hS) (fun r M1 t H1 l1 ht _ hK hB _ _ hS1 => k M1 r hK H1 l1 ls (by rw [← ht]; exact hB) hS1 hl)
theorem ca_l (X : CX g cc own ret d E A nL) {rest : List Value} {K : Mm → Int64 → Prop} (hr : Rn g E A nL pc lv st rest M (QL E K)) (k : ∀ (M1 : Mm) (r : Int64), K M1 r → AW g E A nL Q (pc + 3) lv (.long r :: rest) M1) : AW g E A nL Q pc lv st M := fun H locs ls hP hS hl => by
  obtain ⟨a, hr⟩ := hr H locs ls hP hS hl
  exact va_calll hr hS (fun q _ h => X.sub hS q h) (X.sub hS) (fun r M1 t H1 l1 ht _ hK hB _ _ hS1 => k M1 r hK H1 l1 ls (by rw [← ht]; exact hB) hS1 hl)
theorem ca_v (X : CX g cc own ret d E A nL) {rest : List Value} {K : Mm → Prop} (hr : Rn g E A nL pc lv st rest M (QV E K)) (k : ∀ (M1 : Mm), K M1 → AW g E A nL Q (pc + 3) lv rest M1) : AW g E A nL Q pc lv st M := fun H locs ls hP hS hl => by
  obtain ⟨a, hr⟩ := hr H locs ls hP hS hl
  exact va_callv hr hS (fun q _ h => X.sub hS q h) (X.sub hS) (fun M1 t H1 l1 ht _ hK hB _ _ hS1 => k M1 hK H1 l1 ls (by rw [← ht]; exact hB) hS1 hl)
theorem ca_q (X : CX g cc own ret d E A nL) {rest : List Value} {K : Mm → Option Nat → Prop} (hr : Rn g E A nL pc lv st rest M (QQ E K)) (k : ∀ (M1 : Mm) (o : Option Nat), K M1 o → AW g E A nL Q (pc + 3) lv (va_rf (o.map (eA E)) :: rest) M1) : AW g E A nL Q pc lv st M := fun H locs ls hP hS hl => by
  obtain ⟨a, hr⟩ := hr H locs ls hP hS hl
  exact va_callq hr hS (fun q _ h => X.sub hS q h) (X.sub hS) (fun r u t H1 l1 ht _ hK hB _ _ hS1 => by rw [hK.1]; exact k u.1 u.2 hK.2 H1 l1 ls (by rw [← ht]; exact hB) hS1 hl)
theorem ca_t (X : CX g cc own ret d E A nL) {rest : List Value} {K : Mm → Nat → Prop} (hr : Rn g E A nL pc lv st rest M (QT E K)) (k : ∀ (M1 : Mm) (o : Nat), K M1 o → AW g E A nL Q (pc + 3) lv (.ref (eS E (10 + o)) :: rest) M1) : AW g E A nL Q pc lv st M := fun H locs ls hP hS hl => by
  obtain ⟨a, hr⟩ := hr H locs ls hP hS hl
  exact va_callq hr hS (fun q _ h => X.sub hS q h) (X.sub hS) (fun r u t H1 l1 ht _ hK hB _ _ hS1 => by rw [hK.1]; exact k u.1 u.2 hK.2 H1 l1 ls (by rw [← ht]; exact hB) hS1 hl)
end AWR
end
