-- ===== PART A: goes FIRST, ahead of the names: the tables' words, and 'selects' of the private methods out of them =====
/-- a private method of a class that the tables say can be made, by its rows of tables_1 -/
def lw_okq (q : MethodName × Nat) : Prop := (q.1.cls ≠ "java/lang/invoke/MethodHandle" ∧ q.1.cls ≠ "java/lang/invoke/VarHandle") ∧ Cond.instantiable q.1.cls q.2 ∈ tables_1 ∧ Cond.privateMethod q.1 ∈ tables_1 ∧ Cond.instanceMethod q.1 ∈ tables_1
/-- the name of one method of the class, taken from the table (its word may not stand in rows) -/
def nmQ : Cond → String
  | .privateMethod q => q.name
  | _ => ""
def nmAd : String := nmQ (tables_1.getD 309 (.count 0))
theorem lw_p0 : lw_okq (⟨"ShyWell$Scene", nmAd, "(IIII)V"⟩, 14) := ⟨⟨by decide +kernel, by decide +kernel⟩, List.mem_of_getElem? (i := 27) (by decide +kernel), List.mem_of_getElem? (i := 309) (by decide +kernel), List.mem_of_getElem? (i := 310) (by decide +kernel)⟩
theorem lw_p1 : lw_okq (⟨"ShyWell$Comer", "start", "(IIII)V"⟩, 13) := ⟨⟨by decide +kernel, by decide +kernel⟩, List.mem_of_getElem? (i := 36) (by decide +kernel), List.mem_of_getElem? (i := 313) (by decide +kernel), List.mem_of_getElem? (i := 314) (by decide +kernel)⟩
theorem lw_p2 : lw_okq (⟨"ShyWell$Scene", "comerAt", "(I)LShyWell$Comer;"⟩, 14) := ⟨⟨by decide +kernel, by decide +kernel⟩, List.mem_of_getElem? (i := 27) (by decide +kernel), List.mem_of_getElem? (i := 321) (by decide +kernel), List.mem_of_getElem? (i := 322) (by decide +kernel)⟩
theorem lw_p3 : lw_okq (⟨"ShyWell$Comer", "worth", "()I"⟩, 13) := ⟨⟨by decide +kernel, by decide +kernel⟩, List.mem_of_getElem? (i := 36) (by decide +kernel), List.mem_of_getElem? (i := 326) (by decide +kernel), List.mem_of_getElem? (i := 327) (by decide +kernel)⟩
theorem lw_p4 : lw_okq (⟨"ShyWell$Scene", "wouldLeave", "(LShyWell$Comer;)Z"⟩, 14) := ⟨⟨by decide +kernel, by decide +kernel⟩, List.mem_of_getElem? (i := 27) (by decide +kernel), List.mem_of_getElem? (i := 330) (by decide +kernel), List.mem_of_getElem? (i := 331) (by decide +kernel)⟩
theorem lw_p5 : lw_okq (⟨"ShyWell$Scene", "standing", "()I"⟩, 14) := ⟨⟨by decide +kernel, by decide +kernel⟩, List.mem_of_getElem? (i := 27) (by decide +kernel), List.mem_of_getElem? (i := 334) (by decide +kernel), List.mem_of_getElem? (i := 335) (by decide +kernel)⟩
theorem lw_p6 : lw_okq (⟨"ShyWell$Scene", "leaveHolds", "(LShyWell$Comer;)Z"⟩, 14) := ⟨⟨by decide +kernel, by decide +kernel⟩, List.mem_of_getElem? (i := 27) (by decide +kernel), List.mem_of_getElem? (i := 338) (by decide +kernel), List.mem_of_getElem? (i := 339) (by decide +kernel)⟩
theorem lw_p7 : lw_okq (⟨"ShyWell$Scene", "lawOf", "(I)LShyWell$Text;"⟩, 14) := ⟨⟨by decide +kernel, by decide +kernel⟩, List.mem_of_getElem? (i := 27) (by decide +kernel), List.mem_of_getElem? (i := 342) (by decide +kernel), List.mem_of_getElem? (i := 343) (by decide +kernel)⟩
theorem lw_p8 : lw_okq (⟨"ShyWell$Text", "value", "(III)I"⟩, 4) := ⟨⟨by decide +kernel, by decide +kernel⟩, List.mem_of_getElem? (i := 348) (by decide +kernel), List.mem_of_getElem? (i := 346) (by decide +kernel), List.mem_of_getElem? (i := 347) (by decide +kernel)⟩
theorem lw_p9 : lw_okq (⟨"ShyWell$Scene", "staysOf", "(LShyWell$Comer;)I"⟩, 14) := ⟨⟨by decide +kernel, by decide +kernel⟩, List.mem_of_getElem? (i := 27) (by decide +kernel), List.mem_of_getElem? (i := 354) (by decide +kernel), List.mem_of_getElem? (i := 355) (by decide +kernel)⟩
theorem lw_p10 : lw_okq (⟨"ShyWell$Comer", "habit", "(I)I"⟩, 13) := ⟨⟨by decide +kernel, by decide +kernel⟩, List.mem_of_getElem? (i := 36) (by decide +kernel), List.mem_of_getElem? (i := 365) (by decide +kernel), List.mem_of_getElem? (i := 366) (by decide +kernel)⟩
theorem lw_p11 : lw_okq (⟨"ShyWell$Comer", "changeHabit", "(II)V"⟩, 13) := ⟨⟨by decide +kernel, by decide +kernel⟩, List.mem_of_getElem? (i := 36) (by decide +kernel), List.mem_of_getElem? (i := 385) (by decide +kernel), List.mem_of_getElem? (i := 386) (by decide +kernel)⟩
theorem lw_p12 : lw_okq (⟨"ShyWell$Scene", "change", "(II)I"⟩, 14) := ⟨⟨by decide +kernel, by decide +kernel⟩, List.mem_of_getElem? (i := 27) (by decide +kernel), List.mem_of_getElem? (i := 397) (by decide +kernel), List.mem_of_getElem? (i := 398) (by decide +kernel)⟩
theorem lw_p13 : lw_okq (⟨"ShyWell$Scene", "draw", "()I"⟩, 14) := ⟨⟨by decide +kernel, by decide +kernel⟩, List.mem_of_getElem? (i := 27) (by decide +kernel), List.mem_of_getElem? (i := 405) (by decide +kernel), List.mem_of_getElem? (i := 406) (by decide +kernel)⟩
theorem lw_p14 : lw_okq (⟨"ShyWell$Scene", "advance", "(I)I"⟩, 14) := ⟨⟨by decide +kernel, by decide +kernel⟩, List.mem_of_getElem? (i := 27) (by decide +kernel), List.mem_of_getElem? (i := 418) (by decide +kernel), List.mem_of_getElem? (i := 419) (by decide +kernel)⟩
theorem lw_p15 : lw_okq (⟨"ShyWell$Scene", "letLeave", "()V"⟩, 14) := ⟨⟨by decide +kernel, by decide +kernel⟩, List.mem_of_getElem? (i := 27) (by decide +kernel), List.mem_of_getElem? (i := 423) (by decide +kernel), List.mem_of_getElem? (i := 424) (by decide +kernel)⟩
def lw_privs_1 : List (MethodName × Nat) := [(⟨"ShyWell$Scene", nmAd, "(IIII)V"⟩, 14), (⟨"ShyWell$Comer", "start", "(IIII)V"⟩, 13), (⟨"ShyWell$Scene", "comerAt", "(I)LShyWell$Comer;"⟩, 14), (⟨"ShyWell$Comer", "worth", "()I"⟩, 13), (⟨"ShyWell$Scene", "wouldLeave", "(LShyWell$Comer;)Z"⟩, 14), (⟨"ShyWell$Scene", "standing", "()I"⟩, 14), (⟨"ShyWell$Scene", "leaveHolds", "(LShyWell$Comer;)Z"⟩, 14), (⟨"ShyWell$Scene", "lawOf", "(I)LShyWell$Text;"⟩, 14), (⟨"ShyWell$Text", "value", "(III)I"⟩, 4), (⟨"ShyWell$Scene", "staysOf", "(LShyWell$Comer;)I"⟩, 14), (⟨"ShyWell$Comer", "habit", "(I)I"⟩, 13), (⟨"ShyWell$Comer", "changeHabit", "(II)V"⟩, 13), (⟨"ShyWell$Scene", "change", "(II)I"⟩, 14), (⟨"ShyWell$Scene", "draw", "()I"⟩, 14), (⟨"ShyWell$Scene", "advance", "(I)I"⟩, 14), (⟨"ShyWell$Scene", "letLeave", "()V"⟩, 14)]
theorem lw_r1 : ∀ q ∈ lw_privs_1, lw_okq q := List.forall_mem_cons.mpr ⟨lw_p0, List.forall_mem_cons.mpr ⟨lw_p1, List.forall_mem_cons.mpr ⟨lw_p2, List.forall_mem_cons.mpr ⟨lw_p3, List.forall_mem_cons.mpr ⟨lw_p4, List.forall_mem_cons.mpr ⟨lw_p5, List.forall_mem_cons.mpr ⟨lw_p6, List.forall_mem_cons.mpr ⟨lw_p7, List.forall_mem_cons.mpr ⟨lw_p8, List.forall_mem_cons.mpr ⟨lw_p9, List.forall_mem_cons.mpr ⟨lw_p10, List.forall_mem_cons.mpr ⟨lw_p11, List.forall_mem_cons.mpr ⟨lw_p12, List.forall_mem_cons.mpr ⟨lw_p13, List.forall_mem_cons.mpr ⟨lw_p14, List.forall_mem_cons.mpr ⟨lw_p15, fun _ h => absurd h List.not_mem_nil⟩⟩⟩⟩⟩⟩⟩⟩⟩⟩⟩⟩⟩⟩⟩⟩
theorem lw_p16 : lw_okq (⟨"ShyWell$Scene", "letCome", "()Z"⟩, 14) := ⟨⟨by decide +kernel, by decide +kernel⟩, List.mem_of_getElem? (i := 27) (by decide +kernel), List.mem_of_getElem? (i := 429) (by decide +kernel), List.mem_of_getElem? (i := 430) (by decide +kernel)⟩
theorem lw_p17 : lw_okq (⟨"ShyWell$Scene", "arrive", "(LShyWell$Comer;)V"⟩, 14) := ⟨⟨by decide +kernel, by decide +kernel⟩, List.mem_of_getElem? (i := 27) (by decide +kernel), List.mem_of_getElem? (i := 433) (by decide +kernel), List.mem_of_getElem? (i := 434) (by decide +kernel)⟩
theorem lw_p18 : lw_okq (⟨"ShyWell$Comer", "turnBack", "()V"⟩, 13) := ⟨⟨by decide +kernel, by decide +kernel⟩, List.mem_of_getElem? (i := 36) (by decide +kernel), List.mem_of_getElem? (i := 438) (by decide +kernel), List.mem_of_getElem? (i := 439) (by decide +kernel)⟩
theorem lw_p19 : lw_okq (⟨"ShyWell$Scene", "letWait", "()V"⟩, 14) := ⟨⟨by decide +kernel, by decide +kernel⟩, List.mem_of_getElem? (i := 27) (by decide +kernel), List.mem_of_getElem? (i := 443) (by decide +kernel), List.mem_of_getElem? (i := 444) (by decide +kernel)⟩
theorem lw_p20 : lw_okq (⟨"ShyWell$Scene", "letReachHome", "()V"⟩, 14) := ⟨⟨by decide +kernel, by decide +kernel⟩, List.mem_of_getElem? (i := 27) (by decide +kernel), List.mem_of_getElem? (i := 447) (by decide +kernel), List.mem_of_getElem? (i := 448) (by decide +kernel)⟩
theorem lw_p21 : lw_okq (⟨"ShyWell$Scene", "fill", "(Z)V"⟩, 14) := ⟨⟨by decide +kernel, by decide +kernel⟩, List.mem_of_getElem? (i := 27) (by decide +kernel), List.mem_of_getElem? (i := 451) (by decide +kernel), List.mem_of_getElem? (i := 452) (by decide +kernel)⟩
theorem lw_p22 : lw_okq (⟨"ShyWell$Scene", "endMinute", "()V"⟩, 14) := ⟨⟨by decide +kernel, by decide +kernel⟩, List.mem_of_getElem? (i := 27) (by decide +kernel), List.mem_of_getElem? (i := 455) (by decide +kernel), List.mem_of_getElem? (i := 456) (by decide +kernel)⟩
theorem lw_p23 : lw_okq (⟨"ShyWell$Scene", "gotOfAll", "()I"⟩, 14) := ⟨⟨by decide +kernel, by decide +kernel⟩, List.mem_of_getElem? (i := 27) (by decide +kernel), List.mem_of_getElem? (i := 459) (by decide +kernel), List.mem_of_getElem? (i := 460) (by decide +kernel)⟩
theorem lw_p24 : lw_okq (⟨"ShyWell$Scene", "become", "(LShyWell$Scene;)V"⟩, 14) := ⟨⟨by decide +kernel, by decide +kernel⟩, List.mem_of_getElem? (i := 27) (by decide +kernel), List.mem_of_getElem? (i := 467) (by decide +kernel), List.mem_of_getElem? (i := 468) (by decide +kernel)⟩
theorem lw_p25 : lw_okq (⟨"ShyWell$Comer", "become", "(LShyWell$Comer;)V"⟩, 13) := ⟨⟨by decide +kernel, by decide +kernel⟩, List.mem_of_getElem? (i := 36) (by decide +kernel), List.mem_of_getElem? (i := 474) (by decide +kernel), List.mem_of_getElem? (i := 475) (by decide +kernel)⟩
theorem lw_p26 : lw_okq (⟨"ShyWell$Scene", "emptyOfAll", "()I"⟩, 14) := ⟨⟨by decide +kernel, by decide +kernel⟩, List.mem_of_getElem? (i := 27) (by decide +kernel), List.mem_of_getElem? (i := 478) (by decide +kernel), List.mem_of_getElem? (i := 479) (by decide +kernel)⟩
theorem lw_p27 : lw_okq (⟨"ShyWell$Scene", "keepOthersHome", "(I)V"⟩, 14) := ⟨⟨by decide +kernel, by decide +kernel⟩, List.mem_of_getElem? (i := 27) (by decide +kernel), List.mem_of_getElem? (i := 495) (by decide +kernel), List.mem_of_getElem? (i := 496) (by decide +kernel)⟩
theorem lw_p28 : lw_okq (⟨"ShyWell$Scene", "visitsOfAll", "()I"⟩, 14) := ⟨⟨by decide +kernel, by decide +kernel⟩, List.mem_of_getElem? (i := 27) (by decide +kernel), List.mem_of_getElem? (i := 504) (by decide +kernel), List.mem_of_getElem? (i := 505) (by decide +kernel)⟩
theorem lw_p29 : lw_okq (⟨"ShyWell$Comer", "faredWorse", "(LShyWell$Comer;)Z"⟩, 13) := ⟨⟨by decide +kernel, by decide +kernel⟩, List.mem_of_getElem? (i := 36) (by decide +kernel), List.mem_of_getElem? (i := 515) (by decide +kernel), List.mem_of_getElem? (i := 516) (by decide +kernel)⟩
theorem lw_p30 : lw_okq (⟨"ShyWell", "feedBytesOf", "(I)V"⟩, 9) := ⟨⟨by decide +kernel, by decide +kernel⟩, List.mem_of_getElem? (i := 19) (by decide +kernel), List.mem_of_getElem? (i := 529) (by decide +kernel), List.mem_of_getElem? (i := 530) (by decide +kernel)⟩
theorem lw_p31 : lw_okq (⟨"ShyWell$Row", "add", "(I)V"⟩, 2) := ⟨⟨by decide +kernel, by decide +kernel⟩, List.mem_of_getElem? (i := 164) (by decide +kernel), List.mem_of_getElem? (i := 533) (by decide +kernel), List.mem_of_getElem? (i := 534) (by decide +kernel)⟩
def lw_privs_2 : List (MethodName × Nat) := [(⟨"ShyWell$Scene", "letCome", "()Z"⟩, 14), (⟨"ShyWell$Scene", "arrive", "(LShyWell$Comer;)V"⟩, 14), (⟨"ShyWell$Comer", "turnBack", "()V"⟩, 13), (⟨"ShyWell$Scene", "letWait", "()V"⟩, 14), (⟨"ShyWell$Scene", "letReachHome", "()V"⟩, 14), (⟨"ShyWell$Scene", "fill", "(Z)V"⟩, 14), (⟨"ShyWell$Scene", "endMinute", "()V"⟩, 14), (⟨"ShyWell$Scene", "gotOfAll", "()I"⟩, 14), (⟨"ShyWell$Scene", "become", "(LShyWell$Scene;)V"⟩, 14), (⟨"ShyWell$Comer", "become", "(LShyWell$Comer;)V"⟩, 13), (⟨"ShyWell$Scene", "emptyOfAll", "()I"⟩, 14), (⟨"ShyWell$Scene", "keepOthersHome", "(I)V"⟩, 14), (⟨"ShyWell$Scene", "visitsOfAll", "()I"⟩, 14), (⟨"ShyWell$Comer", "faredWorse", "(LShyWell$Comer;)Z"⟩, 13), (⟨"ShyWell", "feedBytesOf", "(I)V"⟩, 9), (⟨"ShyWell$Row", "add", "(I)V"⟩, 2)]
theorem lw_r2 : ∀ q ∈ lw_privs_2, lw_okq q := List.forall_mem_cons.mpr ⟨lw_p16, List.forall_mem_cons.mpr ⟨lw_p17, List.forall_mem_cons.mpr ⟨lw_p18, List.forall_mem_cons.mpr ⟨lw_p19, List.forall_mem_cons.mpr ⟨lw_p20, List.forall_mem_cons.mpr ⟨lw_p21, List.forall_mem_cons.mpr ⟨lw_p22, List.forall_mem_cons.mpr ⟨lw_p23, List.forall_mem_cons.mpr ⟨lw_p24, List.forall_mem_cons.mpr ⟨lw_p25, List.forall_mem_cons.mpr ⟨lw_p26, List.forall_mem_cons.mpr ⟨lw_p27, List.forall_mem_cons.mpr ⟨lw_p28, List.forall_mem_cons.mpr ⟨lw_p29, List.forall_mem_cons.mpr ⟨lw_p30, List.forall_mem_cons.mpr ⟨lw_p31, fun _ h => absurd h List.not_mem_nil⟩⟩⟩⟩⟩⟩⟩⟩⟩⟩⟩⟩⟩⟩⟩⟩
theorem lw_p32 : lw_okq (⟨"ShyWell$Reader", "reads", "()Z"⟩, 7) := ⟨⟨by decide +kernel, by decide +kernel⟩, List.mem_of_getElem? (i := 158) (by decide +kernel), List.mem_of_getElem? (i := 545) (by decide +kernel), List.mem_of_getElem? (i := 546) (by decide +kernel)⟩
theorem lw_p33 : lw_okq (⟨"ShyWell$Reader", "next", "()V"⟩, 7) := ⟨⟨by decide +kernel, by decide +kernel⟩, List.mem_of_getElem? (i := 158) (by decide +kernel), List.mem_of_getElem? (i := 549) (by decide +kernel), List.mem_of_getElem? (i := 550) (by decide +kernel)⟩
theorem lw_p34 : lw_okq (⟨"ShyWell$Row", "at", "(I)I"⟩, 2) := ⟨⟨by decide +kernel, by decide +kernel⟩, List.mem_of_getElem? (i := 164) (by decide +kernel), List.mem_of_getElem? (i := 553) (by decide +kernel), List.mem_of_getElem? (i := 554) (by decide +kernel)⟩
theorem lw_p35 : lw_okq (⟨"ShyWell$Reader", "keyHere", "()I"⟩, 7) := ⟨⟨by decide +kernel, by decide +kernel⟩, List.mem_of_getElem? (i := 158) (by decide +kernel), List.mem_of_getElem? (i := 560) (by decide +kernel), List.mem_of_getElem? (i := 561) (by decide +kernel)⟩
theorem lw_p36 : lw_okq (⟨"ShyWell$Reader", "isWord", "(Ljava/lang/String;)Z"⟩, 7) := ⟨⟨by decide +kernel, by decide +kernel⟩, List.mem_of_getElem? (i := 158) (by decide +kernel), List.mem_of_getElem? (i := 565) (by decide +kernel), List.mem_of_getElem? (i := 566) (by decide +kernel)⟩
theorem lw_p37 : lw_okq (⟨"ShyWell$Reader", "readsLevel", "(III)Z"⟩, 7) := ⟨⟨by decide +kernel, by decide +kernel⟩, List.mem_of_getElem? (i := 158) (by decide +kernel), List.mem_of_getElem? (i := 619) (by decide +kernel), List.mem_of_getElem? (i := 620) (by decide +kernel)⟩
theorem lw_p38 : lw_okq (⟨"ShyWell$Reader", "readsPiece", "(II)Z"⟩, 7) := ⟨⟨by decide +kernel, by decide +kernel⟩, List.mem_of_getElem? (i := 158) (by decide +kernel), List.mem_of_getElem? (i := 623) (by decide +kernel), List.mem_of_getElem? (i := 624) (by decide +kernel)⟩
theorem lw_p39 : lw_okq (⟨"ShyWell$Reader", "readsNumber", "()Z"⟩, 7) := ⟨⟨by decide +kernel, by decide +kernel⟩, List.mem_of_getElem? (i := 158) (by decide +kernel), List.mem_of_getElem? (i := 627) (by decide +kernel), List.mem_of_getElem? (i := 628) (by decide +kernel)⟩
theorem lw_p40 : lw_okq (⟨"ShyWell$Reader", "addPiece", "(I)V"⟩, 7) := ⟨⟨by decide +kernel, by decide +kernel⟩, List.mem_of_getElem? (i := 158) (by decide +kernel), List.mem_of_getElem? (i := 631) (by decide +kernel), List.mem_of_getElem? (i := 632) (by decide +kernel)⟩
theorem lw_p41 : lw_okq (⟨"ShyWell$Reader", "readsName", "()Z"⟩, 7) := ⟨⟨by decide +kernel, by decide +kernel⟩, List.mem_of_getElem? (i := 158) (by decide +kernel), List.mem_of_getElem? (i := 636) (by decide +kernel), List.mem_of_getElem? (i := 637) (by decide +kernel)⟩
theorem lw_p42 : lw_okq (⟨"ShyWell$Reader", "isSign", "(I)Z"⟩, 7) := ⟨⟨by decide +kernel, by decide +kernel⟩, List.mem_of_getElem? (i := 158) (by decide +kernel), List.mem_of_getElem? (i := 701) (by decide +kernel), List.mem_of_getElem? (i := 702) (by decide +kernel)⟩
theorem lw_p43 : lw_okq (⟨"ShyWell$Reader", "levelHere", "()I"⟩, 7) := ⟨⟨by decide +kernel, by decide +kernel⟩, List.mem_of_getElem? (i := 158) (by decide +kernel), List.mem_of_getElem? (i := 705) (by decide +kernel), List.mem_of_getElem? (i := 706) (by decide +kernel)⟩
theorem lw_p44 : lw_okq (⟨"ShyWell$Reader", "written", "()LShyWell$Text;"⟩, 7) := ⟨⟨by decide +kernel, by decide +kernel⟩, List.mem_of_getElem? (i := 158) (by decide +kernel), List.mem_of_getElem? (i := 709) (by decide +kernel), List.mem_of_getElem? (i := 710) (by decide +kernel)⟩
theorem lw_p45 : lw_okq (⟨"ShyWell$Scene", "addLaw", "(LShyWell$Text;)V"⟩, 14) := ⟨⟨by decide +kernel, by decide +kernel⟩, List.mem_of_getElem? (i := 27) (by decide +kernel), List.mem_of_getElem? (i := 748) (by decide +kernel), List.mem_of_getElem? (i := 749) (by decide +kernel)⟩
theorem lw_p46 : lw_okq (⟨"ShyWell$Scene", "lawAt", "(I)LShyWell$Text;"⟩, 14) := ⟨⟨by decide +kernel, by decide +kernel⟩, List.mem_of_getElem? (i := 27) (by decide +kernel), List.mem_of_getElem? (i := 756) (by decide +kernel), List.mem_of_getElem? (i := 757) (by decide +kernel)⟩
theorem lw_p47 : lw_okq (⟨"ShyWell", "sheetAt", "(I)LShyWell$Sheet;"⟩, 9) := ⟨⟨by decide +kernel, by decide +kernel⟩, List.mem_of_getElem? (i := 19) (by decide +kernel), List.mem_of_getElem? (i := 768) (by decide +kernel), List.mem_of_getElem? (i := 769) (by decide +kernel)⟩
def lw_privs_3 : List (MethodName × Nat) := [(⟨"ShyWell$Reader", "reads", "()Z"⟩, 7), (⟨"ShyWell$Reader", "next", "()V"⟩, 7), (⟨"ShyWell$Row", "at", "(I)I"⟩, 2), (⟨"ShyWell$Reader", "keyHere", "()I"⟩, 7), (⟨"ShyWell$Reader", "isWord", "(Ljava/lang/String;)Z"⟩, 7), (⟨"ShyWell$Reader", "readsLevel", "(III)Z"⟩, 7), (⟨"ShyWell$Reader", "readsPiece", "(II)Z"⟩, 7), (⟨"ShyWell$Reader", "readsNumber", "()Z"⟩, 7), (⟨"ShyWell$Reader", "addPiece", "(I)V"⟩, 7), (⟨"ShyWell$Reader", "readsName", "()Z"⟩, 7), (⟨"ShyWell$Reader", "isSign", "(I)Z"⟩, 7), (⟨"ShyWell$Reader", "levelHere", "()I"⟩, 7), (⟨"ShyWell$Reader", "written", "()LShyWell$Text;"⟩, 7), (⟨"ShyWell$Scene", "addLaw", "(LShyWell$Text;)V"⟩, 14), (⟨"ShyWell$Scene", "lawAt", "(I)LShyWell$Text;"⟩, 14), (⟨"ShyWell", "sheetAt", "(I)LShyWell$Sheet;"⟩, 9)]
theorem lw_r3 : ∀ q ∈ lw_privs_3, lw_okq q := List.forall_mem_cons.mpr ⟨lw_p32, List.forall_mem_cons.mpr ⟨lw_p33, List.forall_mem_cons.mpr ⟨lw_p34, List.forall_mem_cons.mpr ⟨lw_p35, List.forall_mem_cons.mpr ⟨lw_p36, List.forall_mem_cons.mpr ⟨lw_p37, List.forall_mem_cons.mpr ⟨lw_p38, List.forall_mem_cons.mpr ⟨lw_p39, List.forall_mem_cons.mpr ⟨lw_p40, List.forall_mem_cons.mpr ⟨lw_p41, List.forall_mem_cons.mpr ⟨lw_p42, List.forall_mem_cons.mpr ⟨lw_p43, List.forall_mem_cons.mpr ⟨lw_p44, List.forall_mem_cons.mpr ⟨lw_p45, List.forall_mem_cons.mpr ⟨lw_p46, List.forall_mem_cons.mpr ⟨lw_p47, fun _ h => absurd h List.not_mem_nil⟩⟩⟩⟩⟩⟩⟩⟩⟩⟩⟩⟩⟩⟩⟩⟩
theorem lw_p48 : lw_okq (⟨"ShyWell$Sheet", "start", "(II)V"⟩, 3) := ⟨⟨by decide +kernel, by decide +kernel⟩, List.mem_of_getElem? (i := 213) (by decide +kernel), List.mem_of_getElem? (i := 772) (by decide +kernel), List.mem_of_getElem? (i := 773) (by decide +kernel)⟩
theorem lw_p49 : lw_okq (⟨"ShyWell$Scene", "differences", "(LShyWell$Sheet;I)I"⟩, 14) := ⟨⟨by decide +kernel, by decide +kernel⟩, List.mem_of_getElem? (i := 27) (by decide +kernel), List.mem_of_getElem? (i := 798) (by decide +kernel), List.mem_of_getElem? (i := 799) (by decide +kernel)⟩
theorem lw_p50 : lw_okq (⟨"ShyWell$Sheet", "hasPlaces", "(II)Z"⟩, 3) := ⟨⟨by decide +kernel, by decide +kernel⟩, List.mem_of_getElem? (i := 213) (by decide +kernel), List.mem_of_getElem? (i := 811) (by decide +kernel), List.mem_of_getElem? (i := 812) (by decide +kernel)⟩
theorem lw_p51 : lw_okq (⟨"ShyWell", "slotAt", "(I)LShyWell$Slot;"⟩, 9) := ⟨⟨by decide +kernel, by decide +kernel⟩, List.mem_of_getElem? (i := 19) (by decide +kernel), List.mem_of_getElem? (i := 820) (by decide +kernel), List.mem_of_getElem? (i := 821) (by decide +kernel)⟩
theorem lw_p52 : lw_okq (⟨"ShyWell$Sheet", "become", "(LShyWell$Sheet;)V"⟩, 3) := ⟨⟨by decide +kernel, by decide +kernel⟩, List.mem_of_getElem? (i := 213) (by decide +kernel), List.mem_of_getElem? (i := 825) (by decide +kernel), List.mem_of_getElem? (i := 826) (by decide +kernel)⟩
theorem lw_p53 : lw_okq (⟨"ShyWell", "wasTold", "(III)Z"⟩, 9) := ⟨⟨by decide +kernel, by decide +kernel⟩, List.mem_of_getElem? (i := 19) (by decide +kernel), List.mem_of_getElem? (i := 851) (by decide +kernel), List.mem_of_getElem? (i := 852) (by decide +kernel)⟩
theorem lw_p54 : lw_okq (⟨"ShyWellModel", "comes", "(IIII)V"⟩, 34) := ⟨⟨by decide +kernel, by decide +kernel⟩, List.mem_of_getElem? (i := 868) (by decide +kernel), List.mem_of_getElem? (i := 990) (by decide +kernel), List.mem_of_getElem? (i := 991) (by decide +kernel)⟩
theorem lw_p55 : lw_okq (⟨"ShyWellModel", "isComer", "(I)Z"⟩, 34) := ⟨⟨by decide +kernel, by decide +kernel⟩, List.mem_of_getElem? (i := 868) (by decide +kernel), List.mem_of_getElem? (i := 998) (by decide +kernel), List.mem_of_getElem? (i := 999) (by decide +kernel)⟩
theorem lw_p56 : lw_okq (⟨"ShyWellModel", "of", "(II)I"⟩, 34) := ⟨⟨by decide +kernel, by decide +kernel⟩, List.mem_of_getElem? (i := 868) (by decide +kernel), List.mem_of_getElem? (i := 1003) (by decide +kernel), List.mem_of_getElem? (i := 1004) (by decide +kernel)⟩
theorem lw_p57 : lw_okq (⟨"ShyWellModel", "worth", "(I)I"⟩, 34) := ⟨⟨by decide +kernel, by decide +kernel⟩, List.mem_of_getElem? (i := 868) (by decide +kernel), List.mem_of_getElem? (i := 1007) (by decide +kernel), List.mem_of_getElem? (i := 1008) (by decide +kernel)⟩
theorem lw_p58 : lw_okq (⟨"ShyWellModel", "stays", "(I)I"⟩, 34) := ⟨⟨by decide +kernel, by decide +kernel⟩, List.mem_of_getElem? (i := 868) (by decide +kernel), List.mem_of_getElem? (i := 1011) (by decide +kernel), List.mem_of_getElem? (i := 1012) (by decide +kernel)⟩
theorem lw_p59 : lw_okq (⟨"ShyWellModel", "counts", "(I)I"⟩, 34) := ⟨⟨by decide +kernel, by decide +kernel⟩, List.mem_of_getElem? (i := 868) (by decide +kernel), List.mem_of_getElem? (i := 1015) (by decide +kernel), List.mem_of_getElem? (i := 1016) (by decide +kernel)⟩
theorem lw_p60 : lw_okq (⟨"ShyWellModel", "textAt", "(I)I"⟩, 34) := ⟨⟨by decide +kernel, by decide +kernel⟩, List.mem_of_getElem? (i := 868) (by decide +kernel), List.mem_of_getElem? (i := 1019) (by decide +kernel), List.mem_of_getElem? (i := 1020) (by decide +kernel)⟩
theorem lw_p61 : lw_okq (⟨"ShyWellModel", "standing", "()I"⟩, 34) := ⟨⟨by decide +kernel, by decide +kernel⟩, List.mem_of_getElem? (i := 868) (by decide +kernel), List.mem_of_getElem? (i := 1023) (by decide +kernel), List.mem_of_getElem? (i := 1024) (by decide +kernel)⟩
theorem lw_p62 : lw_okq (⟨"ShyWellModel", "worked", "(I)I"⟩, 34) := ⟨⟨by decide +kernel, by decide +kernel⟩, List.mem_of_getElem? (i := 868) (by decide +kernel), List.mem_of_getElem? (i := 1027) (by decide +kernel), List.mem_of_getElem? (i := 1028) (by decide +kernel)⟩
theorem lw_p63 : lw_okq (⟨"ShyWellModel", "wouldLeave", "(I)Z"⟩, 34) := ⟨⟨by decide +kernel, by decide +kernel⟩, List.mem_of_getElem? (i := 868) (by decide +kernel), List.mem_of_getElem? (i := 1037) (by decide +kernel), List.mem_of_getElem? (i := 1038) (by decide +kernel)⟩
def lw_privs_4 : List (MethodName × Nat) := [(⟨"ShyWell$Sheet", "start", "(II)V"⟩, 3), (⟨"ShyWell$Scene", "differences", "(LShyWell$Sheet;I)I"⟩, 14), (⟨"ShyWell$Sheet", "hasPlaces", "(II)Z"⟩, 3), (⟨"ShyWell", "slotAt", "(I)LShyWell$Slot;"⟩, 9), (⟨"ShyWell$Sheet", "become", "(LShyWell$Sheet;)V"⟩, 3), (⟨"ShyWell", "wasTold", "(III)Z"⟩, 9), (⟨"ShyWellModel", "comes", "(IIII)V"⟩, 34), (⟨"ShyWellModel", "isComer", "(I)Z"⟩, 34), (⟨"ShyWellModel", "of", "(II)I"⟩, 34), (⟨"ShyWellModel", "worth", "(I)I"⟩, 34), (⟨"ShyWellModel", "stays", "(I)I"⟩, 34), (⟨"ShyWellModel", "counts", "(I)I"⟩, 34), (⟨"ShyWellModel", "textAt", "(I)I"⟩, 34), (⟨"ShyWellModel", "standing", "()I"⟩, 34), (⟨"ShyWellModel", "worked", "(I)I"⟩, 34), (⟨"ShyWellModel", "wouldLeave", "(I)Z"⟩, 34)]
theorem lw_r4 : ∀ q ∈ lw_privs_4, lw_okq q := List.forall_mem_cons.mpr ⟨lw_p48, List.forall_mem_cons.mpr ⟨lw_p49, List.forall_mem_cons.mpr ⟨lw_p50, List.forall_mem_cons.mpr ⟨lw_p51, List.forall_mem_cons.mpr ⟨lw_p52, List.forall_mem_cons.mpr ⟨lw_p53, List.forall_mem_cons.mpr ⟨lw_p54, List.forall_mem_cons.mpr ⟨lw_p55, List.forall_mem_cons.mpr ⟨lw_p56, List.forall_mem_cons.mpr ⟨lw_p57, List.forall_mem_cons.mpr ⟨lw_p58, List.forall_mem_cons.mpr ⟨lw_p59, List.forall_mem_cons.mpr ⟨lw_p60, List.forall_mem_cons.mpr ⟨lw_p61, List.forall_mem_cons.mpr ⟨lw_p62, List.forall_mem_cons.mpr ⟨lw_p63, fun _ h => absurd h List.not_mem_nil⟩⟩⟩⟩⟩⟩⟩⟩⟩⟩⟩⟩⟩⟩⟩⟩
theorem lw_p64 : lw_okq (⟨"ShyWellModel", "plainLeaves", "(I)Z"⟩, 34) := ⟨⟨by decide +kernel, by decide +kernel⟩, List.mem_of_getElem? (i := 868) (by decide +kernel), List.mem_of_getElem? (i := 1041) (by decide +kernel), List.mem_of_getElem? (i := 1042) (by decide +kernel)⟩
theorem lw_p65 : lw_okq (⟨"ShyWellModel", "becomes", "(II)I"⟩, 34) := ⟨⟨by decide +kernel, by decide +kernel⟩, List.mem_of_getElem? (i := 868) (by decide +kernel), List.mem_of_getElem? (i := 1057) (by decide +kernel), List.mem_of_getElem? (i := 1058) (by decide +kernel)⟩
theorem lw_p66 : lw_okq (⟨"ShyWellModel", "drawn", "()I"⟩, 34) := ⟨⟨by decide +kernel, by decide +kernel⟩, List.mem_of_getElem? (i := 868) (by decide +kernel), List.mem_of_getElem? (i := 1081) (by decide +kernel), List.mem_of_getElem? (i := 1082) (by decide +kernel)⟩
theorem lw_p67 : lw_okq (⟨"ShyWellModel", "goesOn", "()V"⟩, 34) := ⟨⟨by decide +kernel, by decide +kernel⟩, List.mem_of_getElem? (i := 868) (by decide +kernel), List.mem_of_getElem? (i := 1096) (by decide +kernel), List.mem_of_getElem? (i := 1097) (by decide +kernel)⟩
theorem lw_p68 : lw_okq (⟨"ShyWellModel", "leaveHome", "()V"⟩, 34) := ⟨⟨by decide +kernel, by decide +kernel⟩, List.mem_of_getElem? (i := 868) (by decide +kernel), List.mem_of_getElem? (i := 1100) (by decide +kernel), List.mem_of_getElem? (i := 1101) (by decide +kernel)⟩
theorem lw_p69 : lw_okq (⟨"ShyWellModel", "sets", "(III)V"⟩, 34) := ⟨⟨by decide +kernel, by decide +kernel⟩, List.mem_of_getElem? (i := 868) (by decide +kernel), List.mem_of_getElem? (i := 1104) (by decide +kernel), List.mem_of_getElem? (i := 1105) (by decide +kernel)⟩
theorem lw_p70 : lw_okq (⟨"ShyWellModel", "more", "(II)V"⟩, 34) := ⟨⟨by decide +kernel, by decide +kernel⟩, List.mem_of_getElem? (i := 868) (by decide +kernel), List.mem_of_getElem? (i := 1108) (by decide +kernel), List.mem_of_getElem? (i := 1109) (by decide +kernel)⟩
theorem lw_p71 : lw_okq (⟨"ShyWellModel", "comeThere", "()Z"⟩, 34) := ⟨⟨by decide +kernel, by decide +kernel⟩, List.mem_of_getElem? (i := 868) (by decide +kernel), List.mem_of_getElem? (i := 1112) (by decide +kernel), List.mem_of_getElem? (i := 1113) (by decide +kernel)⟩
theorem lw_p72 : lw_okq (⟨"ShyWellModel", "isThere", "(I)V"⟩, 34) := ⟨⟨by decide +kernel, by decide +kernel⟩, List.mem_of_getElem? (i := 868) (by decide +kernel), List.mem_of_getElem? (i := 1116) (by decide +kernel), List.mem_of_getElem? (i := 1117) (by decide +kernel)⟩
theorem lw_p73 : lw_okq (⟨"ShyWellModel", "goesBack", "(I)V"⟩, 34) := ⟨⟨by decide +kernel, by decide +kernel⟩, List.mem_of_getElem? (i := 868) (by decide +kernel), List.mem_of_getElem? (i := 1120) (by decide +kernel), List.mem_of_getElem? (i := 1121) (by decide +kernel)⟩
theorem lw_p74 : lw_okq (⟨"ShyWellModel", "waitOrGo", "()V"⟩, 34) := ⟨⟨by decide +kernel, by decide +kernel⟩, List.mem_of_getElem? (i := 868) (by decide +kernel), List.mem_of_getElem? (i := 1124) (by decide +kernel), List.mem_of_getElem? (i := 1125) (by decide +kernel)⟩
theorem lw_p75 : lw_okq (⟨"ShyWellModel", "ofAll", "(I)I"⟩, 34) := ⟨⟨by decide +kernel, by decide +kernel⟩, List.mem_of_getElem? (i := 868) (by decide +kernel), List.mem_of_getElem? (i := 1128) (by decide +kernel), List.mem_of_getElem? (i := 1129) (by decide +kernel)⟩
theorem lw_p76 : lw_okq (⟨"ShyWellModel", "laysBy", "()V"⟩, 34) := ⟨⟨by decide +kernel, by decide +kernel⟩, List.mem_of_getElem? (i := 868) (by decide +kernel), List.mem_of_getElem? (i := 1137) (by decide +kernel), List.mem_of_getElem? (i := 1138) (by decide +kernel)⟩
theorem lw_p77 : lw_okq (⟨"ShyWellModel", "goesOnMany", "(I)V"⟩, 34) := ⟨⟨by decide +kernel, by decide +kernel⟩, List.mem_of_getElem? (i := 868) (by decide +kernel), List.mem_of_getElem? (i := 1141) (by decide +kernel), List.mem_of_getElem? (i := 1142) (by decide +kernel)⟩
theorem lw_p78 : lw_okq (⟨"ShyWellModel", "laysBack", "()V"⟩, 34) := ⟨⟨by decide +kernel, by decide +kernel⟩, List.mem_of_getElem? (i := 868) (by decide +kernel), List.mem_of_getElem? (i := 1145) (by decide +kernel), List.mem_of_getElem? (i := 1146) (by decide +kernel)⟩
theorem lw_p79 : lw_okq (⟨"ShyWellModel", "parse", "()I"⟩, 34) := ⟨⟨by decide +kernel, by decide +kernel⟩, List.mem_of_getElem? (i := 868) (by decide +kernel), List.mem_of_getElem? (i := 1191) (by decide +kernel), List.mem_of_getElem? (i := 1192) (by decide +kernel)⟩
def lw_privs_5 : List (MethodName × Nat) := [(⟨"ShyWellModel", "plainLeaves", "(I)Z"⟩, 34), (⟨"ShyWellModel", "becomes", "(II)I"⟩, 34), (⟨"ShyWellModel", "drawn", "()I"⟩, 34), (⟨"ShyWellModel", "goesOn", "()V"⟩, 34), (⟨"ShyWellModel", "leaveHome", "()V"⟩, 34), (⟨"ShyWellModel", "sets", "(III)V"⟩, 34), (⟨"ShyWellModel", "more", "(II)V"⟩, 34), (⟨"ShyWellModel", "comeThere", "()Z"⟩, 34), (⟨"ShyWellModel", "isThere", "(I)V"⟩, 34), (⟨"ShyWellModel", "goesBack", "(I)V"⟩, 34), (⟨"ShyWellModel", "waitOrGo", "()V"⟩, 34), (⟨"ShyWellModel", "ofAll", "(I)I"⟩, 34), (⟨"ShyWellModel", "laysBy", "()V"⟩, 34), (⟨"ShyWellModel", "goesOnMany", "(I)V"⟩, 34), (⟨"ShyWellModel", "laysBack", "()V"⟩, 34), (⟨"ShyWellModel", "parse", "()I"⟩, 34)]
theorem lw_r5 : ∀ q ∈ lw_privs_5, lw_okq q := List.forall_mem_cons.mpr ⟨lw_p64, List.forall_mem_cons.mpr ⟨lw_p65, List.forall_mem_cons.mpr ⟨lw_p66, List.forall_mem_cons.mpr ⟨lw_p67, List.forall_mem_cons.mpr ⟨lw_p68, List.forall_mem_cons.mpr ⟨lw_p69, List.forall_mem_cons.mpr ⟨lw_p70, List.forall_mem_cons.mpr ⟨lw_p71, List.forall_mem_cons.mpr ⟨lw_p72, List.forall_mem_cons.mpr ⟨lw_p73, List.forall_mem_cons.mpr ⟨lw_p74, List.forall_mem_cons.mpr ⟨lw_p75, List.forall_mem_cons.mpr ⟨lw_p76, List.forall_mem_cons.mpr ⟨lw_p77, List.forall_mem_cons.mpr ⟨lw_p78, List.forall_mem_cons.mpr ⟨lw_p79, fun _ h => absurd h List.not_mem_nil⟩⟩⟩⟩⟩⟩⟩⟩⟩⟩⟩⟩⟩⟩⟩⟩
theorem lw_p80 : lw_okq (⟨"ShyWellModel", "nextToken", "()V"⟩, 34) := ⟨⟨by decide +kernel, by decide +kernel⟩, List.mem_of_getElem? (i := 868) (by decide +kernel), List.mem_of_getElem? (i := 1195) (by decide +kernel), List.mem_of_getElem? (i := 1196) (by decide +kernel)⟩
theorem lw_p81 : lw_okq (⟨"ShyWellModel", "isLetter", "(I)Z"⟩, 34) := ⟨⟨by decide +kernel, by decide +kernel⟩, List.mem_of_getElem? (i := 868) (by decide +kernel), List.mem_of_getElem? (i := 1199) (by decide +kernel), List.mem_of_getElem? (i := 1200) (by decide +kernel)⟩
theorem lw_p82 : lw_okq (⟨"ShyWellModel", "isDigit", "(I)Z"⟩, 34) := ⟨⟨by decide +kernel, by decide +kernel⟩, List.mem_of_getElem? (i := 868) (by decide +kernel), List.mem_of_getElem? (i := 1205) (by decide +kernel), List.mem_of_getElem? (i := 1206) (by decide +kernel)⟩
theorem lw_p83 : lw_okq (⟨"ShyWellModel", "key", "()I"⟩, 34) := ⟨⟨by decide +kernel, by decide +kernel⟩, List.mem_of_getElem? (i := 868) (by decide +kernel), List.mem_of_getElem? (i := 1211) (by decide +kernel), List.mem_of_getElem? (i := 1212) (by decide +kernel)⟩
theorem lw_p84 : lw_okq (⟨"ShyWellModel", "isLong", "(IIIIII)Z"⟩, 34) := ⟨⟨by decide +kernel, by decide +kernel⟩, List.mem_of_getElem? (i := 868) (by decide +kernel), List.mem_of_getElem? (i := 1215) (by decide +kernel), List.mem_of_getElem? (i := 1216) (by decide +kernel)⟩
theorem lw_p85 : lw_okq (⟨"ShyWellModel", "isWordAt", "(IIII)Z"⟩, 34) := ⟨⟨by decide +kernel, by decide +kernel⟩, List.mem_of_getElem? (i := 868) (by decide +kernel), List.mem_of_getElem? (i := 1219) (by decide +kernel), List.mem_of_getElem? (i := 1220) (by decide +kernel)⟩
theorem lw_p86 : lw_okq (⟨"ShyWellModel", "either", "(I)Z"⟩, 34) := ⟨⟨by decide +kernel, by decide +kernel⟩, List.mem_of_getElem? (i := 868) (by decide +kernel), List.mem_of_getElem? (i := 1223) (by decide +kernel), List.mem_of_getElem? (i := 1224) (by decide +kernel)⟩
theorem lw_p87 : lw_okq (⟨"ShyWellModel", "both", "(I)Z"⟩, 34) := ⟨⟨by decide +kernel, by decide +kernel⟩, List.mem_of_getElem? (i := 868) (by decide +kernel), List.mem_of_getElem? (i := 1227) (by decide +kernel), List.mem_of_getElem? (i := 1228) (by decide +kernel)⟩
theorem lw_p88 : lw_okq (⟨"ShyWellModel", "test", "(I)Z"⟩, 34) := ⟨⟨by decide +kernel, by decide +kernel⟩, List.mem_of_getElem? (i := 868) (by decide +kernel), List.mem_of_getElem? (i := 1231) (by decide +kernel), List.mem_of_getElem? (i := 1232) (by decide +kernel)⟩
theorem lw_p89 : lw_okq (⟨"ShyWellModel", "sum", "(I)Z"⟩, 34) := ⟨⟨by decide +kernel, by decide +kernel⟩, List.mem_of_getElem? (i := 868) (by decide +kernel), List.mem_of_getElem? (i := 1235) (by decide +kernel), List.mem_of_getElem? (i := 1236) (by decide +kernel)⟩
theorem lw_p90 : lw_okq (⟨"ShyWellModel", "term", "(I)Z"⟩, 34) := ⟨⟨by decide +kernel, by decide +kernel⟩, List.mem_of_getElem? (i := 868) (by decide +kernel), List.mem_of_getElem? (i := 1239) (by decide +kernel), List.mem_of_getElem? (i := 1240) (by decide +kernel)⟩
theorem lw_p91 : lw_okq (⟨"ShyWellModel", "part0", "(I)Z"⟩, 34) := ⟨⟨by decide +kernel, by decide +kernel⟩, List.mem_of_getElem? (i := 868) (by decide +kernel), List.mem_of_getElem? (i := 1243) (by decide +kernel), List.mem_of_getElem? (i := 1244) (by decide +kernel)⟩
theorem lw_p92 : lw_okq (⟨"ShyWellModel", "step", "(II)V"⟩, 34) := ⟨⟨by decide +kernel, by decide +kernel⟩, List.mem_of_getElem? (i := 868) (by decide +kernel), List.mem_of_getElem? (i := 1247) (by decide +kernel), List.mem_of_getElem? (i := 1248) (by decide +kernel)⟩
theorem lw_p93 : lw_okq (⟨"ShyWellModel", "isSign", "(I)Z"⟩, 34) := ⟨⟨by decide +kernel, by decide +kernel⟩, List.mem_of_getElem? (i := 868) (by decide +kernel), List.mem_of_getElem? (i := 1254) (by decide +kernel), List.mem_of_getElem? (i := 1255) (by decide +kernel)⟩
theorem lw_p94 : lw_okq (⟨"ShyWellModel", "isText", "(I)Z"⟩, 34) := ⟨⟨by decide +kernel, by decide +kernel⟩, List.mem_of_getElem? (i := 868) (by decide +kernel), List.mem_of_getElem? (i := 1262) (by decide +kernel), List.mem_of_getElem? (i := 1263) (by decide +kernel)⟩
theorem lw_p95 : lw_okq (⟨"ShyWellModel", "waterBehind", "(II)I"⟩, 34) := ⟨⟨by decide +kernel, by decide +kernel⟩, List.mem_of_getElem? (i := 868) (by decide +kernel), List.mem_of_getElem? (i := 1296) (by decide +kernel), List.mem_of_getElem? (i := 1297) (by decide +kernel)⟩
def lw_privs_6 : List (MethodName × Nat) := [(⟨"ShyWellModel", "nextToken", "()V"⟩, 34), (⟨"ShyWellModel", "isLetter", "(I)Z"⟩, 34), (⟨"ShyWellModel", "isDigit", "(I)Z"⟩, 34), (⟨"ShyWellModel", "key", "()I"⟩, 34), (⟨"ShyWellModel", "isLong", "(IIIIII)Z"⟩, 34), (⟨"ShyWellModel", "isWordAt", "(IIII)Z"⟩, 34), (⟨"ShyWellModel", "either", "(I)Z"⟩, 34), (⟨"ShyWellModel", "both", "(I)Z"⟩, 34), (⟨"ShyWellModel", "test", "(I)Z"⟩, 34), (⟨"ShyWellModel", "sum", "(I)Z"⟩, 34), (⟨"ShyWellModel", "term", "(I)Z"⟩, 34), (⟨"ShyWellModel", "part0", "(I)Z"⟩, 34), (⟨"ShyWellModel", "step", "(II)V"⟩, 34), (⟨"ShyWellModel", "isSign", "(I)Z"⟩, 34), (⟨"ShyWellModel", "isText", "(I)Z"⟩, 34), (⟨"ShyWellModel", "waterBehind", "(II)I"⟩, 34)]
theorem lw_r6 : ∀ q ∈ lw_privs_6, lw_okq q := List.forall_mem_cons.mpr ⟨lw_p80, List.forall_mem_cons.mpr ⟨lw_p81, List.forall_mem_cons.mpr ⟨lw_p82, List.forall_mem_cons.mpr ⟨lw_p83, List.forall_mem_cons.mpr ⟨lw_p84, List.forall_mem_cons.mpr ⟨lw_p85, List.forall_mem_cons.mpr ⟨lw_p86, List.forall_mem_cons.mpr ⟨lw_p87, List.forall_mem_cons.mpr ⟨lw_p88, List.forall_mem_cons.mpr ⟨lw_p89, List.forall_mem_cons.mpr ⟨lw_p90, List.forall_mem_cons.mpr ⟨lw_p91, List.forall_mem_cons.mpr ⟨lw_p92, List.forall_mem_cons.mpr ⟨lw_p93, List.forall_mem_cons.mpr ⟨lw_p94, List.forall_mem_cons.mpr ⟨lw_p95, fun _ h => absurd h List.not_mem_nil⟩⟩⟩⟩⟩⟩⟩⟩⟩⟩⟩⟩⟩⟩⟩⟩
theorem lw_p96 : lw_okq (⟨"ShyWellModel", "setAside", "([I[I)V"⟩, 34) := ⟨⟨by decide +kernel, by decide +kernel⟩, List.mem_of_getElem? (i := 868) (by decide +kernel), List.mem_of_getElem? (i := 1332) (by decide +kernel), List.mem_of_getElem? (i := 1333) (by decide +kernel)⟩
def lw_privs_7 : List (MethodName × Nat) := [(⟨"ShyWellModel", "setAside", "([I[I)V"⟩, 34)]
theorem lw_r7 : ∀ q ∈ lw_privs_7, lw_okq q := List.forall_mem_cons.mpr ⟨lw_p96, fun _ h => absurd h List.not_mem_nil⟩
def lw_privs : List (MethodName × Nat) := lw_privs_1 ++ (lw_privs_2 ++ (lw_privs_3 ++ (lw_privs_4 ++ (lw_privs_5 ++ (lw_privs_6 ++ (lw_privs_7))))))
def lw_tbl : List Cond := k2_sels lw_privs ++ tables_1
theorem lw_privs_ok : ∀ q ∈ lw_privs, lw_okq q := by
  show ∀ q ∈ lw_privs_1 ++ (lw_privs_2 ++ (lw_privs_3 ++ (lw_privs_4 ++ (lw_privs_5 ++ (lw_privs_6 ++ (lw_privs_7)))))), lw_okq q
  exact List.forall_mem_append.mpr ⟨lw_r1, List.forall_mem_append.mpr ⟨lw_r2, List.forall_mem_append.mpr ⟨lw_r3, List.forall_mem_append.mpr ⟨lw_r4, List.forall_mem_append.mpr ⟨lw_r5, List.forall_mem_append.mpr ⟨lw_r6, lw_r7⟩⟩⟩⟩⟩⟩
def RX0 : String := "ShyWell$Comer"
def TX0 : u_T := fun k => match k with
  | 0 => ("ShyWell$Comer", "kind", "I", false)
  | 1 => ("ShyWell$Comer", "a", "I", false)
  | 2 => ("ShyWell$Comer", "away", "I", false)
  | 3 => ("ShyWell$Comer", "need", "I", false)
  | 4 => ("ShyWell$Comer", "want", "I", false)
  | 5 => ("ShyWell$Comer", "where", "I", false)
  | 6 => ("ShyWell$Comer", "left", "I", false)
  | 7 => ("ShyWell$Comer", "waited", "I", false)
  | 8 => ("ShyWell$Comer", "since", "I", false)
  | 9 => ("ShyWell$Comer", "got", "I", false)
  | 10 => ("ShyWell$Comer", "empty", "I", false)
  | 11 => ("ShyWell$Comer", "visits", "I", false)
  | _ => ("ShyWell$Comer", "began", "I", false)
def tyX0 : Nat → FieldType := fun k => match k with
  | 0 => .int
  | 1 => .int
  | 2 => .int
  | 3 => .int
  | 4 => .int
  | 5 => .int
  | 6 => .int
  | 7 => .int
  | 8 => .int
  | 9 => .int
  | 10 => .int
  | 11 => .int
  | _ => .int
theorem nmX0 : ∀ a, a < 13 → ∀ b, b < 13 → a ≠ b → (TX0 a).2.1 ≠ (TX0 b).2.1 := by decide +kernel
theorem tyX0_ok : ∀ k, k < 13 → parseFieldDescriptor (TX0 k).2.2.1 = some (tyX0 k) := by decide +kernel
abbrev cX0_init : ByteArray := prog_2_method_1_code
def yX0_init : MethodName := ⟨RX0, "<init>", "()V"⟩
abbrev cX0_start : ByteArray := prog_2_method_2_code
def yX0_start : MethodName := ⟨RX0, "start", "(IIII)V"⟩
abbrev cX0_become : ByteArray := prog_2_method_3_code
def yX0_become : MethodName := ⟨RX0, "become", "(LShyWell$Comer;)V"⟩
abbrev cX0_habit : ByteArray := prog_2_method_4_code
def yX0_habit : MethodName := ⟨RX0, "habit", "(I)I"⟩
abbrev cX0_changeHabit : ByteArray := prog_2_method_5_code
def yX0_changeHabit : MethodName := ⟨RX0, "changeHabit", "(II)V"⟩
abbrev cX0_worth : ByteArray := prog_2_method_6_code
def yX0_worth : MethodName := ⟨RX0, "worth", "()I"⟩
abbrev cX0_faredWorse : ByteArray := prog_2_method_7_code
def yX0_faredWorse : MethodName := ⟨RX0, "faredWorse", "(LShyWell$Comer;)Z"⟩
abbrev cX0_turnBack : ByteArray := prog_2_method_8_code
def yX0_turnBack : MethodName := ⟨RX0, "turnBack", "()V"⟩
def RX1 : String := "ShyWell$Reader"
def TX1 : u_T := fun k => match k with
  | 0 => ("ShyWell$Reader", "tape", "LShyWell$Row;", true)
  | 1 => ("ShyWell$Reader", "steps", "LShyWell$Row;", true)
  | 2 => ("ShyWell$Reader", "place", "I", false)
  | 3 => ("ShyWell$Reader", "end", "I", false)
  | 4 => ("ShyWell$Reader", "sort", "I", false)
  | 5 => ("ShyWell$Reader", "key", "I", false)
  | _ => ("ShyWell$Reader", "pieces", "I", false)
def tyX1 : Nat → FieldType := fun k => match k with
  | 0 => .object "ShyWell$Row"
  | 1 => .object "ShyWell$Row"
  | 2 => .int
  | 3 => .int
  | 4 => .int
  | 5 => .int
  | _ => .int
theorem nmX1 : ∀ a, a < 7 → ∀ b, b < 7 → a ≠ b → (TX1 a).2.1 ≠ (TX1 b).2.1 := by decide +kernel
theorem tyX1_ok : ∀ k, k < 7 → parseFieldDescriptor (TX1 k).2.2.1 = some (tyX1 k) := by decide +kernel
abbrev cX1_init : ByteArray := prog_3_method_1_code
def yX1_init : MethodName := ⟨RX1, "<init>", "()V"⟩
abbrev cX1_reads : ByteArray := prog_3_method_2_code
def yX1_reads : MethodName := ⟨RX1, "reads", "()Z"⟩
abbrev cX1_written : ByteArray := prog_3_method_3_code
def yX1_written : MethodName := ⟨RX1, "written", "()LShyWell$Text;"⟩
abbrev cX1_next : ByteArray := prog_3_method_4_code
def yX1_next : MethodName := ⟨RX1, "next", "()V"⟩
abbrev cX1_sortOf : ByteArray := prog_3_method_5_code
def yX1_sortOf : MethodName := ⟨RX1, "sortOf", "(I)I"⟩
abbrev cX1_keyHere : ByteArray := prog_3_method_6_code
def yX1_keyHere : MethodName := ⟨RX1, "keyHere", "()I"⟩
abbrev cX1_isWord : ByteArray := prog_3_method_7_code
def yX1_isWord : MethodName := ⟨RX1, "isWord", "(Ljava/lang/String;)Z"⟩
abbrev cX1_isSign : ByteArray := prog_3_method_8_code
def yX1_isSign : MethodName := ⟨RX1, "isSign", "(I)Z"⟩
abbrev cX1_levelHere : ByteArray := prog_3_method_9_code
def yX1_levelHere : MethodName := ⟨RX1, "levelHere", "()I"⟩
abbrev cX1_readsLevel : ByteArray := prog_3_method_10_code
def yX1_readsLevel : MethodName := ⟨RX1, "readsLevel", "(III)Z"⟩
abbrev cX1_readsPiece : ByteArray := prog_3_method_11_code
def yX1_readsPiece : MethodName := ⟨RX1, "readsPiece", "(II)Z"⟩
abbrev cX1_readsNumber : ByteArray := prog_3_method_12_code
def yX1_readsNumber : MethodName := ⟨RX1, "readsNumber", "()Z"⟩
abbrev cX1_readsName : ByteArray := prog_3_method_13_code
def yX1_readsName : MethodName := ⟨RX1, "readsName", "()Z"⟩
abbrev cX1_addPiece : ByteArray := prog_3_method_14_code
def yX1_addPiece : MethodName := ⟨RX1, "addPiece", "(I)V"⟩
abbrev cX1_namesOf : ByteArray := prog_3_method_15_code
def yX1_namesOf : MethodName := ⟨RX1, "namesOf", "(I)Ljava/lang/String;"⟩
def RX2 : String := "ShyWell$Row"
def TX2 : u_T := fun k => match k with
  | 0 => ("ShyWell$Row", "places", "[I", true)
  | _ => ("ShyWell$Row", "size", "I", false)
def tyX2 : Nat → FieldType := fun k => match k with
  | 0 => .array .int
  | _ => .int
theorem nmX2 : ∀ a, a < 2 → ∀ b, b < 2 → a ≠ b → (TX2 a).2.1 ≠ (TX2 b).2.1 := by decide +kernel
theorem tyX2_ok : ∀ k, k < 2 → parseFieldDescriptor (TX2 k).2.2.1 = some (tyX2 k) := by decide +kernel
abbrev cX2_init : ByteArray := prog_4_method_1_code
def yX2_init : MethodName := ⟨RX2, "<init>", "(I)V"⟩
abbrev cX2_add : ByteArray := prog_4_method_2_code
def yX2_add : MethodName := ⟨RX2, "add", "(I)V"⟩
abbrev cX2_at : ByteArray := prog_4_method_3_code
def yX2_at : MethodName := ⟨RX2, "at", "(I)I"⟩
def RX3 : String := "ShyWell$Scene"
def TX3 : u_T := fun k => match k with
  | 0 => ("ShyWell$Scene", "laws", "[LShyWell$Text;", true)
  | 1 => ("ShyWell$Scene", "counting", "[I", true)
  | 2 => ("ShyWell$Scene", "texts", "I", false)
  | 3 => ("ShyWell$Scene", "comers", "[LShyWell$Comer;", true)
  | 4 => ("ShyWell$Scene", "size", "I", false)
  | 5 => ("ShyWell$Scene", "quarter", "I", false)
  | 6 => ("ShyWell$Scene", "most", "I", false)
  | 7 => ("ShyWell$Scene", "water", "I", false)
  | 8 => ("ShyWell$Scene", "bucket", "I", false)
  | 9 => ("ShyWell$Scene", "forgets", "I", false)
  | 10 => ("ShyWell$Scene", "quiet", "I", false)
  | 11 => ("ShyWell$Scene", "minute", "I", false)
  | 12 => ("ShyWell$Scene", "waits", "I", false)
  | _ => ("ShyWell$Scene", "z", "I", false)
def tyX3 : Nat → FieldType := fun k => match k with
  | 0 => .array (.object "ShyWell$Text")
  | 1 => .array .int
  | 2 => .int
  | 3 => .array (.object "ShyWell$Comer")
  | 4 => .int
  | 5 => .int
  | 6 => .int
  | 7 => .int
  | 8 => .int
  | 9 => .int
  | 10 => .int
  | 11 => .int
  | 12 => .int
  | _ => .int
theorem nmX3 : ∀ a, a < 14 → ∀ b, b < 14 → a ≠ b → (TX3 a).2.1 ≠ (TX3 b).2.1 := by decide +kernel
theorem tyX3_ok : ∀ k, k < 14 → parseFieldDescriptor (TX3 k).2.2.1 = some (tyX3 k) := by decide +kernel
abbrev cX3_init : ByteArray := prog_5_method_1_code
def yX3_init : MethodName := ⟨RX3, "<init>", "()V"⟩
abbrev cX3_become : ByteArray := prog_5_method_2_code
def yX3_become : MethodName := ⟨RX3, "become", "(LShyWell$Scene;)V"⟩
abbrev cX3_comerAt : ByteArray := prog_5_method_3_code
def yX3_comerAt : MethodName := ⟨RX3, "comerAt", "(I)LShyWell$Comer;"⟩
abbrev cX3_admit : ByteArray := prog_5_method_4_code
def yX3_admit : MethodName := ⟨RX3, nmAd, "(IIII)V"⟩
abbrev cX3_change : ByteArray := prog_5_method_5_code
def yX3_change : MethodName := ⟨RX3, "change", "(II)I"⟩
abbrev cX3_draw : ByteArray := prog_5_method_6_code
def yX3_draw : MethodName := ⟨RX3, "draw", "()I"⟩
abbrev cX3_addLaw : ByteArray := prog_5_method_7_code
def yX3_addLaw : MethodName := ⟨RX3, "addLaw", "(LShyWell$Text;)V"⟩
abbrev cX3_lawAt : ByteArray := prog_5_method_8_code
def yX3_lawAt : MethodName := ⟨RX3, "lawAt", "(I)LShyWell$Text;"⟩
abbrev cX3_lawOf : ByteArray := prog_5_method_9_code
def yX3_lawOf : MethodName := ⟨RX3, "lawOf", "(I)LShyWell$Text;"⟩
abbrev cX3_standing : ByteArray := prog_5_method_10_code
def yX3_standing : MethodName := ⟨RX3, "standing", "()I"⟩
abbrev cX3_gotOfAll : ByteArray := prog_5_method_11_code
def yX3_gotOfAll : MethodName := ⟨RX3, "gotOfAll", "()I"⟩
abbrev cX3_emptyOfAll : ByteArray := prog_5_method_12_code
def yX3_emptyOfAll : MethodName := ⟨RX3, "emptyOfAll", "()I"⟩
abbrev cX3_visitsOfAll : ByteArray := prog_5_method_13_code
def yX3_visitsOfAll : MethodName := ⟨RX3, "visitsOfAll", "()I"⟩
abbrev cX3_leaveHolds : ByteArray := prog_5_method_14_code
def yX3_leaveHolds : MethodName := ⟨RX3, "leaveHolds", "(LShyWell$Comer;)Z"⟩
abbrev cX3_wouldLeave : ByteArray := prog_5_method_15_code
def yX3_wouldLeave : MethodName := ⟨RX3, "wouldLeave", "(LShyWell$Comer;)Z"⟩
abbrev cX3_staysOf : ByteArray := prog_5_method_16_code
def yX3_staysOf : MethodName := ⟨RX3, "staysOf", "(LShyWell$Comer;)I"⟩
abbrev cX3_advance : ByteArray := prog_5_method_17_code
def yX3_advance : MethodName := ⟨RX3, "advance", "(I)I"⟩
abbrev cX3_letLeave : ByteArray := prog_5_method_18_code
def yX3_letLeave : MethodName := ⟨RX3, "letLeave", "()V"⟩
abbrev cX3_letCome : ByteArray := prog_5_method_19_code
def yX3_letCome : MethodName := ⟨RX3, "letCome", "()Z"⟩
abbrev cX3_arrive : ByteArray := prog_5_method_20_code
def yX3_arrive : MethodName := ⟨RX3, "arrive", "(LShyWell$Comer;)V"⟩
abbrev cX3_letWait : ByteArray := prog_5_method_21_code
def yX3_letWait : MethodName := ⟨RX3, "letWait", "()V"⟩
abbrev cX3_letReachHome : ByteArray := prog_5_method_22_code
def yX3_letReachHome : MethodName := ⟨RX3, "letReachHome", "()V"⟩
abbrev cX3_fill : ByteArray := prog_5_method_23_code
def yX3_fill : MethodName := ⟨RX3, "fill", "(Z)V"⟩
abbrev cX3_endMinute : ByteArray := prog_5_method_24_code
def yX3_endMinute : MethodName := ⟨RX3, "endMinute", "()V"⟩
abbrev cX3_keepOthersHome : ByteArray := prog_5_method_25_code
def yX3_keepOthersHome : MethodName := ⟨RX3, "keepOthersHome", "(I)V"⟩
abbrev cX3_differences : ByteArray := prog_5_method_26_code
def yX3_differences : MethodName := ⟨RX3, "differences", "(LShyWell$Sheet;I)I"⟩
def RX4 : String := "ShyWell$Sheet"
def TX4 : u_T := fun k => match k with
  | 0 => ("ShyWell$Sheet", "places", "[I", true)
  | 1 => ("ShyWell$Sheet", "sort", "I", false)
  | _ => ("ShyWell$Sheet", "size", "I", false)
def tyX4 : Nat → FieldType := fun k => match k with
  | 0 => .array .int
  | 1 => .int
  | _ => .int
theorem nmX4 : ∀ a, a < 3 → ∀ b, b < 3 → a ≠ b → (TX4 a).2.1 ≠ (TX4 b).2.1 := by decide +kernel
theorem tyX4_ok : ∀ k, k < 3 → parseFieldDescriptor (TX4 k).2.2.1 = some (tyX4 k) := by decide +kernel
abbrev cX4_init : ByteArray := prog_6_method_1_code
def yX4_init : MethodName := ⟨RX4, "<init>", "()V"⟩
abbrev cX4_start : ByteArray := prog_6_method_2_code
def yX4_start : MethodName := ⟨RX4, "start", "(II)V"⟩
abbrev cX4_become : ByteArray := prog_6_method_3_code
def yX4_become : MethodName := ⟨RX4, "become", "(LShyWell$Sheet;)V"⟩
abbrev cX4_hasPlaces : ByteArray := prog_6_method_4_code
def yX4_hasPlaces : MethodName := ⟨RX4, "hasPlaces", "(II)Z"⟩
def RX5 : String := "ShyWell$Slot"
def TX5 : u_T := fun k => match k with
  | 0 => ("ShyWell$Slot", "comer", "LShyWell$Comer;", true)
  | 1 => ("ShyWell$Slot", "sheet", "LShyWell$Sheet;", true)
  | 2 => ("ShyWell$Slot", "thing", "I", false)
  | _ => ("ShyWell$Slot", "number", "I", false)
def tyX5 : Nat → FieldType := fun k => match k with
  | 0 => .object "ShyWell$Comer"
  | 1 => .object "ShyWell$Sheet"
  | 2 => .int
  | _ => .int
theorem nmX5 : ∀ a, a < 4 → ∀ b, b < 4 → a ≠ b → (TX5 a).2.1 ≠ (TX5 b).2.1 := by decide +kernel
theorem tyX5_ok : ∀ k, k < 4 → parseFieldDescriptor (TX5 k).2.2.1 = some (tyX5 k) := by decide +kernel
abbrev cX5_init : ByteArray := prog_7_method_1_code
def yX5_init : MethodName := ⟨RX5, "<init>", "()V"⟩
def RX6 : String := "ShyWell$Text"
def TX6 : u_T := fun k => match k with
  | 0 => ("ShyWell$Text", "key", "I", true)
  | 1 => ("ShyWell$Text", "pieces", "I", true)
  | 2 => ("ShyWell$Text", "steps", "[I", true)
  | _ => ("ShyWell$Text", "pile", "[I", true)
def tyX6 : Nat → FieldType := fun k => match k with
  | 0 => .int
  | 1 => .int
  | 2 => .array .int
  | _ => .array .int
theorem nmX6 : ∀ a, a < 4 → ∀ b, b < 4 → a ≠ b → (TX6 a).2.1 ≠ (TX6 b).2.1 := by decide +kernel
theorem tyX6_ok : ∀ k, k < 4 → parseFieldDescriptor (TX6 k).2.2.1 = some (tyX6 k) := by decide +kernel
abbrev cX6_init : ByteArray := prog_8_method_1_code
def yX6_init : MethodName := ⟨RX6, "<init>", "(II[I)V"⟩
abbrev cX6_value : ByteArray := prog_8_method_2_code
def yX6_value : MethodName := ⟨RX6, "value", "(III)I"⟩
abbrev cX6_joined : ByteArray := prog_8_method_3_code
def yX6_joined : MethodName := ⟨RX6, "joined", "(III)I"⟩
def RX7 : String := "ShyWell"
def TX7 : u_T := fun k => match k with
  | 0 => ("ShyWell", "now", "LShyWell$Scene;", true)
  | 1 => ("ShyWell", "thought", "LShyWell$Scene;", true)
  | 2 => ("ShyWell", "image", "LShyWell$Scene;", true)
  | 3 => ("ShyWell", "imageKept", "Z", false)
  | 4 => ("ShyWell", "reader", "LShyWell$Reader;", true)
  | 5 => ("ShyWell", "tape", "LShyWell$Row;", true)
  | 6 => ("ShyWell", "waiting", "LShyWell$Row;", true)
  | 7 => ("ShyWell", "sheets", "[LShyWell$Sheet;", true)
  | _ => ("ShyWell", "slots", "[LShyWell$Slot;", true)
def tyX7 : Nat → FieldType := fun k => match k with
  | 0 => .object "ShyWell$Scene"
  | 1 => .object "ShyWell$Scene"
  | 2 => .object "ShyWell$Scene"
  | 3 => .boolean
  | 4 => .object "ShyWell$Reader"
  | 5 => .object "ShyWell$Row"
  | 6 => .object "ShyWell$Row"
  | 7 => .array (.object "ShyWell$Sheet")
  | _ => .array (.object "ShyWell$Slot")
theorem nmX7 : ∀ a, a < 9 → ∀ b, b < 9 → a ≠ b → (TX7 a).2.1 ≠ (TX7 b).2.1 := by decide +kernel
theorem tyX7_ok : ∀ k, k < 9 → parseFieldDescriptor (TX7 k).2.2.1 = some (tyX7 k) := by decide +kernel
abbrev cX7_init : ByteArray := prog_1_method_1_code
def yX7_init : MethodName := ⟨RX7, "<init>", "()V"⟩
abbrev cX7_comer : ByteArray := prog_1_method_2_code
def yX7_comer : MethodName := ⟨RX7, "comer", "(IIII)I"⟩
abbrev cX7_told : ByteArray := prog_1_method_3_code
def yX7_told : MethodName := ⟨RX7, "told", "(II)I"⟩
abbrev cX7_as : ByteArray := prog_1_method_4_code
def yX7_as : MethodName := ⟨RX7, "as", "(II)I"⟩
abbrev cX7_turns : ByteArray := prog_1_method_5_code
def yX7_turns : MethodName := ⟨RX7, "turns", "(II)I"⟩
abbrev cX7_set : ByteArray := prog_1_method_6_code
def yX7_set : MethodName := ⟨RX7, "set", "(III)I"⟩
abbrev cX7_well : ByteArray := prog_1_method_7_code
def yX7_well : MethodName := ⟨RX7, "well", "(II)I"⟩
abbrev cX7_deal : ByteArray := prog_1_method_8_code
def yX7_deal : MethodName := ⟨RX7, "deal", "(I)I"⟩
abbrev cX7_seed : ByteArray := prog_1_method_9_code
def yX7_seed : MethodName := ⟨RX7, "seed", "(I)I"⟩
abbrev cX7_run : ByteArray := prog_1_method_10_code
def yX7_run : MethodName := ⟨RX7, "run", "(I)I"⟩
abbrev cX7_behind : ByteArray := prog_1_method_11_code
def yX7_behind : MethodName := ⟨RX7, "behind", "(II)I"⟩
abbrev cX7_fullIn : ByteArray := prog_1_method_12_code
def yX7_fullIn : MethodName := ⟨RX7, "fullIn", "(I)I"⟩
abbrev cX7_best : ByteArray := prog_1_method_13_code
def yX7_best : MethodName := ⟨RX7, "best", "(III)I"⟩
abbrev cX7_alone : ByteArray := prog_1_method_14_code
def yX7_alone : MethodName := ⟨RX7, "alone", "(II)I"⟩
abbrev cX7_mean : ByteArray := prog_1_method_15_code
def yX7_mean : MethodName := ⟨RX7, "mean", "(I)J"⟩
abbrev cX7_least : ByteArray := prog_1_method_16_code
def yX7_least : MethodName := ⟨RX7, "least", "()I"⟩
abbrev cX7_fine : ByteArray := prog_1_method_17_code
def yX7_fine : MethodName := ⟨RX7, "fine", "(I)I"⟩
abbrev cX7_feed : ByteArray := prog_1_method_18_code
def yX7_feed : MethodName := ⟨RX7, "feed", "(III)I"⟩
abbrev cX7_trim : ByteArray := prog_1_method_19_code
def yX7_trim : MethodName := ⟨RX7, "trim", "(I)I"⟩
abbrev cX7_text : ByteArray := prog_1_method_20_code
def yX7_text : MethodName := ⟨RX7, "text", "()I"⟩
abbrev cX7_textTold : ByteArray := prog_1_method_21_code
def yX7_textTold : MethodName := ⟨RX7, "textTold", "(II)I"⟩
abbrev cX7_why : ByteArray := prog_1_method_22_code
def yX7_why : MethodName := ⟨RX7, "why", "(I)I"⟩
abbrev cX7_sheet : ByteArray := prog_1_method_23_code
def yX7_sheet : MethodName := ⟨RX7, "sheet", "(III)I"⟩
abbrev cX7_mark : ByteArray := prog_1_method_24_code
def yX7_mark : MethodName := ⟨RX7, "mark", "(III)I"⟩
abbrev cX7_pour : ByteArray := prog_1_method_25_code
def yX7_pour : MethodName := ⟨RX7, "pour", "(I)I"⟩
abbrev cX7_explained : ByteArray := prog_1_method_26_code
def yX7_explained : MethodName := ⟨RX7, "explained", "(II)I"⟩
abbrev cX7_copy : ByteArray := prog_1_method_27_code
def yX7_copy : MethodName := ⟨RX7, "copy", "(IIIII)I"⟩
abbrev cX7_lay : ByteArray := prog_1_method_28_code
def yX7_lay : MethodName := ⟨RX7, "lay", "(III)I"⟩
abbrev cX7_ask : ByteArray := prog_1_method_29_code
def yX7_ask : MethodName := ⟨RX7, "ask", "(II)I"⟩
abbrev cX7_item : ByteArray := prog_1_method_30_code
def yX7_item : MethodName := ⟨RX7, "item", "(II)I"⟩
abbrev cX7_rest : ByteArray := prog_1_method_31_code
def yX7_rest : MethodName := ⟨RX7, "rest", "(II)I"⟩
abbrev cX7_tell : ByteArray := prog_1_method_32_code
def yX7_tell : MethodName := ⟨RX7, "tell", "(I)I"⟩
abbrev cX7_check : ByteArray := prog_1_method_33_code
def yX7_check : MethodName := ⟨RX7, "check", "(I)I"⟩
abbrev cX7_keep : ByteArray := prog_1_method_34_code
def yX7_keep : MethodName := ⟨RX7, "keep", "()I"⟩
abbrev cX7_back : ByteArray := prog_1_method_35_code
def yX7_back : MethodName := ⟨RX7, "back", "()I"⟩
abbrev cX7_count : ByteArray := prog_1_method_36_code
def yX7_count : MethodName := ⟨RX7, "count", "(I)I"⟩
abbrev cX7_within : ByteArray := prog_1_method_37_code
def yX7_within : MethodName := ⟨RX7, "within", "(III)Z"⟩
abbrev cX7_held : ByteArray := prog_1_method_38_code
def yX7_held : MethodName := ⟨RX7, "held", "(III)I"⟩
abbrev cX7_isKind : ByteArray := prog_1_method_39_code
def yX7_isKind : MethodName := ⟨RX7, "isKind", "(I)Z"⟩
abbrev cX7_isUnder : ByteArray := prog_1_method_40_code
def yX7_isUnder : MethodName := ⟨RX7, "isUnder", "(II)Z"⟩
abbrev cX7_fitsHabit : ByteArray := prog_1_method_41_code
def yX7_fitsHabit : MethodName := ⟨RX7, "fitsHabit", "(II)Z"⟩
abbrev cX7_greatestShared : ByteArray := prog_1_method_42_code
def yX7_greatestShared : MethodName := ⟨RX7, "greatestShared", "(JJ)J"⟩
abbrev cX7_feedBytesOf : ByteArray := prog_1_method_43_code
def yX7_feedBytesOf : MethodName := ⟨RX7, "feedBytesOf", "(I)V"⟩
abbrev cX7_sheetAt : ByteArray := prog_1_method_44_code
def yX7_sheetAt : MethodName := ⟨RX7, "sheetAt", "(I)LShyWell$Sheet;"⟩
abbrev cX7_slotAt : ByteArray := prog_1_method_45_code
def yX7_slotAt : MethodName := ⟨RX7, "slotAt", "(I)LShyWell$Slot;"⟩
abbrev cX7_wasTold : ByteArray := prog_1_method_46_code
def yX7_wasTold : MethodName := ⟨RX7, "wasTold", "(III)Z"⟩
def RX8 : String := "ShyWellModel"
def TX8 : u_T := fun k => match k with
  | 0 => ("ShyWellModel", "s", "[I", true)
  | 1 => ("ShyWellModel", "image", "[I", true)
  | 2 => ("ShyWellModel", "aside", "[I", true)
  | 3 => ("ShyWellModel", "hasImage", "Z", false)
  | 4 => ("ShyWellModel", "tSort", "[I", true)
  | 5 => ("ShyWellModel", "tSize", "[I", true)
  | 6 => ("ShyWellModel", "tNumber", "[I", true)
  | 7 => ("ShyWellModel", "held", "[I", true)
  | 8 => ("ShyWellModel", "heldNumber", "[I", true)
  | 9 => ("ShyWellModel", "heldWorth", "[I", true)
  | 10 => ("ShyWellModel", "heldSize", "[I", true)
  | 11 => ("ShyWellModel", "heldRow", "[I", true)
  | 12 => ("ShyWellModel", "whereAtFirst", "[I", true)
  | 13 => ("ShyWellModel", "only", "I", false)
  | 14 => ("ShyWellModel", "stoodBy", "I", false)
  | 15 => ("ShyWellModel", "close", "[I", true)
  | 16 => ("ShyWellModel", "tape", "[I", true)
  | 17 => ("ShyWellModel", "taped", "I", false)
  | 18 => ("ShyWellModel", "begin", "I", false)
  | 19 => ("ShyWellModel", "behind", "I", false)
  | 20 => ("ShyWellModel", "token", "I", false)
  | 21 => ("ShyWellModel", "number", "I", false)
  | 22 => ("ShyWellModel", "letter", "I", false)
  | 23 => ("ShyWellModel", "deep", "I", false)
  | 24 => ("ShyWellModel", "turned", "I", false)
  | 25 => ("ShyWellModel", "laid", "I", false)
  | 26 => ("ShyWellModel", "laidAt", "I", false)
  | 27 => ("ShyWellModel", "said", "I", false)
  | 28 => ("ShyWellModel", "named", "[I", true)
  | 29 => ("ShyWellModel", "pile", "[I", true)
  | 30 => ("ShyWellModel", "carried", "[I", true)
  | 31 => ("ShyWellModel", "waits", "[I", true)
  | 32 => ("ShyWellModel", "waiting", "I", false)
  | _ => ("ShyWellModel", "rowDue", "[I", true)
def tyX8 : Nat → FieldType := fun k => match k with
  | 0 => .array .int
  | 1 => .array .int
  | 2 => .array .int
  | 3 => .boolean
  | 4 => .array .int
  | 5 => .array .int
  | 6 => .array .int
  | 7 => .array .int
  | 8 => .array .int
  | 9 => .array .int
  | 10 => .array .int
  | 11 => .array .int
  | 12 => .array .int
  | 13 => .int
  | 14 => .int
  | 15 => .array .int
  | 16 => .array .int
  | 17 => .int
  | 18 => .int
  | 19 => .int
  | 20 => .int
  | 21 => .int
  | 22 => .int
  | 23 => .int
  | 24 => .int
  | 25 => .int
  | 26 => .int
  | 27 => .int
  | 28 => .array .int
  | 29 => .array .int
  | 30 => .array .int
  | 31 => .array .int
  | 32 => .int
  | _ => .array .int
theorem nmX8 : ∀ a, a < 34 → ∀ b, b < 34 → a ≠ b → (TX8 a).2.1 ≠ (TX8 b).2.1 := by decide +kernel
theorem tyX8_ok : ∀ k, k < 34 → parseFieldDescriptor (TX8 k).2.2.1 = some (tyX8 k) := by decide +kernel
abbrev cX8_init : ByteArray := prog_10_method_1_code
def yX8_init : MethodName := ⟨RX8, "<init>", "()V"⟩
abbrev cX8_isIn : ByteArray := prog_10_method_2_code
def yX8_isIn : MethodName := ⟨RX8, "isIn", "(JJJ)Z"⟩
abbrev cX8_orNone : ByteArray := prog_10_method_3_code
def yX8_orNone : MethodName := ⟨RX8, "orNone", "(I)I"⟩
abbrev cX8_within : ByteArray := prog_10_method_4_code
def yX8_within : MethodName := ⟨RX8, "within", "(II)I"⟩
abbrev cX8_becomes : ByteArray := prog_10_method_5_code
def yX8_becomes : MethodName := ⟨RX8, "becomes", "(II)I"⟩
abbrev cX8_textAt : ByteArray := prog_10_method_6_code
def yX8_textAt : MethodName := ⟨RX8, "textAt", "(I)I"⟩
abbrev cX8_of : ByteArray := prog_10_method_7_code
def yX8_of : MethodName := ⟨RX8, "of", "(II)I"⟩
abbrev cX8_sets : ByteArray := prog_10_method_8_code
def yX8_sets : MethodName := ⟨RX8, "sets", "(III)V"⟩
abbrev cX8_more : ByteArray := prog_10_method_9_code
def yX8_more : MethodName := ⟨RX8, "more", "(II)V"⟩
abbrev cX8_isComer : ByteArray := prog_10_method_10_code
def yX8_isComer : MethodName := ⟨RX8, "isComer", "(I)Z"⟩
abbrev cX8_isText : ByteArray := prog_10_method_11_code
def yX8_isText : MethodName := ⟨RX8, "isText", "(I)Z"⟩
abbrev cX8_drawn : ByteArray := prog_10_method_12_code
def yX8_drawn : MethodName := ⟨RX8, "drawn", "()I"⟩
abbrev cX8_comes : ByteArray := prog_10_method_13_code
def yX8_comes : MethodName := ⟨RX8, "comes", "(IIII)V"⟩
abbrev cX8_comer : ByteArray := prog_10_method_14_code
def yX8_comer : MethodName := ⟨RX8, "comer", "(IIII)I"⟩
abbrev cX8_standing : ByteArray := prog_10_method_15_code
def yX8_standing : MethodName := ⟨RX8, "standing", "()I"⟩
abbrev cX8_plainLeaves : ByteArray := prog_10_method_16_code
def yX8_plainLeaves : MethodName := ⟨RX8, "plainLeaves", "(I)Z"⟩
abbrev cX8_wouldLeave : ByteArray := prog_10_method_17_code
def yX8_wouldLeave : MethodName := ⟨RX8, "wouldLeave", "(I)Z"⟩
abbrev cX8_stays : ByteArray := prog_10_method_18_code
def yX8_stays : MethodName := ⟨RX8, "stays", "(I)I"⟩
abbrev cX8_worth : ByteArray := prog_10_method_19_code
def yX8_worth : MethodName := ⟨RX8, "worth", "(I)I"⟩
abbrev cX8_told : ByteArray := prog_10_method_20_code
def yX8_told : MethodName := ⟨RX8, "told", "(II)I"⟩
abbrev cX8_isOf : ByteArray := prog_10_method_21_code
def yX8_isOf : MethodName := ⟨RX8, "isOf", "(II)Z"⟩
abbrev cX8_as : ByteArray := prog_10_method_22_code
def yX8_as : MethodName := ⟨RX8, "as", "(II)I"⟩
abbrev cX8_turns : ByteArray := prog_10_method_23_code
def yX8_turns : MethodName := ⟨RX8, "turns", "(II)I"⟩
abbrev cX8_set : ByteArray := prog_10_method_24_code
def yX8_set : MethodName := ⟨RX8, "set", "(III)I"⟩
abbrev cX8_mayBe : ByteArray := prog_10_method_25_code
def yX8_mayBe : MethodName := ⟨RX8, "mayBe", "(II)Z"⟩
abbrev cX8_well : ByteArray := prog_10_method_26_code
def yX8_well : MethodName := ⟨RX8, "well", "(II)I"⟩
abbrev cX8_deal : ByteArray := prog_10_method_27_code
def yX8_deal : MethodName := ⟨RX8, "deal", "(I)I"⟩
abbrev cX8_seed : ByteArray := prog_10_method_28_code
def yX8_seed : MethodName := ⟨RX8, "seed", "(I)I"⟩
abbrev cX8_goesBack : ByteArray := prog_10_method_29_code
def yX8_goesBack : MethodName := ⟨RX8, "goesBack", "(I)V"⟩
abbrev cX8_isThere : ByteArray := prog_10_method_30_code
def yX8_isThere : MethodName := ⟨RX8, "isThere", "(I)V"⟩
abbrev cX8_leaveHome : ByteArray := prog_10_method_31_code
def yX8_leaveHome : MethodName := ⟨RX8, "leaveHome", "()V"⟩
abbrev cX8_comeThere : ByteArray := prog_10_method_32_code
def yX8_comeThere : MethodName := ⟨RX8, "comeThere", "()Z"⟩
abbrev cX8_waitOrGo : ByteArray := prog_10_method_33_code
def yX8_waitOrGo : MethodName := ⟨RX8, "waitOrGo", "()V"⟩
abbrev cX8_goesOn : ByteArray := prog_10_method_34_code
def yX8_goesOn : MethodName := ⟨RX8, "goesOn", "()V"⟩
abbrev cX8_ofAll : ByteArray := prog_10_method_35_code
def yX8_ofAll : MethodName := ⟨RX8, "ofAll", "(I)I"⟩
abbrev cX8_run : ByteArray := prog_10_method_36_code
def yX8_run : MethodName := ⟨RX8, "run", "(I)I"⟩
abbrev cX8_laysBy : ByteArray := prog_10_method_37_code
def yX8_laysBy : MethodName := ⟨RX8, "laysBy", "()V"⟩
abbrev cX8_laysBack : ByteArray := prog_10_method_38_code
def yX8_laysBack : MethodName := ⟨RX8, "laysBack", "()V"⟩
abbrev cX8_goesOnMany : ByteArray := prog_10_method_39_code
def yX8_goesOnMany : MethodName := ⟨RX8, "goesOnMany", "(I)V"⟩
abbrev cX8_behind : ByteArray := prog_10_method_40_code
def yX8_behind : MethodName := ⟨RX8, "behind", "(II)I"⟩
abbrev cX8_fullIn : ByteArray := prog_10_method_41_code
def yX8_fullIn : MethodName := ⟨RX8, "fullIn", "(I)I"⟩
abbrev cX8_best : ByteArray := prog_10_method_42_code
def yX8_best : MethodName := ⟨RX8, "best", "(III)I"⟩
abbrev cX8_alone : ByteArray := prog_10_method_43_code
def yX8_alone : MethodName := ⟨RX8, "alone", "(II)I"⟩
abbrev cX8_mean : ByteArray := prog_10_method_44_code
def yX8_mean : MethodName := ⟨RX8, "mean", "(I)J"⟩
abbrev cX8_least : ByteArray := prog_10_method_45_code
def yX8_least : MethodName := ⟨RX8, "least", "()I"⟩
abbrev cX8_fine : ByteArray := prog_10_method_46_code
def yX8_fine : MethodName := ⟨RX8, "fine", "(I)I"⟩
abbrev cX8_feed : ByteArray := prog_10_method_47_code
def yX8_feed : MethodName := ⟨RX8, "feed", "(III)I"⟩
abbrev cX8_trim : ByteArray := prog_10_method_48_code
def yX8_trim : MethodName := ⟨RX8, "trim", "(I)I"⟩
abbrev cX8_isLetter : ByteArray := prog_10_method_49_code
def yX8_isLetter : MethodName := ⟨RX8, "isLetter", "(I)Z"⟩
abbrev cX8_isDigit : ByteArray := prog_10_method_50_code
def yX8_isDigit : MethodName := ⟨RX8, "isDigit", "(I)Z"⟩
abbrev cX8_nextToken : ByteArray := prog_10_method_51_code
def yX8_nextToken : MethodName := ⟨RX8, "nextToken", "()V"⟩
abbrev cX8_isSign : ByteArray := prog_10_method_52_code
def yX8_isSign : MethodName := ⟨RX8, "isSign", "(I)Z"⟩
abbrev cX8_isWordAt : ByteArray := prog_10_method_53_code
def yX8_isWordAt : MethodName := ⟨RX8, "isWordAt", "(IIII)Z"⟩
abbrev cX8_isLong : ByteArray := prog_10_method_54_code
def yX8_isLong : MethodName := ⟨RX8, "isLong", "(IIIIII)Z"⟩
abbrev cX8_key : ByteArray := prog_10_method_55_code
def yX8_key : MethodName := ⟨RX8, "key", "()I"⟩
abbrev cX8_isName : ByteArray := prog_10_method_56_code
def yX8_isName : MethodName := ⟨RX8, "isName", "(II)Z"⟩
abbrev cX8_step : ByteArray := prog_10_method_57_code
def yX8_step : MethodName := ⟨RX8, "step", "(II)V"⟩
abbrev cX8_either : ByteArray := prog_10_method_58_code
def yX8_either : MethodName := ⟨RX8, "either", "(I)Z"⟩
abbrev cX8_both : ByteArray := prog_10_method_59_code
def yX8_both : MethodName := ⟨RX8, "both", "(I)Z"⟩
abbrev cX8_test : ByteArray := prog_10_method_60_code
def yX8_test : MethodName := ⟨RX8, "test", "(I)Z"⟩
abbrev cX8_sum : ByteArray := prog_10_method_61_code
def yX8_sum : MethodName := ⟨RX8, "sum", "(I)Z"⟩
abbrev cX8_term : ByteArray := prog_10_method_62_code
def yX8_term : MethodName := ⟨RX8, "term", "(I)Z"⟩
abbrev cX8_part0 : ByteArray := prog_10_method_63_code
def yX8_part0 : MethodName := ⟨RX8, "part0", "(I)Z"⟩
abbrev cX8_parse : ByteArray := prog_10_method_64_code
def yX8_parse : MethodName := ⟨RX8, "parse", "()I"⟩
abbrev cX8_text : ByteArray := prog_10_method_65_code
def yX8_text : MethodName := ⟨RX8, "text", "()I"⟩
abbrev cX8_textTold : ByteArray := prog_10_method_66_code
def yX8_textTold : MethodName := ⟨RX8, "textTold", "(II)I"⟩
abbrev cX8_counts : ByteArray := prog_10_method_67_code
def yX8_counts : MethodName := ⟨RX8, "counts", "(I)I"⟩
abbrev cX8_why : ByteArray := prog_10_method_68_code
def yX8_why : MethodName := ⟨RX8, "why", "(I)I"⟩
abbrev cX8_joined : ByteArray := prog_10_method_69_code
def yX8_joined : MethodName := ⟨RX8, "joined", "(III)I"⟩
abbrev cX8_worked : ByteArray := prog_10_method_70_code
def yX8_worked : MethodName := ⟨RX8, "worked", "(I)I"⟩
abbrev cX8_isSheet : ByteArray := prog_10_method_71_code
def yX8_isSheet : MethodName := ⟨RX8, "isSheet", "(I)Z"⟩
abbrev cX8_sheet : ByteArray := prog_10_method_72_code
def yX8_sheet : MethodName := ⟨RX8, "sheet", "(III)I"⟩
abbrev cX8_mark : ByteArray := prog_10_method_73_code
def yX8_mark : MethodName := ⟨RX8, "mark", "(III)I"⟩
abbrev cX8_pour : ByteArray := prog_10_method_74_code
def yX8_pour : MethodName := ⟨RX8, "pour", "(I)I"⟩
abbrev cX8_waterBehind : ByteArray := prog_10_method_75_code
def yX8_waterBehind : MethodName := ⟨RX8, "waterBehind", "(II)I"⟩
abbrev cX8_explained : ByteArray := prog_10_method_76_code
def yX8_explained : MethodName := ⟨RX8, "explained", "(II)I"⟩
abbrev cX8_copy : ByteArray := prog_10_method_77_code
def yX8_copy : MethodName := ⟨RX8, "copy", "(IIIII)I"⟩
abbrev cX8_isSlot : ByteArray := prog_10_method_78_code
def yX8_isSlot : MethodName := ⟨RX8, "isSlot", "(I)Z"⟩
abbrev cX8_lay : ByteArray := prog_10_method_79_code
def yX8_lay : MethodName := ⟨RX8, "lay", "(III)I"⟩
abbrev cX8_ask : ByteArray := prog_10_method_80_code
def yX8_ask : MethodName := ⟨RX8, "ask", "(II)I"⟩
abbrev cX8_item : ByteArray := prog_10_method_81_code
def yX8_item : MethodName := ⟨RX8, "item", "(II)I"⟩
abbrev cX8_rest : ByteArray := prog_10_method_82_code
def yX8_rest : MethodName := ⟨RX8, "rest", "(II)I"⟩
abbrev cX8_tell : ByteArray := prog_10_method_83_code
def yX8_tell : MethodName := ⟨RX8, "tell", "(I)I"⟩
abbrev cX8_setAside : ByteArray := prog_10_method_84_code
def yX8_setAside : MethodName := ⟨RX8, "setAside", "([I[I)V"⟩
abbrev cX8_check : ByteArray := prog_10_method_85_code
def yX8_check : MethodName := ⟨RX8, "check", "(I)I"⟩
abbrev cX8_keep : ByteArray := prog_10_method_86_code
def yX8_keep : MethodName := ⟨RX8, "keep", "()I"⟩
abbrev cX8_back : ByteArray := prog_10_method_87_code
def yX8_back : MethodName := ⟨RX8, "back", "()I"⟩
abbrev cX8_count : ByteArray := prog_10_method_88_code
def yX8_count : MethodName := ⟨RX8, "count", "(I)I"⟩
def RJx145de : String := "java/io/Serializable"
def RJx9f9b0 : String := "java/lang/CharSequence"
def RJ11 : String := "java/lang/Character"
abbrev cJ11_isValidCodePoint_9a6ad : ByteArray := prog_11_method_11_code
def yJ11_isValidCodePoint_9a6ad : MethodName := ⟨RJ11, "isValidCodePoint", "(I)Z"⟩
abbrev cJ11_highSurrogate_5068e : ByteArray := prog_11_method_28_code
def yJ11_highSurrogate_5068e : MethodName := ⟨RJ11, "highSurrogate", "(I)C"⟩
abbrev cJ11_lowSurrogate_5068e : ByteArray := prog_11_method_29_code
def yJ11_lowSurrogate_5068e : MethodName := ⟨RJ11, "lowSurrogate", "(I)C"⟩
def RJx8e188 : String := "java/lang/Cloneable"
def RJxb160c : String := "java/lang/Comparable"
def RJ9 : String := "java/lang/Math"
abbrev cJ9_abs_0f7a4 : ByteArray := prog_13_method_59_code
def yJ9_abs_0f7a4 : MethodName := ⟨RJ9, "abs", "(I)I"⟩
abbrev cJ9_max_7cf53 : ByteArray := prog_13_method_65_code
def yJ9_max_7cf53 : MethodName := ⟨RJ9, "max", "(II)I"⟩
abbrev cJ9_min_7cf53 : ByteArray := prog_13_method_69_code
def yJ9_min_7cf53 : MethodName := ⟨RJ9, "min", "(II)I"⟩
def RJ0 : String := "java/lang/String"
abbrev cJ0_length_8abf5 : ByteArray := prog_14_method_54_code
def yJ0_length_8abf5 : MethodName := ⟨RJ0, "length", "()I"⟩
abbrev cJ0_charAt_5068e : ByteArray := prog_14_method_56_code
def yJ0_charAt_5068e : MethodName := ⟨RJ0, "charAt", "(I)C"⟩
abbrev cJ0_indexOf_0f7a4 : ByteArray := prog_14_method_79_code
def yJ0_indexOf_0f7a4 : MethodName := ⟨RJ0, "indexOf", "(I)I"⟩
abbrev cJ0_indexOf_7cf53 : ByteArray := prog_14_method_80_code
def yJ0_indexOf_7cf53 : MethodName := ⟨RJ0, "indexOf", "(II)I"⟩
abbrev cJ0_coder_7d493 : ByteArray := prog_14_method_152_code
def yJ0_coder_7d493 : MethodName := ⟨RJ0, "coder", "()B"⟩
abbrev cJ0_isLatin1_aae02 : ByteArray := prog_14_method_154_code
def yJ0_isLatin1_aae02 : MethodName := ⟨RJ0, "isLatin1", "()Z"⟩
abbrev cJ0_checkIndex_df160 : ByteArray := prog_14_method_155_code
def yJ0_checkIndex_df160 : MethodName := ⟨RJ0, "checkIndex", "(II)V"⟩
abbrev cJ0_checkBoundsBeginEnd_23922 : ByteArray := prog_14_method_158_code
def yJ0_checkBoundsBeginEnd_23922 : MethodName := ⟨RJ0, "checkBoundsBeginEnd", "(III)V"⟩
def RJ1 : String := "java/lang/StringLatin1"
abbrev cJ1_charAt_3b067 : ByteArray := prog_15_method_2_code
def yJ1_charAt_3b067 : MethodName := ⟨RJ1, "charAt", "([BI)C"⟩
abbrev cJ1_canEncode_9a6ad : ByteArray := prog_15_method_4_code
def yJ1_canEncode_9a6ad : MethodName := ⟨RJ1, "canEncode", "(I)Z"⟩
abbrev cJ1_indexOf_4cfef : ByteArray := prog_15_method_22_code
def yJ1_indexOf_4cfef : MethodName := ⟨RJ1, "indexOf", "([BIII)I"⟩
abbrev cJ1_indexOfChar_4cfef : ByteArray := prog_15_method_23_code
def yJ1_indexOfChar_4cfef : MethodName := ⟨RJ1, "indexOfChar", "([BIII)I"⟩
def RJ2 : String := "java/lang/StringUTF16"
abbrev cJ2_getChar_3b067 : ByteArray := prog_16_method_5_code
def yJ2_getChar_3b067 : MethodName := ⟨RJ2, "getChar", "([BI)C"⟩
abbrev cJ2_length_9d52b : ByteArray := prog_16_method_6_code
def yJ2_length_9d52b : MethodName := ⟨RJ2, "length", "([B)I"⟩
abbrev cJ2_indexOf_4cfef : ByteArray := prog_16_method_40_code
def yJ2_indexOf_4cfef : MethodName := ⟨RJ2, "indexOf", "([BIII)I"⟩
abbrev cJ2_indexOfChar_4cfef : ByteArray := prog_16_method_47_code
def yJ2_indexOfChar_4cfef : MethodName := ⟨RJ2, "indexOfChar", "([BIII)I"⟩
abbrev cJ2_indexOfCharUnsafe_4cfef : ByteArray := prog_16_method_48_code
def yJ2_indexOfCharUnsafe_4cfef : MethodName := ⟨RJ2, "indexOfCharUnsafe", "([BIII)I"⟩
abbrev cJ2_indexOfSupplementary_4cfef : ByteArray := prog_16_method_49_code
def yJ2_indexOfSupplementary_4cfef : MethodName := ⟨RJ2, "indexOfSupplementary", "([BIII)I"⟩
abbrev cJ2_charAt_3b067 : ByteArray := prog_16_method_83_code
def yJ2_charAt_3b067 : MethodName := ⟨RJ2, "charAt", "([BI)C"⟩
abbrev cJ2_checkIndex_2214a : ByteArray := prog_16_method_91_code
def yJ2_checkIndex_2214a : MethodName := ⟨RJ2, "checkIndex", "(I[B)V"⟩
abbrev cJ2_checkBoundsBeginEnd_d044e : ByteArray := prog_16_method_93_code
def yJ2_checkBoundsBeginEnd_d044e : MethodName := ⟨RJ2, "checkBoundsBeginEnd", "(II[B)V"⟩
def RJ10 : String := "java/lang/System"
def RJxfd54e : String := "java/lang/constant/Constable"
def RJx3cf43 : String := "java/lang/constant/ConstantDesc"
def RJ7 : String := "java/util/Arrays"
abbrev cJ7_fill_53178 : ByteArray := prog_18_method_103_code
def yJ7_fill_53178 : MethodName := ⟨RJ7, "fill", "([II)V"⟩
abbrev cJ7_copyOf_59c91 : ByteArray := prog_18_method_123_code
def yJ7_copyOf_59c91 : MethodName := ⟨RJ7, "copyOf", "([II)[I"⟩
def RJ3 : String := "jdk/internal/util/Preconditions"
abbrev cJ3_checkIndex_8e157 : ByteArray := prog_19_method_11_code
def yJ3_checkIndex_8e157 : MethodName := ⟨RJ3, "checkIndex", "(IILjava/util/function/BiFunction;)I"⟩
abbrev cJ3_checkFromToIndex_8c36e : ByteArray := prog_19_method_12_code
def yJ3_checkFromToIndex_8c36e : MethodName := ⟨RJ3, "checkFromToIndex", "(IIILjava/util/function/BiFunction;)I"⟩
def RL : String := "ShyWellLaw"
abbrev cL_law : ByteArray := code
def yL_law : MethodName := ⟨RL, "law", "([I)Z"⟩
