section
-- ===== PART A: goes FIRST, ahead of the names: the tables' words, and 'selects' of the private methods out of them =====
/-- a private method of a class that the tables say can be made, by its rows of tables_1 -/
def lw_okq (q : MethodName × Nat) : Prop := (q.1.cls ≠ "java/lang/invoke/MethodHandle" ∧ q.1.cls ≠ "java/lang/invoke/VarHandle") ∧ Cond.instantiable q.1.cls q.2 ∈ tables_1 ∧ Cond.privateMethod q.1 ∈ tables_1 ∧ Cond.instanceMethod q.1 ∈ tables_1
theorem lw_p0 : lw_okq (⟨"HandedLabels$Net", "findWays", "()V"⟩, 7) := ⟨⟨by decide +kernel, by decide +kernel⟩, List.mem_of_getElem? (i := 17) (by decide +kernel), List.mem_of_getElem? (i := 173) (by decide +kernel), List.mem_of_getElem? (i := 174) (by decide +kernel)⟩
theorem lw_p1 : lw_okq (⟨"HandedLabels$Net", "findWaysOf", "(I)V"⟩, 7) := ⟨⟨by decide +kernel, by decide +kernel⟩, List.mem_of_getElem? (i := 17) (by decide +kernel), List.mem_of_getElem? (i := 177) (by decide +kernel), List.mem_of_getElem? (i := 178) (by decide +kernel)⟩
theorem lw_p2 : lw_okq (⟨"HandedLabels$Net", "shorten", "(I)Z"⟩, 7) := ⟨⟨by decide +kernel, by decide +kernel⟩, List.mem_of_getElem? (i := 17) (by decide +kernel), List.mem_of_getElem? (i := 184) (by decide +kernel), List.mem_of_getElem? (i := 185) (by decide +kernel)⟩
theorem lw_p3 : lw_okq (⟨"HandedLabels$Net", "findNextSide", "(II)I"⟩, 7) := ⟨⟨by decide +kernel, by decide +kernel⟩, List.mem_of_getElem? (i := 17) (by decide +kernel), List.mem_of_getElem? (i := 192) (by decide +kernel), List.mem_of_getElem? (i := 193) (by decide +kernel)⟩
theorem lw_p4 : lw_okq (⟨"HandedLabels$Net", "leadsOn", "(II)Z"⟩, 7) := ⟨⟨by decide +kernel, by decide +kernel⟩, List.mem_of_getElem? (i := 17) (by decide +kernel), List.mem_of_getElem? (i := 196) (by decide +kernel), List.mem_of_getElem? (i := 197) (by decide +kernel)⟩
theorem lw_p5 : lw_okq (⟨"HandedLabels$Labels", "handNothing", "(I)V"⟩, 12) := ⟨⟨by decide +kernel, by decide +kernel⟩, List.mem_of_getElem? (i := 59) (by decide +kernel), List.mem_of_getElem? (i := 266) (by decide +kernel), List.mem_of_getElem? (i := 267) (by decide +kernel)⟩
theorem lw_p6 : lw_okq (⟨"HandedLabels$Labels", "tick", "()I"⟩, 12) := ⟨⟨by decide +kernel, by decide +kernel⟩, List.mem_of_getElem? (i := 59) (by decide +kernel), List.mem_of_getElem? (i := 282) (by decide +kernel), List.mem_of_getElem? (i := 283) (by decide +kernel)⟩
theorem lw_p7 : lw_okq (⟨"HandedLabels$Labels", "placeSlips", "(I)V"⟩, 12) := ⟨⟨by decide +kernel, by decide +kernel⟩, List.mem_of_getElem? (i := 59) (by decide +kernel), List.mem_of_getElem? (i := 286) (by decide +kernel), List.mem_of_getElem? (i := 287) (by decide +kernel)⟩
theorem lw_p8 : lw_okq (⟨"HandedLabels$Labels", "countToHand", "(II)I"⟩, 12) := ⟨⟨by decide +kernel, by decide +kernel⟩, List.mem_of_getElem? (i := 59) (by decide +kernel), List.mem_of_getElem? (i := 290) (by decide +kernel), List.mem_of_getElem? (i := 291) (by decide +kernel)⟩
theorem lw_p9 : lw_okq (⟨"HandedLabels$Labels", "placeOver", "(I)V"⟩, 12) := ⟨⟨by decide +kernel, by decide +kernel⟩, List.mem_of_getElem? (i := 59) (by decide +kernel), List.mem_of_getElem? (i := 302) (by decide +kernel), List.mem_of_getElem? (i := 303) (by decide +kernel)⟩
theorem lw_p10 : lw_okq (⟨"HandedLabels$Labels", "goesOver", "(II)Z"⟩, 12) := ⟨⟨by decide +kernel, by decide +kernel⟩, List.mem_of_getElem? (i := 59) (by decide +kernel), List.mem_of_getElem? (i := 306) (by decide +kernel), List.mem_of_getElem? (i := 307) (by decide +kernel)⟩
theorem lw_p11 : lw_okq (⟨"HandedLabels$Labels", "fillRows", "(I)V"⟩, 12) := ⟨⟨by decide +kernel, by decide +kernel⟩, List.mem_of_getElem? (i := 59) (by decide +kernel), List.mem_of_getElem? (i := 318) (by decide +kernel), List.mem_of_getElem? (i := 319) (by decide +kernel)⟩
theorem lw_p12 : lw_okq (⟨"HandedLabels$Labels", "fillRow", "(III)V"⟩, 12) := ⟨⟨by decide +kernel, by decide +kernel⟩, List.mem_of_getElem? (i := 59) (by decide +kernel), List.mem_of_getElem? (i := 322) (by decide +kernel), List.mem_of_getElem? (i := 323) (by decide +kernel)⟩
theorem lw_p13 : lw_okq (⟨"HandedLabels$Labels", "labelAhead", "(IIII)I"⟩, 12) := ⟨⟨by decide +kernel, by decide +kernel⟩, List.mem_of_getElem? (i := 59) (by decide +kernel), List.mem_of_getElem? (i := 326) (by decide +kernel), List.mem_of_getElem? (i := 327) (by decide +kernel)⟩
theorem lw_p14 : lw_okq (⟨"HandedLabels$Labels", "labelOver", "(I)V"⟩, 12) := ⟨⟨by decide +kernel, by decide +kernel⟩, List.mem_of_getElem? (i := 59) (by decide +kernel), List.mem_of_getElem? (i := 339) (by decide +kernel), List.mem_of_getElem? (i := 340) (by decide +kernel)⟩
theorem lw_p15 : lw_okq (⟨"HandedLabels$Labels", "takeFresh", "()Z"⟩, 12) := ⟨⟨by decide +kernel, by decide +kernel⟩, List.mem_of_getElem? (i := 59) (by decide +kernel), List.mem_of_getElem? (i := 343) (by decide +kernel), List.mem_of_getElem? (i := 344) (by decide +kernel)⟩
def lw_privs_1 : List (MethodName × Nat) := [(⟨"HandedLabels$Net", "findWays", "()V"⟩, 7), (⟨"HandedLabels$Net", "findWaysOf", "(I)V"⟩, 7), (⟨"HandedLabels$Net", "shorten", "(I)Z"⟩, 7), (⟨"HandedLabels$Net", "findNextSide", "(II)I"⟩, 7), (⟨"HandedLabels$Net", "leadsOn", "(II)Z"⟩, 7), (⟨"HandedLabels$Labels", "handNothing", "(I)V"⟩, 12), (⟨"HandedLabels$Labels", "tick", "()I"⟩, 12), (⟨"HandedLabels$Labels", "placeSlips", "(I)V"⟩, 12), (⟨"HandedLabels$Labels", "countToHand", "(II)I"⟩, 12), (⟨"HandedLabels$Labels", "placeOver", "(I)V"⟩, 12), (⟨"HandedLabels$Labels", "goesOver", "(II)Z"⟩, 12), (⟨"HandedLabels$Labels", "fillRows", "(I)V"⟩, 12), (⟨"HandedLabels$Labels", "fillRow", "(III)V"⟩, 12), (⟨"HandedLabels$Labels", "labelAhead", "(IIII)I"⟩, 12), (⟨"HandedLabels$Labels", "labelOver", "(I)V"⟩, 12), (⟨"HandedLabels$Labels", "takeFresh", "()Z"⟩, 12)]
theorem lw_r1 : ∀ q ∈ lw_privs_1, lw_okq q := List.forall_mem_cons.mpr ⟨lw_p0, List.forall_mem_cons.mpr ⟨lw_p1, List.forall_mem_cons.mpr ⟨lw_p2, List.forall_mem_cons.mpr ⟨lw_p3, List.forall_mem_cons.mpr ⟨lw_p4, List.forall_mem_cons.mpr ⟨lw_p5, List.forall_mem_cons.mpr ⟨lw_p6, List.forall_mem_cons.mpr ⟨lw_p7, List.forall_mem_cons.mpr ⟨lw_p8, List.forall_mem_cons.mpr ⟨lw_p9, List.forall_mem_cons.mpr ⟨lw_p10, List.forall_mem_cons.mpr ⟨lw_p11, List.forall_mem_cons.mpr ⟨lw_p12, List.forall_mem_cons.mpr ⟨lw_p13, List.forall_mem_cons.mpr ⟨lw_p14, List.forall_mem_cons.mpr ⟨lw_p15, fun _ h => absurd h List.not_mem_nil⟩⟩⟩⟩⟩⟩⟩⟩⟩⟩⟩⟩⟩⟩⟩⟩
theorem lw_p16 : lw_okq (⟨"HandedLabels$Labels", "keepAll", "()Z"⟩, 12) := ⟨⟨by decide +kernel, by decide +kernel⟩, List.mem_of_getElem? (i := 59) (by decide +kernel), List.mem_of_getElem? (i := 347) (by decide +kernel), List.mem_of_getElem? (i := 348) (by decide +kernel)⟩
theorem lw_p17 : lw_okq (⟨"HandedLabels$Labels", "slipToKeep", "(II)I"⟩, 12) := ⟨⟨by decide +kernel, by decide +kernel⟩, List.mem_of_getElem? (i := 59) (by decide +kernel), List.mem_of_getElem? (i := 351) (by decide +kernel), List.mem_of_getElem? (i := 352) (by decide +kernel)⟩
theorem lw_p18 : lw_okq (⟨"HandedLabels", "sideFor", "(II)I"⟩, 4) := ⟨⟨by decide +kernel, by decide +kernel⟩, List.mem_of_getElem? (i := 9) (by decide +kernel), List.mem_of_getElem? (i := 359) (by decide +kernel), List.mem_of_getElem? (i := 360) (by decide +kernel)⟩
theorem lw_p19 : lw_okq (⟨"HandedLabels", "isServed", "(III)Z"⟩, 4) := ⟨⟨by decide +kernel, by decide +kernel⟩, List.mem_of_getElem? (i := 9) (by decide +kernel), List.mem_of_getElem? (i := 418) (by decide +kernel), List.mem_of_getElem? (i := 419) (by decide +kernel)⟩
theorem lw_p20 : lw_okq (⟨"HandedLabelsModel", "linkBetween", "(II)I"⟩, 27) := ⟨⟨by decide +kernel, by decide +kernel⟩, List.mem_of_getElem? (i := 450) (by decide +kernel), List.mem_of_getElem? (i := 549) (by decide +kernel), List.mem_of_getElem? (i := 550) (by decide +kernel)⟩
theorem lw_p21 : lw_okq (⟨"HandedLabelsModel", "isLink", "(I)Z"⟩, 27) := ⟨⟨by decide +kernel, by decide +kernel⟩, List.mem_of_getElem? (i := 450) (by decide +kernel), List.mem_of_getElem? (i := 557) (by decide +kernel), List.mem_of_getElem? (i := 558) (by decide +kernel)⟩
theorem lw_p22 : lw_okq (⟨"HandedLabelsModel", "nextOf", "(II)I"⟩, 27) := ⟨⟨by decide +kernel, by decide +kernel⟩, List.mem_of_getElem? (i := 450) (by decide +kernel), List.mem_of_getElem? (i := 580) (by decide +kernel), List.mem_of_getElem? (i := 581) (by decide +kernel)⟩
theorem lw_p23 : lw_okq (⟨"HandedLabelsModel", "findFar", "(I)V"⟩, 27) := ⟨⟨by decide +kernel, by decide +kernel⟩, List.mem_of_getElem? (i := 450) (by decide +kernel), List.mem_of_getElem? (i := 584) (by decide +kernel), List.mem_of_getElem? (i := 585) (by decide +kernel)⟩
theorem lw_p24 : lw_okq (⟨"HandedLabelsModel", "goesOn", "()V"⟩, 27) := ⟨⟨by decide +kernel, by decide +kernel⟩, List.mem_of_getElem? (i := 450) (by decide +kernel), List.mem_of_getElem? (i := 607) (by decide +kernel), List.mem_of_getElem? (i := 608) (by decide +kernel)⟩
theorem lw_p25 : lw_okq (⟨"HandedLabelsModel", "countOf", "(II)I"⟩, 27) := ⟨⟨by decide +kernel, by decide +kernel⟩, List.mem_of_getElem? (i := 450) (by decide +kernel), List.mem_of_getElem? (i := 611) (by decide +kernel), List.mem_of_getElem? (i := 612) (by decide +kernel)⟩
theorem lw_p26 : lw_okq (⟨"HandedLabelsModel", "usedAt", "(II)I"⟩, 27) := ⟨⟨by decide +kernel, by decide +kernel⟩, List.mem_of_getElem? (i := 450) (by decide +kernel), List.mem_of_getElem? (i := 615) (by decide +kernel), List.mem_of_getElem? (i := 616) (by decide +kernel)⟩
theorem lw_p27 : lw_okq (⟨"HandedLabelsModel", "handsAll", "(I)V"⟩, 27) := ⟨⟨by decide +kernel, by decide +kernel⟩, List.mem_of_getElem? (i := 450) (by decide +kernel), List.mem_of_getElem? (i := 619) (by decide +kernel), List.mem_of_getElem? (i := 620) (by decide +kernel)⟩
theorem lw_p28 : lw_okq (⟨"HandedLabelsModel", "is", "(II)Z"⟩, 27) := ⟨⟨by decide +kernel, by decide +kernel⟩, List.mem_of_getElem? (i := 450) (by decide +kernel), List.mem_of_getElem? (i := 623) (by decide +kernel), List.mem_of_getElem? (i := 624) (by decide +kernel)⟩
theorem lw_p29 : lw_okq (⟨"HandedLabelsModel", "handsRow", "(II)V"⟩, 27) := ⟨⟨by decide +kernel, by decide +kernel⟩, List.mem_of_getElem? (i := 450) (by decide +kernel), List.mem_of_getElem? (i := 627) (by decide +kernel), List.mem_of_getElem? (i := 628) (by decide +kernel)⟩
theorem lw_p30 : lw_okq (⟨"HandedLabelsModel", "isNew", "(III)Z"⟩, 27) := ⟨⟨by decide +kernel, by decide +kernel⟩, List.mem_of_getElem? (i := 450) (by decide +kernel), List.mem_of_getElem? (i := 631) (by decide +kernel), List.mem_of_getElem? (i := 632) (by decide +kernel)⟩
theorem lw_p31 : lw_okq (⟨"HandedLabelsModel", "labelWas", "(III)I"⟩, 27) := ⟨⟨by decide +kernel, by decide +kernel⟩, List.mem_of_getElem? (i := 450) (by decide +kernel), List.mem_of_getElem? (i := 635) (by decide +kernel), List.mem_of_getElem? (i := 636) (by decide +kernel)⟩
def lw_privs_2 : List (MethodName × Nat) := [(⟨"HandedLabels$Labels", "keepAll", "()Z"⟩, 12), (⟨"HandedLabels$Labels", "slipToKeep", "(II)I"⟩, 12), (⟨"HandedLabels", "sideFor", "(II)I"⟩, 4), (⟨"HandedLabels", "isServed", "(III)Z"⟩, 4), (⟨"HandedLabelsModel", "linkBetween", "(II)I"⟩, 27), (⟨"HandedLabelsModel", "isLink", "(I)Z"⟩, 27), (⟨"HandedLabelsModel", "nextOf", "(II)I"⟩, 27), (⟨"HandedLabelsModel", "findFar", "(I)V"⟩, 27), (⟨"HandedLabelsModel", "goesOn", "()V"⟩, 27), (⟨"HandedLabelsModel", "countOf", "(II)I"⟩, 27), (⟨"HandedLabelsModel", "usedAt", "(II)I"⟩, 27), (⟨"HandedLabelsModel", "handsAll", "(I)V"⟩, 27), (⟨"HandedLabelsModel", "is", "(II)Z"⟩, 27), (⟨"HandedLabelsModel", "handsRow", "(II)V"⟩, 27), (⟨"HandedLabelsModel", "isNew", "(III)Z"⟩, 27), (⟨"HandedLabelsModel", "labelWas", "(III)I"⟩, 27)]
theorem lw_r2 : ∀ q ∈ lw_privs_2, lw_okq q := List.forall_mem_cons.mpr ⟨lw_p16, List.forall_mem_cons.mpr ⟨lw_p17, List.forall_mem_cons.mpr ⟨lw_p18, List.forall_mem_cons.mpr ⟨lw_p19, List.forall_mem_cons.mpr ⟨lw_p20, List.forall_mem_cons.mpr ⟨lw_p21, List.forall_mem_cons.mpr ⟨lw_p22, List.forall_mem_cons.mpr ⟨lw_p23, List.forall_mem_cons.mpr ⟨lw_p24, List.forall_mem_cons.mpr ⟨lw_p25, List.forall_mem_cons.mpr ⟨lw_p26, List.forall_mem_cons.mpr ⟨lw_p27, List.forall_mem_cons.mpr ⟨lw_p28, List.forall_mem_cons.mpr ⟨lw_p29, List.forall_mem_cons.mpr ⟨lw_p30, List.forall_mem_cons.mpr ⟨lw_p31, fun _ h => absurd h List.not_mem_nil⟩⟩⟩⟩⟩⟩⟩⟩⟩⟩⟩⟩⟩⟩⟩⟩
theorem lw_p32 : lw_okq (⟨"HandedLabelsModel", "labels", "(IIII)V"⟩, 27) := ⟨⟨by decide +kernel, by decide +kernel⟩, List.mem_of_getElem? (i := 450) (by decide +kernel), List.mem_of_getElem? (i := 639) (by decide +kernel), List.mem_of_getElem? (i := 640) (by decide +kernel)⟩
theorem lw_p33 : lw_okq (⟨"HandedLabelsModel", "hands", "(III)Z"⟩, 27) := ⟨⟨by decide +kernel, by decide +kernel⟩, List.mem_of_getElem? (i := 450) (by decide +kernel), List.mem_of_getElem? (i := 643) (by decide +kernel), List.mem_of_getElem? (i := 644) (by decide +kernel)⟩
theorem lw_p34 : lw_okq (⟨"HandedLabelsModel", "isAt", "(II)Z"⟩, 27) := ⟨⟨by decide +kernel, by decide +kernel⟩, List.mem_of_getElem? (i := 450) (by decide +kernel), List.mem_of_getElem? (i := 647) (by decide +kernel), List.mem_of_getElem? (i := 648) (by decide +kernel)⟩
theorem lw_p35 : lw_okq (⟨"HandedLabelsModel", "otherOf", "(II)I"⟩, 27) := ⟨⟨by decide +kernel, by decide +kernel⟩, List.mem_of_getElem? (i := 450) (by decide +kernel), List.mem_of_getElem? (i := 651) (by decide +kernel), List.mem_of_getElem? (i := 652) (by decide +kernel)⟩
theorem lw_p36 : lw_okq (⟨"HandedLabelsModel", "handsInRow", "(III)Z"⟩, 27) := ⟨⟨by decide +kernel, by decide +kernel⟩, List.mem_of_getElem? (i := 450) (by decide +kernel), List.mem_of_getElem? (i := 655) (by decide +kernel), List.mem_of_getElem? (i := 656) (by decide +kernel)⟩
theorem lw_p37 : lw_okq (⟨"HandedLabelsModel", "isInRow", "(III)Z"⟩, 27) := ⟨⟨by decide +kernel, by decide +kernel⟩, List.mem_of_getElem? (i := 450) (by decide +kernel), List.mem_of_getElem? (i := 659) (by decide +kernel), List.mem_of_getElem? (i := 660) (by decide +kernel)⟩
theorem lw_p38 : lw_okq (⟨"HandedLabelsModel", "keeps", "()V"⟩, 27) := ⟨⟨by decide +kernel, by decide +kernel⟩, List.mem_of_getElem? (i := 450) (by decide +kernel), List.mem_of_getElem? (i := 663) (by decide +kernel), List.mem_of_getElem? (i := 664) (by decide +kernel)⟩
theorem lw_p39 : lw_okq (⟨"HandedLabelsModel", "isChanged", "(Z)Z"⟩, 27) := ⟨⟨by decide +kernel, by decide +kernel⟩, List.mem_of_getElem? (i := 450) (by decide +kernel), List.mem_of_getElem? (i := 667) (by decide +kernel), List.mem_of_getElem? (i := 668) (by decide +kernel)⟩
theorem lw_p40 : lw_okq (⟨"HandedLabelsModel", "isThere", "(II)Z"⟩, 27) := ⟨⟨by decide +kernel, by decide +kernel⟩, List.mem_of_getElem? (i := 450) (by decide +kernel), List.mem_of_getElem? (i := 675) (by decide +kernel), List.mem_of_getElem? (i := 676) (by decide +kernel)⟩
theorem lw_p41 : lw_okq (⟨"HandedLabelsModel", "usedLabel", "(II)I"⟩, 27) := ⟨⟨by decide +kernel, by decide +kernel⟩, List.mem_of_getElem? (i := 450) (by decide +kernel), List.mem_of_getElem? (i := 690) (by decide +kernel), List.mem_of_getElem? (i := 691) (by decide +kernel)⟩
theorem lw_p42 : lw_okq (⟨"HandedLabelsModel", "meaningOf", "(III)I"⟩, 27) := ⟨⟨by decide +kernel, by decide +kernel⟩, List.mem_of_getElem? (i := 450) (by decide +kernel), List.mem_of_getElem? (i := 698) (by decide +kernel), List.mem_of_getElem? (i := 699) (by decide +kernel)⟩
theorem lw_p43 : lw_okq (⟨"HandedLabelsModel", "putsAside", "(Z)V"⟩, 27) := ⟨⟨by decide +kernel, by decide +kernel⟩, List.mem_of_getElem? (i := 450) (by decide +kernel), List.mem_of_getElem? (i := 706) (by decide +kernel), List.mem_of_getElem? (i := 707) (by decide +kernel)⟩
theorem lw_p44 : lw_okq (⟨"HandedLabelsModel", "goes", "(II)I"⟩, 27) := ⟨⟨by decide +kernel, by decide +kernel⟩, List.mem_of_getElem? (i := 450) (by decide +kernel), List.mem_of_getElem? (i := 714) (by decide +kernel), List.mem_of_getElem? (i := 715) (by decide +kernel)⟩
theorem lw_p45 : lw_okq (⟨"HandedLabelsModel", "isCarried", "()Z"⟩, 27) := ⟨⟨by decide +kernel, by decide +kernel⟩, List.mem_of_getElem? (i := 450) (by decide +kernel), List.mem_of_getElem? (i := 726) (by decide +kernel), List.mem_of_getElem? (i := 727) (by decide +kernel)⟩
def lw_privs_3 : List (MethodName × Nat) := [(⟨"HandedLabelsModel", "labels", "(IIII)V"⟩, 27), (⟨"HandedLabelsModel", "hands", "(III)Z"⟩, 27), (⟨"HandedLabelsModel", "isAt", "(II)Z"⟩, 27), (⟨"HandedLabelsModel", "otherOf", "(II)I"⟩, 27), (⟨"HandedLabelsModel", "handsInRow", "(III)Z"⟩, 27), (⟨"HandedLabelsModel", "isInRow", "(III)Z"⟩, 27), (⟨"HandedLabelsModel", "keeps", "()V"⟩, 27), (⟨"HandedLabelsModel", "isChanged", "(Z)Z"⟩, 27), (⟨"HandedLabelsModel", "isThere", "(II)Z"⟩, 27), (⟨"HandedLabelsModel", "usedLabel", "(II)I"⟩, 27), (⟨"HandedLabelsModel", "meaningOf", "(III)I"⟩, 27), (⟨"HandedLabelsModel", "putsAside", "(Z)V"⟩, 27), (⟨"HandedLabelsModel", "goes", "(II)I"⟩, 27), (⟨"HandedLabelsModel", "isCarried", "()Z"⟩, 27)]
theorem lw_r3 : ∀ q ∈ lw_privs_3, lw_okq q := List.forall_mem_cons.mpr ⟨lw_p32, List.forall_mem_cons.mpr ⟨lw_p33, List.forall_mem_cons.mpr ⟨lw_p34, List.forall_mem_cons.mpr ⟨lw_p35, List.forall_mem_cons.mpr ⟨lw_p36, List.forall_mem_cons.mpr ⟨lw_p37, List.forall_mem_cons.mpr ⟨lw_p38, List.forall_mem_cons.mpr ⟨lw_p39, List.forall_mem_cons.mpr ⟨lw_p40, List.forall_mem_cons.mpr ⟨lw_p41, List.forall_mem_cons.mpr ⟨lw_p42, List.forall_mem_cons.mpr ⟨lw_p43, List.forall_mem_cons.mpr ⟨lw_p44, List.forall_mem_cons.mpr ⟨lw_p45, fun _ h => absurd h List.not_mem_nil⟩⟩⟩⟩⟩⟩⟩⟩⟩⟩⟩⟩⟩⟩
def lw_privs : List (MethodName × Nat) := lw_privs_1 ++ (lw_privs_2 ++ (lw_privs_3))
def lw_tbl : List Cond := k2_sels lw_privs ++ tables_1
theorem lw_privs_ok : ∀ q ∈ lw_privs, lw_okq q := by
  show ∀ q ∈ lw_privs_1 ++ (lw_privs_2 ++ (lw_privs_3)), lw_okq q
  exact List.forall_mem_append.mpr ⟨lw_r1, List.forall_mem_append.mpr ⟨lw_r2, lw_r3⟩⟩
end
section
def RX0 : String := "HandedLabels$Labels"
def TX0 : u_T := fun k => match k with
  | 0 => ("HandedLabels$Labels", "net", "LHandedLabels$Net;", true)
  | 1 => ("HandedLabels$Labels", "ordered", "I", false)
  | 2 => ("HandedLabels$Labels", "limit", "I", false)
  | 3 => ("HandedLabels$Labels", "ticksSoFar", "I", false)
  | 4 => ("HandedLabels$Labels", "slipsHanded", "[I", true)
  | 5 => ("HandedLabels$Labels", "slipsKept", "[I", true)
  | 6 => ("HandedLabels$Labels", "modes", "[I", true)
  | 7 => ("HandedLabels$Labels", "fresh", "[I", true)
  | 8 => ("HandedLabels$Labels", "counts", "[I", true)
  | 9 => ("HandedLabels$Labels", "rowLabels", "[I", true)
  | 10 => ("HandedLabels$Labels", "savedHanded", "[I", true)
  | _ => ("HandedLabels$Labels", "savedKept", "[I", true)
def tyX0 : Nat → FieldType := fun k => match k with
  | 0 => .object "HandedLabels$Net"
  | 1 => .int
  | 2 => .int
  | 3 => .int
  | 4 => .array .int
  | 5 => .array .int
  | 6 => .array .int
  | 7 => .array .int
  | 8 => .array .int
  | 9 => .array .int
  | 10 => .array .int
  | _ => .array .int
abbrev wsX00 : List Cond := u_ws RX0 TX0 12
theorem nmX0 : ∀ a, a < 12 → ∀ b, b < 12 → a ≠ b → (TX0 a).2.1 ≠ (TX0 b).2.1 := by decide +kernel
theorem tyX0_ok : ∀ k, k < 12 → parseFieldDescriptor (TX0 k).2.2.1 = some (tyX0 k) := by decide +kernel
abbrev cX0_init : ByteArray := prog_2_method_1_code
def yX0_init : MethodName := ⟨RX0, "<init>", "(LHandedLabels$Net;)V"⟩
abbrev cX0_has : ByteArray := prog_2_method_2_code
def yX0_has : MethodName := ⟨RX0, "has", "(II)Z"⟩
abbrev cX0_changeMode : ByteArray := prog_2_method_3_code
def yX0_changeMode : MethodName := ⟨RX0, "changeMode", "(III)I"⟩
abbrev cX0_handNothing : ByteArray := prog_2_method_4_code
def yX0_handNothing : MethodName := ⟨RX0, "handNothing", "(I)V"⟩
abbrev cX0_forgetLink : ByteArray := prog_2_method_5_code
def yX0_forgetLink : MethodName := ⟨RX0, "forgetLink", "(I)V"⟩
abbrev cX0_slipUsed : ByteArray := prog_2_method_6_code
def yX0_slipUsed : MethodName := ⟨RX0, "slipUsed", "(II)I"⟩
abbrev cX0_classMeant : ByteArray := prog_2_method_7_code
def yX0_classMeant : MethodName := ⟨RX0, "classMeant", "(III)I"⟩
abbrev cX0_greatestLabel : ByteArray := prog_2_method_8_code
def yX0_greatestLabel : MethodName := ⟨RX0, "greatestLabel", "()I"⟩
abbrev cX0_runTicks : ByteArray := prog_2_method_9_code
def yX0_runTicks : MethodName := ⟨RX0, "runTicks", "(I)I"⟩
abbrev cX0_ticksTillStill : ByteArray := prog_2_method_10_code
def yX0_ticksTillStill : MethodName := ⟨RX0, "ticksTillStill", "()I"⟩
abbrev cX0_tick : ByteArray := prog_2_method_11_code
def yX0_tick : MethodName := ⟨RX0, "tick", "()I"⟩
abbrev cX0_placeSlips : ByteArray := prog_2_method_12_code
def yX0_placeSlips : MethodName := ⟨RX0, "placeSlips", "(I)V"⟩
abbrev cX0_placeOver : ByteArray := prog_2_method_13_code
def yX0_placeOver : MethodName := ⟨RX0, "placeOver", "(I)V"⟩
abbrev cX0_countToHand : ByteArray := prog_2_method_14_code
def yX0_countToHand : MethodName := ⟨RX0, "countToHand", "(II)I"⟩
abbrev cX0_goesOver : ByteArray := prog_2_method_15_code
def yX0_goesOver : MethodName := ⟨RX0, "goesOver", "(II)Z"⟩
abbrev cX0_fillRows : ByteArray := prog_2_method_16_code
def yX0_fillRows : MethodName := ⟨RX0, "fillRows", "(I)V"⟩
abbrev cX0_fillRow : ByteArray := prog_2_method_17_code
def yX0_fillRow : MethodName := ⟨RX0, "fillRow", "(III)V"⟩
abbrev cX0_labelOver : ByteArray := prog_2_method_18_code
def yX0_labelOver : MethodName := ⟨RX0, "labelOver", "(I)V"⟩
abbrev cX0_labelAhead : ByteArray := prog_2_method_19_code
def yX0_labelAhead : MethodName := ⟨RX0, "labelAhead", "(IIII)I"⟩
abbrev cX0_bitOf : ByteArray := prog_2_method_20_code
def yX0_bitOf : MethodName := ⟨RX0, "bitOf", "(I)I"⟩
abbrev cX0_leastFree : ByteArray := prog_2_method_21_code
def yX0_leastFree : MethodName := ⟨RX0, "leastFree", "(I)I"⟩
abbrev cX0_takeFresh : ByteArray := prog_2_method_22_code
def yX0_takeFresh : MethodName := ⟨RX0, "takeFresh", "()Z"⟩
abbrev cX0_keepAll : ByteArray := prog_2_method_23_code
def yX0_keepAll : MethodName := ⟨RX0, "keepAll", "()Z"⟩
abbrev cX0_slipToKeep : ByteArray := prog_2_method_24_code
def yX0_slipToKeep : MethodName := ⟨RX0, "slipToKeep", "(II)I"⟩
def RX1 : String := "HandedLabels$Net"
def TX1 : u_T := fun k => match k with
  | 0 => ("HandedLabels$Net", "links", "I", false)
  | 1 => ("HandedLabels$Net", "owners", "[I", true)
  | 2 => ("HandedLabels$Net", "costs", "[I", true)
  | 3 => ("HandedLabels$Net", "ups", "[I", true)
  | 4 => ("HandedLabels$Net", "ends", "[I", true)
  | 5 => ("HandedLabels$Net", "fars", "[I", true)
  | _ => ("HandedLabels$Net", "nextSides", "[I", true)
def tyX1 : Nat → FieldType := fun k => match k with
  | 0 => .int
  | 1 => .array .int
  | 2 => .array .int
  | 3 => .array .int
  | 4 => .array .int
  | 5 => .array .int
  | _ => .array .int
abbrev wsX10 : List Cond := u_ws RX1 TX1 7
theorem nmX1 : ∀ a, a < 7 → ∀ b, b < 7 → a ≠ b → (TX1 a).2.1 ≠ (TX1 b).2.1 := by decide +kernel
theorem tyX1_ok : ∀ k, k < 7 → parseFieldDescriptor (TX1 k).2.2.1 = some (tyX1 k) := by decide +kernel
abbrev cX1_init : ByteArray := prog_3_method_1_code
def yX1_init : MethodName := ⟨RX1, "<init>", "()V"⟩
abbrev cX1_isLink : ByteArray := prog_3_method_2_code
def yX1_isLink : MethodName := ⟨RX1, "isLink", "(I)Z"⟩
abbrev cX1_joined : ByteArray := prog_3_method_3_code
def yX1_joined : MethodName := ⟨RX1, "joined", "(II)Z"⟩
abbrev cX1_sideAt : ByteArray := prog_3_method_4_code
def yX1_sideAt : MethodName := ⟨RX1, "sideAt", "(II)I"⟩
abbrev cX1_addLink : ByteArray := prog_3_method_5_code
def yX1_addLink : MethodName := ⟨RX1, "addLink", "(III)I"⟩
abbrev cX1_setCost : ByteArray := prog_3_method_6_code
def yX1_setCost : MethodName := ⟨RX1, "setCost", "(II)V"⟩
abbrev cX1_setUp : ByteArray := prog_3_method_7_code
def yX1_setUp : MethodName := ⟨RX1, "setUp", "(II)V"⟩
abbrev cX1_setEnd : ByteArray := prog_3_method_8_code
def yX1_setEnd : MethodName := ⟨RX1, "setEnd", "(II)V"⟩
abbrev cX1_nextBox : ByteArray := prog_3_method_9_code
def yX1_nextBox : MethodName := ⟨RX1, "nextBox", "(II)I"⟩
abbrev cX1_isUpSide : ByteArray := prog_3_method_10_code
def yX1_isUpSide : MethodName := ⟨RX1, "isUpSide", "(I)Z"⟩
abbrev cX1_linksUp : ByteArray := prog_3_method_11_code
def yX1_linksUp : MethodName := ⟨RX1, "linksUp", "()I"⟩
abbrev cX1_classesWithEnd : ByteArray := prog_3_method_12_code
def yX1_classesWithEnd : MethodName := ⟨RX1, "classesWithEnd", "()I"⟩
abbrev cX1_findWays : ByteArray := prog_3_method_13_code
def yX1_findWays : MethodName := ⟨RX1, "findWays", "()V"⟩
abbrev cX1_findWaysOf : ByteArray := prog_3_method_14_code
def yX1_findWaysOf : MethodName := ⟨RX1, "findWaysOf", "(I)V"⟩
abbrev cX1_shorten : ByteArray := prog_3_method_15_code
def yX1_shorten : MethodName := ⟨RX1, "shorten", "(I)Z"⟩
abbrev cX1_findNextSide : ByteArray := prog_3_method_16_code
def yX1_findNextSide : MethodName := ⟨RX1, "findNextSide", "(II)I"⟩
abbrev cX1_leadsOn : ByteArray := prog_3_method_17_code
def yX1_leadsOn : MethodName := ⟨RX1, "leadsOn", "(II)Z"⟩
def RX2 : String := "HandedLabels$Way"
def TX2 : u_T := fun k => match k with
  | 0 => ("HandedLabels$Way", "net", "LHandedLabels$Net;", true)
  | 1 => ("HandedLabels$Way", "labels", "LHandedLabels$Labels;", true)
  | 2 => ("HandedLabels$Way", "length", "I", false)
  | 3 => ("HandedLabels$Way", "boxes", "[I", true)
  | _ => ("HandedLabels$Way", "cameWith", "[I", true)
def tyX2 : Nat → FieldType := fun k => match k with
  | 0 => .object "HandedLabels$Net"
  | 1 => .object "HandedLabels$Labels"
  | 2 => .int
  | 3 => .array .int
  | _ => .array .int
abbrev wsX20 : List Cond := u_ws RX2 TX2 5
theorem nmX2 : ∀ a, a < 5 → ∀ b, b < 5 → a ≠ b → (TX2 a).2.1 ≠ (TX2 b).2.1 := by decide +kernel
theorem tyX2_ok : ∀ k, k < 5 → parseFieldDescriptor (TX2 k).2.2.1 = some (tyX2 k) := by decide +kernel
abbrev cX2_init : ByteArray := prog_4_method_1_code
def yX2_init : MethodName := ⟨RX2, "<init>", "(LHandedLabels$Net;LHandedLabels$Labels;)V"⟩
abbrev cX2_walk : ByteArray := prog_4_method_2_code
def yX2_walk : MethodName := ⟨RX2, "walk", "(II)I"⟩
abbrev cX2_labelledBetween : ByteArray := prog_4_method_3_code
def yX2_labelledBetween : MethodName := ⟨RX2, "labelledBetween", "()Z"⟩
def RX3 : String := "HandedLabels"
def TX3 : u_T := fun k => match k with
  | 0 => ("HandedLabels", "net", "LHandedLabels$Net;", true)
  | 1 => ("HandedLabels", "labels", "LHandedLabels$Labels;", true)
  | 2 => ("HandedLabels", "told", "LHandedLabels$Way;", true)
  | _ => ("HandedLabels", "tried", "LHandedLabels$Way;", true)
def tyX3 : Nat → FieldType := fun k => match k with
  | 0 => .object "HandedLabels$Net"
  | 1 => .object "HandedLabels$Labels"
  | 2 => .object "HandedLabels$Way"
  | _ => .object "HandedLabels$Way"
abbrev wsX30 : List Cond := u_ws RX3 TX3 4
theorem nmX3 : ∀ a, a < 4 → ∀ b, b < 4 → a ≠ b → (TX3 a).2.1 ≠ (TX3 b).2.1 := by decide +kernel
theorem tyX3_ok : ∀ k, k < 4 → parseFieldDescriptor (TX3 k).2.2.1 = some (tyX3 k) := by decide +kernel
abbrev cX3_init : ByteArray := prog_1_method_1_code
def yX3_init : MethodName := ⟨RX3, "<init>", "()V"⟩
abbrev cX3_link : ByteArray := prog_1_method_2_code
def yX3_link : MethodName := ⟨RX3, "link", "(III)I"⟩
abbrev cX3_cost : ByteArray := prog_1_method_3_code
def yX3_cost : MethodName := ⟨RX3, "cost", "(II)I"⟩
abbrev cX3_up : ByteArray := prog_1_method_4_code
def yX3_up : MethodName := ⟨RX3, "up", "(II)I"⟩
abbrev cX3_end : ByteArray := prog_1_method_5_code
def yX3_end : MethodName := ⟨RX3, "end", "(II)I"⟩
abbrev cX3_ofLink : ByteArray := prog_1_method_6_code
def yX3_ofLink : MethodName := ⟨RX3, "ofLink", "(II)I"⟩
abbrev cX3_next : ByteArray := prog_1_method_7_code
def yX3_next : MethodName := ⟨RX3, "next", "(II)I"⟩
abbrev cX3_far : ByteArray := prog_1_method_8_code
def yX3_far : MethodName := ⟨RX3, "far", "(II)I"⟩
abbrev cX3_mode : ByteArray := prog_1_method_9_code
def yX3_mode : MethodName := ⟨RX3, "mode", "(III)I"⟩
abbrev cX3_setting : ByteArray := prog_1_method_10_code
def yX3_setting : MethodName := ⟨RX3, "setting", "(II)I"⟩
abbrev cX3_ticks : ByteArray := prog_1_method_11_code
def yX3_ticks : MethodName := ⟨RX3, "ticks", "(I)I"⟩
abbrev cX3_handed : ByteArray := prog_1_method_12_code
def yX3_handed : MethodName := ⟨RX3, "handed", "(IIII)I"⟩
abbrev cX3_kept : ByteArray := prog_1_method_13_code
def yX3_kept : MethodName := ⟨RX3, "kept", "(IIII)I"⟩
abbrev cX3_used : ByteArray := prog_1_method_14_code
def yX3_used : MethodName := ⟨RX3, "used", "(II)I"⟩
abbrev cX3_meaning : ByteArray := prog_1_method_15_code
def yX3_meaning : MethodName := ⟨RX3, "meaning", "(III)I"⟩
abbrev cX3_settles : ByteArray := prog_1_method_16_code
def yX3_settles : MethodName := ⟨RX3, "settles", "()I"⟩
abbrev cX3_letter : ByteArray := prog_1_method_17_code
def yX3_letter : MethodName := ⟨RX3, "letter", "(II)I"⟩
abbrev cX3_trace : ByteArray := prog_1_method_18_code
def yX3_trace : MethodName := ⟨RX3, "trace", "(II)I"⟩
abbrev cX3_served : ByteArray := prog_1_method_19_code
def yX3_served : MethodName := ⟨RX3, "served", "(II)I"⟩
abbrev cX3_merged : ByteArray := prog_1_method_20_code
def yX3_merged : MethodName := ⟨RX3, "merged", "(II)I"⟩
abbrev cX3_many : ByteArray := prog_1_method_21_code
def yX3_many : MethodName := ⟨RX3, "many", "(I)I"⟩
abbrev cX3_isServed : ByteArray := prog_1_method_22_code
def yX3_isServed : MethodName := ⟨RX3, "isServed", "(III)Z"⟩
abbrev cX3_sideFor : ByteArray := prog_1_method_23_code
def yX3_sideFor : MethodName := ⟨RX3, "sideFor", "(II)I"⟩
abbrev cX3_isBox : ByteArray := prog_1_method_24_code
def yX3_isBox : MethodName := ⟨RX3, "isBox", "(I)Z"⟩
abbrev cX3_isClass : ByteArray := prog_1_method_25_code
def yX3_isClass : MethodName := ⟨RX3, "isClass", "(I)Z"⟩
abbrev cX3_isCost : ByteArray := prog_1_method_26_code
def yX3_isCost : MethodName := ⟨RX3, "isCost", "(I)Z"⟩
abbrev cX3_isYesNo : ByteArray := prog_1_method_27_code
def yX3_isYesNo : MethodName := ⟨RX3, "isYesNo", "(I)Z"⟩
abbrev cX3_pair : ByteArray := prog_1_method_28_code
def yX3_pair : MethodName := ⟨RX3, "pair", "(II)I"⟩
abbrev cX3_slot : ByteArray := prog_1_method_29_code
def yX3_slot : MethodName := ⟨RX3, "slot", "(II)I"⟩
abbrev cX3_slipWith : ByteArray := prog_1_method_30_code
def yX3_slipWith : MethodName := ⟨RX3, "slipWith", "(II)I"⟩
abbrev cX3_labelOf : ByteArray := prog_1_method_31_code
def yX3_labelOf : MethodName := ⟨RX3, "labelOf", "(I)I"⟩
abbrev cX3_countOf : ByteArray := prog_1_method_32_code
def yX3_countOf : MethodName := ⟨RX3, "countOf", "(I)I"⟩
abbrev cX3_partOf : ByteArray := prog_1_method_33_code
def yX3_partOf : MethodName := ⟨RX3, "partOf", "(II)I"⟩
abbrev cX3_countSlips : ByteArray := prog_1_method_34_code
def yX3_countSlips : MethodName := ⟨RX3, "countSlips", "([I)I"⟩
def RX4 : String := "HandedLabelsModel"
def TX4 : u_T := fun k => match k with
  | 0 => ("HandedLabelsModel", "links", "I", false)
  | 1 => ("HandedLabelsModel", "lesser", "[I", true)
  | 2 => ("HandedLabelsModel", "greater", "[I", true)
  | 3 => ("HandedLabelsModel", "costOf", "[I", true)
  | 4 => ("HandedLabelsModel", "isUp", "[Z", true)
  | 5 => ("HandedLabelsModel", "endOf", "[I", true)
  | 6 => ("HandedLabelsModel", "farOf", "[I", true)
  | 7 => ("HandedLabelsModel", "mode", "[I", true)
  | 8 => ("HandedLabelsModel", "setting", "[I", true)
  | 9 => ("HandedLabelsModel", "label", "[I", true)
  | 10 => ("HandedLabelsModel", "count", "[I", true)
  | 11 => ("HandedLabelsModel", "keptLabel", "[I", true)
  | 12 => ("HandedLabelsModel", "keptCount", "[I", true)
  | 13 => ("HandedLabelsModel", "ticks", "I", false)
  | 14 => ("HandedLabelsModel", "labelAhead", "[I", true)
  | 15 => ("HandedLabelsModel", "countAhead", "[I", true)
  | 16 => ("HandedLabelsModel", "keptAhead", "[I", true)
  | 17 => ("HandedLabelsModel", "keptCountAhead", "[I", true)
  | 18 => ("HandedLabelsModel", "nextNow", "[I", true)
  | 19 => ("HandedLabelsModel", "counts", "[I", true)
  | 20 => ("HandedLabelsModel", "putAside", "[I", true)
  | 21 => ("HandedLabelsModel", "boxAt", "[I", true)
  | 22 => ("HandedLabelsModel", "labelAt", "[I", true)
  | 23 => ("HandedLabelsModel", "boxes", "I", false)
  | 24 => ("HandedLabelsModel", "toldBox", "[I", true)
  | 25 => ("HandedLabelsModel", "toldLabel", "[I", true)
  | _ => ("HandedLabelsModel", "told", "I", false)
def tyX4 : Nat → FieldType := fun k => match k with
  | 0 => .int
  | 1 => .array .int
  | 2 => .array .int
  | 3 => .array .int
  | 4 => .array .boolean
  | 5 => .array .int
  | 6 => .array .int
  | 7 => .array .int
  | 8 => .array .int
  | 9 => .array .int
  | 10 => .array .int
  | 11 => .array .int
  | 12 => .array .int
  | 13 => .int
  | 14 => .array .int
  | 15 => .array .int
  | 16 => .array .int
  | 17 => .array .int
  | 18 => .array .int
  | 19 => .array .int
  | 20 => .array .int
  | 21 => .array .int
  | 22 => .array .int
  | 23 => .int
  | 24 => .array .int
  | 25 => .array .int
  | _ => .int
abbrev wsX40 : List Cond := u_ws RX4 TX4 27
theorem nmX4 : ∀ a, a < 27 → ∀ b, b < 27 → a ≠ b → (TX4 a).2.1 ≠ (TX4 b).2.1 := by decide +kernel
theorem tyX4_ok : ∀ k, k < 27 → parseFieldDescriptor (TX4 k).2.2.1 = some (tyX4 k) := by decide +kernel
abbrev cX4_init : ByteArray := prog_6_method_1_code
def yX4_init : MethodName := ⟨RX4, "<init>", "()V"⟩
abbrev cX4_within : ByteArray := prog_6_method_2_code
def yX4_within : MethodName := ⟨RX4, "within", "(III)Z"⟩
abbrev cX4_isBox : ByteArray := prog_6_method_3_code
def yX4_isBox : MethodName := ⟨RX4, "isBox", "(I)Z"⟩
abbrev cX4_isClass : ByteArray := prog_6_method_4_code
def yX4_isClass : MethodName := ⟨RX4, "isClass", "(I)Z"⟩
abbrev cX4_isLink : ByteArray := prog_6_method_5_code
def yX4_isLink : MethodName := ⟨RX4, "isLink", "(I)Z"⟩
abbrev cX4_linkBetween : ByteArray := prog_6_method_6_code
def yX4_linkBetween : MethodName := ⟨RX4, "linkBetween", "(II)I"⟩
abbrev cX4_isAt : ByteArray := prog_6_method_7_code
def yX4_isAt : MethodName := ⟨RX4, "isAt", "(II)Z"⟩
abbrev cX4_otherOf : ByteArray := prog_6_method_8_code
def yX4_otherOf : MethodName := ⟨RX4, "otherOf", "(II)I"⟩
abbrev cX4_link : ByteArray := prog_6_method_9_code
def yX4_link : MethodName := ⟨RX4, "link", "(III)I"⟩
abbrev cX4_cost : ByteArray := prog_6_method_10_code
def yX4_cost : MethodName := ⟨RX4, "cost", "(II)I"⟩
abbrev cX4_up : ByteArray := prog_6_method_11_code
def yX4_up : MethodName := ⟨RX4, "up", "(II)I"⟩
abbrev cX4_end : ByteArray := prog_6_method_12_code
def yX4_end : MethodName := ⟨RX4, "end", "(II)I"⟩
abbrev cX4_ofLink : ByteArray := prog_6_method_13_code
def yX4_ofLink : MethodName := ⟨RX4, "ofLink", "(II)I"⟩
abbrev cX4_findFar : ByteArray := prog_6_method_14_code
def yX4_findFar : MethodName := ⟨RX4, "findFar", "(I)V"⟩
abbrev cX4_nextOf : ByteArray := prog_6_method_15_code
def yX4_nextOf : MethodName := ⟨RX4, "nextOf", "(II)I"⟩
abbrev cX4_next : ByteArray := prog_6_method_16_code
def yX4_next : MethodName := ⟨RX4, "next", "(II)I"⟩
abbrev cX4_far : ByteArray := prog_6_method_17_code
def yX4_far : MethodName := ⟨RX4, "far", "(II)I"⟩
abbrev cX4_at : ByteArray := prog_6_method_18_code
def yX4_at : MethodName := ⟨RX4, "at", "(III)I"⟩
abbrev cX4_is : ByteArray := prog_6_method_19_code
def yX4_is : MethodName := ⟨RX4, "is", "(II)Z"⟩
abbrev cX4_mode : ByteArray := prog_6_method_20_code
def yX4_mode : MethodName := ⟨RX4, "mode", "(III)I"⟩
abbrev cX4_setting : ByteArray := prog_6_method_21_code
def yX4_setting : MethodName := ⟨RX4, "setting", "(II)I"⟩
abbrev cX4_usedAt : ByteArray := prog_6_method_22_code
def yX4_usedAt : MethodName := ⟨RX4, "usedAt", "(II)I"⟩
abbrev cX4_countOf : ByteArray := prog_6_method_23_code
def yX4_countOf : MethodName := ⟨RX4, "countOf", "(II)I"⟩
abbrev cX4_hands : ByteArray := prog_6_method_24_code
def yX4_hands : MethodName := ⟨RX4, "hands", "(III)Z"⟩
abbrev cX4_labelWas : ByteArray := prog_6_method_25_code
def yX4_labelWas : MethodName := ⟨RX4, "labelWas", "(III)I"⟩
abbrev cX4_isInRow : ByteArray := prog_6_method_26_code
def yX4_isInRow : MethodName := ⟨RX4, "isInRow", "(III)Z"⟩
abbrev cX4_isNew : ByteArray := prog_6_method_27_code
def yX4_isNew : MethodName := ⟨RX4, "isNew", "(III)Z"⟩
abbrev cX4_labels : ByteArray := prog_6_method_28_code
def yX4_labels : MethodName := ⟨RX4, "labels", "(IIII)V"⟩
abbrev cX4_handsInRow : ByteArray := prog_6_method_29_code
def yX4_handsInRow : MethodName := ⟨RX4, "handsInRow", "(III)Z"⟩
abbrev cX4_handsRow : ByteArray := prog_6_method_30_code
def yX4_handsRow : MethodName := ⟨RX4, "handsRow", "(II)V"⟩
abbrev cX4_handsAll : ByteArray := prog_6_method_31_code
def yX4_handsAll : MethodName := ⟨RX4, "handsAll", "(I)V"⟩
abbrev cX4_keeps : ByteArray := prog_6_method_32_code
def yX4_keeps : MethodName := ⟨RX4, "keeps", "()V"⟩
abbrev cX4_goesOn : ByteArray := prog_6_method_33_code
def yX4_goesOn : MethodName := ⟨RX4, "goesOn", "()V"⟩
abbrev cX4_isChanged : ByteArray := prog_6_method_34_code
def yX4_isChanged : MethodName := ⟨RX4, "isChanged", "(Z)Z"⟩
abbrev cX4_ticks : ByteArray := prog_6_method_35_code
def yX4_ticks : MethodName := ⟨RX4, "ticks", "(I)I"⟩
abbrev cX4_isThere : ByteArray := prog_6_method_36_code
def yX4_isThere : MethodName := ⟨RX4, "isThere", "(II)Z"⟩
abbrev cX4_tell : ByteArray := prog_6_method_37_code
def yX4_tell : MethodName := ⟨RX4, "tell", "(III)I"⟩
abbrev cX4_handed : ByteArray := prog_6_method_38_code
def yX4_handed : MethodName := ⟨RX4, "handed", "(IIII)I"⟩
abbrev cX4_kept : ByteArray := prog_6_method_39_code
def yX4_kept : MethodName := ⟨RX4, "kept", "(IIII)I"⟩
abbrev cX4_usedLabel : ByteArray := prog_6_method_40_code
def yX4_usedLabel : MethodName := ⟨RX4, "usedLabel", "(II)I"⟩
abbrev cX4_used : ByteArray := prog_6_method_41_code
def yX4_used : MethodName := ⟨RX4, "used", "(II)I"⟩
abbrev cX4_meaningOf : ByteArray := prog_6_method_42_code
def yX4_meaningOf : MethodName := ⟨RX4, "meaningOf", "(III)I"⟩
abbrev cX4_meaning : ByteArray := prog_6_method_43_code
def yX4_meaning : MethodName := ⟨RX4, "meaning", "(III)I"⟩
abbrev cX4_putsAside : ByteArray := prog_6_method_44_code
def yX4_putsAside : MethodName := ⟨RX4, "putsAside", "(Z)V"⟩
abbrev cX4_settles : ByteArray := prog_6_method_45_code
def yX4_settles : MethodName := ⟨RX4, "settles", "()I"⟩
abbrev cX4_goes : ByteArray := prog_6_method_46_code
def yX4_goes : MethodName := ⟨RX4, "goes", "(II)I"⟩
abbrev cX4_letter : ByteArray := prog_6_method_47_code
def yX4_letter : MethodName := ⟨RX4, "letter", "(II)I"⟩
abbrev cX4_trace : ByteArray := prog_6_method_48_code
def yX4_trace : MethodName := ⟨RX4, "trace", "(II)I"⟩
abbrev cX4_isCarried : ByteArray := prog_6_method_49_code
def yX4_isCarried : MethodName := ⟨RX4, "isCarried", "()Z"⟩
abbrev cX4_served : ByteArray := prog_6_method_50_code
def yX4_served : MethodName := ⟨RX4, "served", "(II)I"⟩
abbrev cX4_merged : ByteArray := prog_6_method_51_code
def yX4_merged : MethodName := ⟨RX4, "merged", "(II)I"⟩
abbrev cX4_manyIn : ByteArray := prog_6_method_52_code
def yX4_manyIn : MethodName := ⟨RX4, "manyIn", "([I)I"⟩
abbrev cX4_many : ByteArray := prog_6_method_53_code
def yX4_many : MethodName := ⟨RX4, "many", "(I)I"⟩
def RL : String := "HandedLabelsLaw"
abbrev cL_law : ByteArray := code
def yL_law : MethodName := ⟨RL, "law", "([I)Z"⟩
abbrev vwCl : List vw_C := [(RX0, TX0, 12), (RX1, TX1, 7), (RX2, TX2, 5), (RX3, TX3, 4), (RX4, TX4, 27)]
def hALL : List Cond := lw_tbl.filter goodWord
theorem hA_at (i : Nat) {w : Cond} (h : lw_tbl[i]? = some w) (hg : goodWord w = true) : w ∈ hALL := List.mem_filter.mpr ⟨List.mem_of_getElem? h, hg⟩
theorem hA_tbl {w : Cond} (h : w ∈ hALL) : w ∈ lw_tbl := (List.mem_filter.mp h).1
theorem hA_good {w : Cond} (h : w ∈ hALL) : (w.onTables && w.keeps) = true ∨ ∃ ty, w = .arrayClass ty := good_of_word (List.mem_filter.mp h).2
theorem hgA {c0 : Cond} {ws : List Cond} (h : ∀ w ∈ ws, w ∈ hALL) : GoodIn (c0 :: hALL) ws := fun w hw => ⟨List.mem_cons_of_mem _ (h w hw), hA_good (h w hw)⟩
theorem hgT {ws : List Cond} (h : ∀ w ∈ ws, w ∈ hALL) : GoodIn lw_tbl ws := fun w hw => ⟨hA_tbl (h w hw), hA_good (h w hw)⟩
theorem hcW {c1 : Cond} (h : c1 ∈ hALL) : ∀ w ∈ c1 :: hALL, w ∈ hALL := fun w hw => by
  rcases List.mem_cons.mp hw with rfl | hw
  · exact h
  · exact hw
theorem hcV {own C : String} {idx n : Nat} {y : MethodName} {b : ByteArray} {r : Option FieldType} (h1 : Cond.methodLink own idx y ∈ hALL) (h2 : Cond.instanceMethod y ∈ hALL) (h3 : Cond.selects C y y ∈ hALL) (h4 : Cond.initialized C ∈ hALL) (h5 : Cond.code y b n r ∈ hALL) : ∀ w ∈ wsV own idx C y (Cond.code y b n r :: hALL), w ∈ hALL := fun w hw => by
  rcases List.mem_append.mp hw with hw | hw
  · rcases List.mem_cons.mp hw with rfl | hw
    · exact h1
    rcases List.mem_cons.mp hw with rfl | hw
    · exact h2
    rcases List.mem_cons.mp hw with rfl | hw
    · exact h3
    rcases List.mem_cons.mp hw with rfl | hw
    · exact h4
    · cases hw
  · exact hcW h5 w hw
theorem hcS {own : String} {idx n : Nat} {y : MethodName} {b : ByteArray} {r : Option FieldType} (h1 : Cond.methodLink own idx y ∈ hALL) (h2 : Cond.static y ∈ hALL) (h4 : Cond.initialized y.cls ∈ hALL) (h5 : Cond.code y b n r ∈ hALL) : ∀ w ∈ va_wsS own idx y (Cond.code y b n r :: hALL), w ∈ hALL := fun w hw => by
  rcases List.mem_append.mp hw with hw | hw
  · rcases List.mem_cons.mp hw with rfl | hw
    · exact h1
    rcases List.mem_cons.mp hw with rfl | hw
    · exact h2
    rcases List.mem_cons.mp hw with rfl | hw
    · exact h4
    · cases hw
  · exact hcW h5 w hw
theorem wdS_X1_findWays : Cond.selects RX1 yX1_findWays yX1_findWays ∈ hALL := hA_at 0 (by decide +kernel) rfl
theorem wdS_X1_findWaysOf : Cond.selects RX1 yX1_findWaysOf yX1_findWaysOf ∈ hALL := hA_at 1 (by decide +kernel) rfl
theorem wdS_X1_shorten : Cond.selects RX1 yX1_shorten yX1_shorten ∈ hALL := hA_at 2 (by decide +kernel) rfl
theorem wdS_X1_findNextSide : Cond.selects RX1 yX1_findNextSide yX1_findNextSide ∈ hALL := hA_at 3 (by decide +kernel) rfl
theorem wdS_X1_leadsOn : Cond.selects RX1 yX1_leadsOn yX1_leadsOn ∈ hALL := hA_at 4 (by decide +kernel) rfl
theorem wdS_X0_handNothing : Cond.selects RX0 yX0_handNothing yX0_handNothing ∈ hALL := hA_at 5 (by decide +kernel) rfl
theorem wdS_X0_tick : Cond.selects RX0 yX0_tick yX0_tick ∈ hALL := hA_at 6 (by decide +kernel) rfl
theorem wdS_X0_placeSlips : Cond.selects RX0 yX0_placeSlips yX0_placeSlips ∈ hALL := hA_at 7 (by decide +kernel) rfl
theorem wdS_X0_countToHand : Cond.selects RX0 yX0_countToHand yX0_countToHand ∈ hALL := hA_at 8 (by decide +kernel) rfl
theorem wdS_X0_placeOver : Cond.selects RX0 yX0_placeOver yX0_placeOver ∈ hALL := hA_at 9 (by decide +kernel) rfl
theorem wdS_X0_goesOver : Cond.selects RX0 yX0_goesOver yX0_goesOver ∈ hALL := hA_at 10 (by decide +kernel) rfl
theorem wdS_X0_fillRows : Cond.selects RX0 yX0_fillRows yX0_fillRows ∈ hALL := hA_at 11 (by decide +kernel) rfl
theorem wdS_X0_fillRow : Cond.selects RX0 yX0_fillRow yX0_fillRow ∈ hALL := hA_at 12 (by decide +kernel) rfl
theorem wdS_X0_labelAhead : Cond.selects RX0 yX0_labelAhead yX0_labelAhead ∈ hALL := hA_at 13 (by decide +kernel) rfl
theorem wdS_X0_labelOver : Cond.selects RX0 yX0_labelOver yX0_labelOver ∈ hALL := hA_at 14 (by decide +kernel) rfl
theorem wdS_X0_takeFresh : Cond.selects RX0 yX0_takeFresh yX0_takeFresh ∈ hALL := hA_at 15 (by decide +kernel) rfl
theorem wdS_X0_keepAll : Cond.selects RX0 yX0_keepAll yX0_keepAll ∈ hALL := hA_at 16 (by decide +kernel) rfl
theorem wdS_X0_slipToKeep : Cond.selects RX0 yX0_slipToKeep yX0_slipToKeep ∈ hALL := hA_at 17 (by decide +kernel) rfl
theorem wdS_X3_sideFor : Cond.selects RX3 yX3_sideFor yX3_sideFor ∈ hALL := hA_at 18 (by decide +kernel) rfl
theorem wdS_X3_isServed : Cond.selects RX3 yX3_isServed yX3_isServed ∈ hALL := hA_at 19 (by decide +kernel) rfl
theorem wdS_X4_linkBetween : Cond.selects RX4 yX4_linkBetween yX4_linkBetween ∈ hALL := hA_at 20 (by decide +kernel) rfl
theorem wdS_X4_isLink : Cond.selects RX4 yX4_isLink yX4_isLink ∈ hALL := hA_at 21 (by decide +kernel) rfl
theorem wdS_X4_nextOf : Cond.selects RX4 yX4_nextOf yX4_nextOf ∈ hALL := hA_at 22 (by decide +kernel) rfl
theorem wdS_X4_findFar : Cond.selects RX4 yX4_findFar yX4_findFar ∈ hALL := hA_at 23 (by decide +kernel) rfl
theorem wdS_X4_goesOn : Cond.selects RX4 yX4_goesOn yX4_goesOn ∈ hALL := hA_at 24 (by decide +kernel) rfl
theorem wdS_X4_countOf : Cond.selects RX4 yX4_countOf yX4_countOf ∈ hALL := hA_at 25 (by decide +kernel) rfl
theorem wdS_X4_usedAt : Cond.selects RX4 yX4_usedAt yX4_usedAt ∈ hALL := hA_at 26 (by decide +kernel) rfl
theorem wdS_X4_handsAll : Cond.selects RX4 yX4_handsAll yX4_handsAll ∈ hALL := hA_at 27 (by decide +kernel) rfl
theorem wdS_X4_is : Cond.selects RX4 yX4_is yX4_is ∈ hALL := hA_at 28 (by decide +kernel) rfl
theorem wdS_X4_handsRow : Cond.selects RX4 yX4_handsRow yX4_handsRow ∈ hALL := hA_at 29 (by decide +kernel) rfl
theorem wdS_X4_isNew : Cond.selects RX4 yX4_isNew yX4_isNew ∈ hALL := hA_at 30 (by decide +kernel) rfl
theorem wdS_X4_labelWas : Cond.selects RX4 yX4_labelWas yX4_labelWas ∈ hALL := hA_at 31 (by decide +kernel) rfl
theorem wdS_X4_labels : Cond.selects RX4 yX4_labels yX4_labels ∈ hALL := hA_at 32 (by decide +kernel) rfl
theorem wdS_X4_hands : Cond.selects RX4 yX4_hands yX4_hands ∈ hALL := hA_at 33 (by decide +kernel) rfl
theorem wdS_X4_isAt : Cond.selects RX4 yX4_isAt yX4_isAt ∈ hALL := hA_at 34 (by decide +kernel) rfl
theorem wdS_X4_otherOf : Cond.selects RX4 yX4_otherOf yX4_otherOf ∈ hALL := hA_at 35 (by decide +kernel) rfl
theorem wdS_X4_handsInRow : Cond.selects RX4 yX4_handsInRow yX4_handsInRow ∈ hALL := hA_at 36 (by decide +kernel) rfl
theorem wdS_X4_isInRow : Cond.selects RX4 yX4_isInRow yX4_isInRow ∈ hALL := hA_at 37 (by decide +kernel) rfl
theorem wdS_X4_keeps : Cond.selects RX4 yX4_keeps yX4_keeps ∈ hALL := hA_at 38 (by decide +kernel) rfl
theorem wdS_X4_isChanged : Cond.selects RX4 yX4_isChanged yX4_isChanged ∈ hALL := hA_at 39 (by decide +kernel) rfl
theorem wdS_X4_isThere : Cond.selects RX4 yX4_isThere yX4_isThere ∈ hALL := hA_at 40 (by decide +kernel) rfl
theorem wdS_X4_usedLabel : Cond.selects RX4 yX4_usedLabel yX4_usedLabel ∈ hALL := hA_at 41 (by decide +kernel) rfl
theorem wdS_X4_meaningOf : Cond.selects RX4 yX4_meaningOf yX4_meaningOf ∈ hALL := hA_at 42 (by decide +kernel) rfl
theorem wdS_X4_putsAside : Cond.selects RX4 yX4_putsAside yX4_putsAside ∈ hALL := hA_at 43 (by decide +kernel) rfl
theorem wdS_X4_goes : Cond.selects RX4 yX4_goes yX4_goes ∈ hALL := hA_at 44 (by decide +kernel) rfl
theorem wdS_X4_isCarried : Cond.selects RX4 yX4_isCarried yX4_isCarried ∈ hALL := hA_at 45 (by decide +kernel) rfl
theorem wdN_RL : Cond.initialized RL ∈ hALL := hA_at 46 (by decide +kernel) rfl
theorem wdN_RX3 : Cond.initialized RX3 ∈ hALL := hA_at 47 (by decide +kernel) rfl
theorem wdN_RX1 : Cond.initialized RX1 ∈ hALL := hA_at 48 (by decide +kernel) rfl
theorem wdN_RX0 : Cond.initialized RX0 ∈ hALL := hA_at 49 (by decide +kernel) rfl
theorem wdN_RX2 : Cond.initialized RX2 ∈ hALL := hA_at 50 (by decide +kernel) rfl
theorem wdN_RX4 : Cond.initialized RX4 ∈ hALL := hA_at 51 (by decide +kernel) rfl
theorem wdN_java_lang_Math : Cond.initialized "java/lang/Math" ∈ hALL := hA_at 52 (by decide +kernel) rfl
theorem wdN_java_lang_System : Cond.initialized "java/lang/System" ∈ hALL := hA_at 53 (by decide +kernel) rfl
theorem wdK_L_7 : Cond.classLink RL 7 RX3 ∈ hALL := hA_at 54 (by decide +kernel) rfl
theorem wdP_X3 : Cond.instantiable RX3 4 ∈ hALL := hA_at 55 (by decide +kernel) rfl
theorem wdL_L_9 : Cond.methodLink RL 9 yX3_init ∈ hALL := hA_at 56 (by decide +kernel) rfl
theorem wdI_X3_init : Cond.instanceMethod yX3_init ∈ hALL := hA_at 57 (by decide +kernel) rfl
theorem wdC_X3_init : Cond.code yX3_init cX3_init 1 none ∈ hALL := hA_at 58 (by decide +kernel) rfl
theorem wdL_X3_3 : Cond.methodLink RX3 3 objectInit ∈ hALL := hA_at 59 (by decide +kernel) rfl
theorem wdI_objectInit : Cond.instanceMethod objectInit ∈ hALL := hA_at 60 (by decide +kernel) rfl
theorem wdC_objectInit : Cond.code objectInit ⟨#[0xb1]⟩ 1 none ∈ hALL := hA_at 61 (by decide +kernel) rfl
theorem wdK_X3_9 : Cond.classLink RX3 9 RX1 ∈ hALL := hA_at 62 (by decide +kernel) rfl
theorem wdP_X1 : Cond.instantiable RX1 7 ∈ hALL := hA_at 63 (by decide +kernel) rfl
theorem wdL_X3_11 : Cond.methodLink RX3 11 yX1_init ∈ hALL := hA_at 64 (by decide +kernel) rfl
theorem wdI_X1_init : Cond.instanceMethod yX1_init ∈ hALL := hA_at 65 (by decide +kernel) rfl
theorem wdC_X1_init : Cond.code yX1_init cX1_init 2 none ∈ hALL := hA_at 66 (by decide +kernel) rfl
theorem wdL_X1_3 : Cond.methodLink RX1 3 objectInit ∈ hALL := hA_at 67 (by decide +kernel) rfl
theorem wdF_X1_30 : Cond.fieldLink RX1 30 "HandedLabels$Net" "links" "I" ∈ hALL := hA_at 68 (by decide +kernel) rfl
theorem wdF_X3_48 : Cond.fieldLink RX3 48 "HandedLabels$Net" "links" "I" ∈ hALL := hA_at 69 (by decide +kernel) rfl
theorem wdF_X0_51 : Cond.fieldLink RX0 51 "HandedLabels$Net" "links" "I" ∈ hALL := hA_at 70 (by decide +kernel) rfl
theorem wdF_X1_9 : Cond.fieldLink RX1 9 "HandedLabels$Net" "owners" "[I" ∈ hALL := hA_at 71 (by decide +kernel) rfl
theorem wdF_X2_55 : Cond.fieldLink RX2 55 "HandedLabels$Net" "owners" "[I" ∈ hALL := hA_at 72 (by decide +kernel) rfl
theorem wdF_X0_60 : Cond.fieldLink RX0 60 "HandedLabels$Net" "owners" "[I" ∈ hALL := hA_at 73 (by decide +kernel) rfl
theorem wdF_X3_98 : Cond.fieldLink RX3 98 "HandedLabels$Net" "owners" "[I" ∈ hALL := hA_at 74 (by decide +kernel) rfl
theorem wdF_X1_15 : Cond.fieldLink RX1 15 "HandedLabels$Net" "costs" "[I" ∈ hALL := hA_at 75 (by decide +kernel) rfl
theorem wdF_X3_68 : Cond.fieldLink RX3 68 "HandedLabels$Net" "costs" "[I" ∈ hALL := hA_at 76 (by decide +kernel) rfl
theorem wdF_X1_18 : Cond.fieldLink RX1 18 "HandedLabels$Net" "ups" "[I" ∈ hALL := hA_at 77 (by decide +kernel) rfl
theorem wdF_X3_79 : Cond.fieldLink RX3 79 "HandedLabels$Net" "ups" "[I" ∈ hALL := hA_at 78 (by decide +kernel) rfl
theorem wdF_X1_21 : Cond.fieldLink RX1 21 "HandedLabels$Net" "ends" "[I" ∈ hALL := hA_at 79 (by decide +kernel) rfl
theorem wdF_X2_36 : Cond.fieldLink RX2 36 "HandedLabels$Net" "ends" "[I" ∈ hALL := hA_at 80 (by decide +kernel) rfl
theorem wdF_X3_92 : Cond.fieldLink RX3 92 "HandedLabels$Net" "ends" "[I" ∈ hALL := hA_at 81 (by decide +kernel) rfl
theorem wdF_X0_120 : Cond.fieldLink RX0 120 "HandedLabels$Net" "ends" "[I" ∈ hALL := hA_at 82 (by decide +kernel) rfl
theorem wdF_X1_24 : Cond.fieldLink RX1 24 "HandedLabels$Net" "fars" "[I" ∈ hALL := hA_at 83 (by decide +kernel) rfl
theorem wdF_X3_104 : Cond.fieldLink RX3 104 "HandedLabels$Net" "fars" "[I" ∈ hALL := hA_at 84 (by decide +kernel) rfl
theorem wdF_X1_27 : Cond.fieldLink RX1 27 "HandedLabels$Net" "nextSides" "[I" ∈ hALL := hA_at 85 (by decide +kernel) rfl
theorem wdF_X2_41 : Cond.fieldLink RX2 41 "HandedLabels$Net" "nextSides" "[I" ∈ hALL := hA_at 86 (by decide +kernel) rfl
theorem wdF_X0_63 : Cond.fieldLink RX0 63 "HandedLabels$Net" "nextSides" "[I" ∈ hALL := hA_at 87 (by decide +kernel) rfl
theorem wdY_X1_links : Cond.lays RX1 "HandedLabels$Net" "links" "I" ∈ hALL := hA_at 88 (by decide +kernel) rfl
theorem wdY_X1_owners : Cond.laysFinal RX1 "HandedLabels$Net" "owners" "[I" ∈ hALL := hA_at 90 (by decide +kernel) rfl
theorem wdY_X1_costs : Cond.laysFinal RX1 "HandedLabels$Net" "costs" "[I" ∈ hALL := hA_at 92 (by decide +kernel) rfl
theorem wdY_X1_ups : Cond.laysFinal RX1 "HandedLabels$Net" "ups" "[I" ∈ hALL := hA_at 94 (by decide +kernel) rfl
theorem wdY_X1_ends : Cond.laysFinal RX1 "HandedLabels$Net" "ends" "[I" ∈ hALL := hA_at 96 (by decide +kernel) rfl
theorem wdY_X1_fars : Cond.laysFinal RX1 "HandedLabels$Net" "fars" "[I" ∈ hALL := hA_at 98 (by decide +kernel) rfl
theorem wdY_X1_nextSides : Cond.laysFinal RX1 "HandedLabels$Net" "nextSides" "[I" ∈ hALL := hA_at 100 (by decide +kernel) rfl
theorem wdA_int : Cond.arrayClass .int ∈ hALL := hA_at 103 (by decide +kernel) rfl
theorem wdK_X3_16 : Cond.classLink RX3 16 RX0 ∈ hALL := hA_at 104 (by decide +kernel) rfl
theorem wdP_X0 : Cond.instantiable RX0 12 ∈ hALL := hA_at 105 (by decide +kernel) rfl
theorem wdL_X3_18 : Cond.methodLink RX3 18 yX0_init ∈ hALL := hA_at 106 (by decide +kernel) rfl
theorem wdI_X0_init : Cond.instanceMethod yX0_init ∈ hALL := hA_at 107 (by decide +kernel) rfl
theorem wdC_X0_init : Cond.code yX0_init cX0_init 2 none ∈ hALL := hA_at 108 (by decide +kernel) rfl
theorem wdL_X0_3 : Cond.methodLink RX0 3 objectInit ∈ hALL := hA_at 109 (by decide +kernel) rfl
theorem wdF_X0_43 : Cond.fieldLink RX0 43 "HandedLabels$Labels" "net" "LHandedLabels$Net;" ∈ hALL := hA_at 110 (by decide +kernel) rfl
theorem wdF_X0_9 : Cond.fieldLink RX0 9 "HandedLabels$Labels" "ordered" "I" ∈ hALL := hA_at 111 (by decide +kernel) rfl
theorem wdF_X3_113 : Cond.fieldLink RX3 113 "HandedLabels$Labels" "ordered" "I" ∈ hALL := hA_at 112 (by decide +kernel) rfl
theorem wdF_X0_15 : Cond.fieldLink RX0 15 "HandedLabels$Labels" "limit" "I" ∈ hALL := hA_at 113 (by decide +kernel) rfl
theorem wdF_X3_116 : Cond.fieldLink RX3 116 "HandedLabels$Labels" "limit" "I" ∈ hALL := hA_at 114 (by decide +kernel) rfl
theorem wdF_X0_86 : Cond.fieldLink RX0 86 "HandedLabels$Labels" "ticksSoFar" "I" ∈ hALL := hA_at 115 (by decide +kernel) rfl
theorem wdF_X3_177 : Cond.fieldLink RX3 177 "HandedLabels$Labels" "ticksSoFar" "I" ∈ hALL := hA_at 116 (by decide +kernel) rfl
theorem wdF_X0_18 : Cond.fieldLink RX0 18 "HandedLabels$Labels" "slipsHanded" "[I" ∈ hALL := hA_at 117 (by decide +kernel) rfl
theorem wdF_X3_126 : Cond.fieldLink RX3 126 "HandedLabels$Labels" "slipsHanded" "[I" ∈ hALL := hA_at 118 (by decide +kernel) rfl
theorem wdF_X0_22 : Cond.fieldLink RX0 22 "HandedLabels$Labels" "slipsKept" "[I" ∈ hALL := hA_at 119 (by decide +kernel) rfl
theorem wdF_X3_135 : Cond.fieldLink RX3 135 "HandedLabels$Labels" "slipsKept" "[I" ∈ hALL := hA_at 120 (by decide +kernel) rfl
theorem wdF_X0_25 : Cond.fieldLink RX0 25 "HandedLabels$Labels" "modes" "[I" ∈ hALL := hA_at 121 (by decide +kernel) rfl
theorem wdF_X0_28 : Cond.fieldLink RX0 28 "HandedLabels$Labels" "fresh" "[I" ∈ hALL := hA_at 122 (by decide +kernel) rfl
theorem wdF_X0_31 : Cond.fieldLink RX0 31 "HandedLabels$Labels" "counts" "[I" ∈ hALL := hA_at 123 (by decide +kernel) rfl
theorem wdF_X0_34 : Cond.fieldLink RX0 34 "HandedLabels$Labels" "rowLabels" "[I" ∈ hALL := hA_at 124 (by decide +kernel) rfl
theorem wdF_X0_37 : Cond.fieldLink RX0 37 "HandedLabels$Labels" "savedHanded" "[I" ∈ hALL := hA_at 125 (by decide +kernel) rfl
theorem wdF_X0_40 : Cond.fieldLink RX0 40 "HandedLabels$Labels" "savedKept" "[I" ∈ hALL := hA_at 126 (by decide +kernel) rfl
theorem wdY_X0_net : Cond.laysFinal RX0 "HandedLabels$Labels" "net" "LHandedLabels$Net;" ∈ hALL := hA_at 127 (by decide +kernel) rfl
theorem wdY_X0_ordered : Cond.lays RX0 "HandedLabels$Labels" "ordered" "I" ∈ hALL := hA_at 129 (by decide +kernel) rfl
theorem wdY_X0_limit : Cond.lays RX0 "HandedLabels$Labels" "limit" "I" ∈ hALL := hA_at 131 (by decide +kernel) rfl
theorem wdY_X0_ticksSoFar : Cond.lays RX0 "HandedLabels$Labels" "ticksSoFar" "I" ∈ hALL := hA_at 133 (by decide +kernel) rfl
theorem wdY_X0_slipsHanded : Cond.laysFinal RX0 "HandedLabels$Labels" "slipsHanded" "[I" ∈ hALL := hA_at 135 (by decide +kernel) rfl
theorem wdY_X0_slipsKept : Cond.laysFinal RX0 "HandedLabels$Labels" "slipsKept" "[I" ∈ hALL := hA_at 137 (by decide +kernel) rfl
theorem wdY_X0_modes : Cond.laysFinal RX0 "HandedLabels$Labels" "modes" "[I" ∈ hALL := hA_at 139 (by decide +kernel) rfl
theorem wdY_X0_fresh : Cond.laysFinal RX0 "HandedLabels$Labels" "fresh" "[I" ∈ hALL := hA_at 141 (by decide +kernel) rfl
theorem wdY_X0_counts : Cond.laysFinal RX0 "HandedLabels$Labels" "counts" "[I" ∈ hALL := hA_at 143 (by decide +kernel) rfl
theorem wdY_X0_rowLabels : Cond.laysFinal RX0 "HandedLabels$Labels" "rowLabels" "[I" ∈ hALL := hA_at 145 (by decide +kernel) rfl
theorem wdY_X0_savedHanded : Cond.laysFinal RX0 "HandedLabels$Labels" "savedHanded" "[I" ∈ hALL := hA_at 147 (by decide +kernel) rfl
theorem wdY_X0_savedKept : Cond.laysFinal RX0 "HandedLabels$Labels" "savedKept" "[I" ∈ hALL := hA_at 149 (by decide +kernel) rfl
theorem wdK_X3_25 : Cond.classLink RX3 25 RX2 ∈ hALL := hA_at 152 (by decide +kernel) rfl
theorem wdP_X2 : Cond.instantiable RX2 5 ∈ hALL := hA_at 153 (by decide +kernel) rfl
theorem wdL_X3_27 : Cond.methodLink RX3 27 yX2_init ∈ hALL := hA_at 154 (by decide +kernel) rfl
theorem wdI_X2_init : Cond.instanceMethod yX2_init ∈ hALL := hA_at 155 (by decide +kernel) rfl
theorem wdC_X2_init : Cond.code yX2_init cX2_init 3 none ∈ hALL := hA_at 156 (by decide +kernel) rfl
theorem wdL_X2_3 : Cond.methodLink RX2 3 objectInit ∈ hALL := hA_at 157 (by decide +kernel) rfl
theorem wdF_X2_18 : Cond.fieldLink RX2 18 "HandedLabels$Way" "net" "LHandedLabels$Net;" ∈ hALL := hA_at 158 (by decide +kernel) rfl
theorem wdF_X2_22 : Cond.fieldLink RX2 22 "HandedLabels$Way" "labels" "LHandedLabels$Labels;" ∈ hALL := hA_at 159 (by decide +kernel) rfl
theorem wdF_X2_26 : Cond.fieldLink RX2 26 "HandedLabels$Way" "length" "I" ∈ hALL := hA_at 160 (by decide +kernel) rfl
theorem wdF_X3_154 : Cond.fieldLink RX3 154 "HandedLabels$Way" "length" "I" ∈ hALL := hA_at 161 (by decide +kernel) rfl
theorem wdF_X2_9 : Cond.fieldLink RX2 9 "HandedLabels$Way" "boxes" "[I" ∈ hALL := hA_at 162 (by decide +kernel) rfl
theorem wdF_X3_157 : Cond.fieldLink RX3 157 "HandedLabels$Way" "boxes" "[I" ∈ hALL := hA_at 163 (by decide +kernel) rfl
theorem wdF_X2_15 : Cond.fieldLink RX2 15 "HandedLabels$Way" "cameWith" "[I" ∈ hALL := hA_at 164 (by decide +kernel) rfl
theorem wdF_X3_160 : Cond.fieldLink RX3 160 "HandedLabels$Way" "cameWith" "[I" ∈ hALL := hA_at 165 (by decide +kernel) rfl
theorem wdY_X2_net : Cond.laysFinal RX2 "HandedLabels$Way" "net" "LHandedLabels$Net;" ∈ hALL := hA_at 166 (by decide +kernel) rfl
theorem wdY_X2_labels : Cond.laysFinal RX2 "HandedLabels$Way" "labels" "LHandedLabels$Labels;" ∈ hALL := hA_at 168 (by decide +kernel) rfl
theorem wdY_X2_length : Cond.lays RX2 "HandedLabels$Way" "length" "I" ∈ hALL := hA_at 170 (by decide +kernel) rfl
theorem wdY_X2_boxes : Cond.laysFinal RX2 "HandedLabels$Way" "boxes" "[I" ∈ hALL := hA_at 172 (by decide +kernel) rfl
theorem wdY_X2_cameWith : Cond.laysFinal RX2 "HandedLabels$Way" "cameWith" "[I" ∈ hALL := hA_at 174 (by decide +kernel) rfl
theorem wdF_X3_12 : Cond.fieldLink RX3 12 "HandedLabels" "net" "LHandedLabels$Net;" ∈ hALL := hA_at 177 (by decide +kernel) rfl
theorem wdF_X3_21 : Cond.fieldLink RX3 21 "HandedLabels" "labels" "LHandedLabels$Labels;" ∈ hALL := hA_at 178 (by decide +kernel) rfl
theorem wdF_X3_30 : Cond.fieldLink RX3 30 "HandedLabels" "told" "LHandedLabels$Way;" ∈ hALL := hA_at 179 (by decide +kernel) rfl
theorem wdF_X3_34 : Cond.fieldLink RX3 34 "HandedLabels" "tried" "LHandedLabels$Way;" ∈ hALL := hA_at 180 (by decide +kernel) rfl
theorem wdY_X3_net : Cond.laysFinal RX3 "HandedLabels" "net" "LHandedLabels$Net;" ∈ hALL := hA_at 181 (by decide +kernel) rfl
theorem wdY_X3_labels : Cond.laysFinal RX3 "HandedLabels" "labels" "LHandedLabels$Labels;" ∈ hALL := hA_at 183 (by decide +kernel) rfl
theorem wdY_X3_told : Cond.laysFinal RX3 "HandedLabels" "told" "LHandedLabels$Way;" ∈ hALL := hA_at 185 (by decide +kernel) rfl
theorem wdY_X3_tried : Cond.laysFinal RX3 "HandedLabels" "tried" "LHandedLabels$Way;" ∈ hALL := hA_at 187 (by decide +kernel) rfl
theorem wdL_L_13 : Cond.methodLink RL 13 yX3_link ∈ hALL := hA_at 190 (by decide +kernel) rfl
theorem wdI_X3_link : Cond.instanceMethod yX3_link ∈ hALL := hA_at 191 (by decide +kernel) rfl
theorem wdS_X3_link : Cond.selects RX3 yX3_link yX3_link ∈ hALL := hA_at 192 (by decide +kernel) rfl
theorem wdC_X3_link : Cond.code yX3_link cX3_link 4 (some .int) ∈ hALL := hA_at 193 (by decide +kernel) rfl
theorem wdL_X3_37 : Cond.methodLink RX3 37 yX3_isBox ∈ hALL := hA_at 194 (by decide +kernel) rfl
theorem wdT_X3_isBox : Cond.static yX3_isBox ∈ hALL := hA_at 195 (by decide +kernel) rfl
theorem wdC_X3_isBox : Cond.code yX3_isBox cX3_isBox 1 (some .boolean) ∈ hALL := hA_at 196 (by decide +kernel) rfl
theorem wdL_X3_41 : Cond.methodLink RX3 41 yX3_isCost ∈ hALL := hA_at 197 (by decide +kernel) rfl
theorem wdT_X3_isCost : Cond.static yX3_isCost ∈ hALL := hA_at 198 (by decide +kernel) rfl
theorem wdC_X3_isCost : Cond.code yX3_isCost cX3_isCost 1 (some .boolean) ∈ hALL := hA_at 199 (by decide +kernel) rfl
theorem wdL_X3_44 : Cond.methodLink RX3 44 yX1_joined ∈ hALL := hA_at 200 (by decide +kernel) rfl
theorem wdI_X1_joined : Cond.instanceMethod yX1_joined ∈ hALL := hA_at 201 (by decide +kernel) rfl
theorem wdS_X1_joined : Cond.selects RX1 yX1_joined yX1_joined ∈ hALL := hA_at 202 (by decide +kernel) rfl
theorem wdC_X1_joined : Cond.code yX1_joined cX1_joined 4 (some .boolean) ∈ hALL := hA_at 203 (by decide +kernel) rfl
theorem wdL_X1_34 : Cond.methodLink RX1 34 yX1_sideAt ∈ hALL := hA_at 204 (by decide +kernel) rfl
theorem wdI_X1_sideAt : Cond.instanceMethod yX1_sideAt ∈ hALL := hA_at 205 (by decide +kernel) rfl
theorem wdS_X1_sideAt : Cond.selects RX1 yX1_sideAt yX1_sideAt ∈ hALL := hA_at 206 (by decide +kernel) rfl
theorem wdC_X1_sideAt : Cond.code yX1_sideAt cX1_sideAt 3 (some .int) ∈ hALL := hA_at 207 (by decide +kernel) rfl
theorem wdL_X3_52 : Cond.methodLink RX3 52 Lib.Math.min.name ∈ hALL := hA_at 208 (by decide +kernel) rfl
theorem wdT_Lib_Math_min_name : Cond.static Lib.Math.min.name ∈ hALL := hA_at 209 (by decide +kernel) rfl
theorem wdC_Lib_Math_min_name : Cond.code Lib.Math.min.name Lib.Math.min.code 2 (some .int) ∈ hALL := hA_at 210 (by decide +kernel) rfl
theorem wdL_X3_58 : Cond.methodLink RX3 58 Lib.Math.max.name ∈ hALL := hA_at 211 (by decide +kernel) rfl
theorem wdT_Lib_Math_max_name : Cond.static Lib.Math.max.name ∈ hALL := hA_at 212 (by decide +kernel) rfl
theorem wdC_Lib_Math_max_name : Cond.code Lib.Math.max.name Lib.Math.max.code 2 (some .int) ∈ hALL := hA_at 213 (by decide +kernel) rfl
theorem wdL_X3_61 : Cond.methodLink RX3 61 yX1_addLink ∈ hALL := hA_at 214 (by decide +kernel) rfl
theorem wdI_X1_addLink : Cond.instanceMethod yX1_addLink ∈ hALL := hA_at 215 (by decide +kernel) rfl
theorem wdS_X1_addLink : Cond.selects RX1 yX1_addLink yX1_addLink ∈ hALL := hA_at 216 (by decide +kernel) rfl
theorem wdC_X1_addLink : Cond.code yX1_addLink cX1_addLink 5 (some .int) ∈ hALL := hA_at 217 (by decide +kernel) rfl
theorem wdL_X1_38 : Cond.methodLink RX1 38 yX1_findWays ∈ hALL := hA_at 218 (by decide +kernel) rfl
theorem wdI_X1_findWays : Cond.instanceMethod yX1_findWays ∈ hALL := hA_at 220 (by decide +kernel) rfl
theorem wdC_X1_findWays : Cond.code yX1_findWays cX1_findWays 2 none ∈ hALL := hA_at 221 (by decide +kernel) rfl
theorem wdL_X1_41 : Cond.methodLink RX1 41 yX1_findWaysOf ∈ hALL := hA_at 222 (by decide +kernel) rfl
theorem wdI_X1_findWaysOf : Cond.instanceMethod yX1_findWaysOf ∈ hALL := hA_at 224 (by decide +kernel) rfl
theorem wdC_X1_findWaysOf : Cond.code yX1_findWaysOf cX1_findWaysOf 4 none ∈ hALL := hA_at 225 (by decide +kernel) rfl
theorem wdZ_X1_45 : Cond.methodLinkNest RX1 45 yX3_pair RX3 ∈ lw_tbl := List.mem_of_getElem? (i := 226) (by decide +kernel)
theorem wdT_X3_pair : Cond.static yX3_pair ∈ hALL := hA_at 227 (by decide +kernel) rfl
theorem wdC_X3_pair : Cond.code yX3_pair cX3_pair 2 (some .int) ∈ hALL := hA_at 228 (by decide +kernel) rfl
theorem wdL_X1_48 : Cond.methodLink RX1 48 yX1_shorten ∈ hALL := hA_at 229 (by decide +kernel) rfl
theorem wdI_X1_shorten : Cond.instanceMethod yX1_shorten ∈ hALL := hA_at 231 (by decide +kernel) rfl
theorem wdC_X1_shorten : Cond.code yX1_shorten cX1_shorten 7 (some .boolean) ∈ hALL := hA_at 232 (by decide +kernel) rfl
theorem wdL_X1_55 : Cond.methodLink RX1 55 yX1_isUpSide ∈ hALL := hA_at 233 (by decide +kernel) rfl
theorem wdI_X1_isUpSide : Cond.instanceMethod yX1_isUpSide ∈ hALL := hA_at 234 (by decide +kernel) rfl
theorem wdS_X1_isUpSide : Cond.selects RX1 yX1_isUpSide yX1_isUpSide ∈ hALL := hA_at 235 (by decide +kernel) rfl
theorem wdC_X1_isUpSide : Cond.code yX1_isUpSide cX1_isUpSide 2 (some .boolean) ∈ hALL := hA_at 236 (by decide +kernel) rfl
theorem wdL_X1_52 : Cond.methodLink RX1 52 yX1_findNextSide ∈ hALL := hA_at 237 (by decide +kernel) rfl
theorem wdI_X1_findNextSide : Cond.instanceMethod yX1_findNextSide ∈ hALL := hA_at 239 (by decide +kernel) rfl
theorem wdC_X1_findNextSide : Cond.code yX1_findNextSide cX1_findNextSide 5 (some .int) ∈ hALL := hA_at 240 (by decide +kernel) rfl
theorem wdL_X1_58 : Cond.methodLink RX1 58 yX1_leadsOn ∈ hALL := hA_at 241 (by decide +kernel) rfl
theorem wdI_X1_leadsOn : Cond.instanceMethod yX1_leadsOn ∈ hALL := hA_at 243 (by decide +kernel) rfl
theorem wdC_X1_leadsOn : Cond.code yX1_leadsOn cX1_leadsOn 4 (some .boolean) ∈ hALL := hA_at 244 (by decide +kernel) rfl
theorem wdL_L_18 : Cond.methodLink RL 18 yX3_cost ∈ hALL := hA_at 245 (by decide +kernel) rfl
theorem wdI_X3_cost : Cond.instanceMethod yX3_cost ∈ hALL := hA_at 246 (by decide +kernel) rfl
theorem wdS_X3_cost : Cond.selects RX3 yX3_cost yX3_cost ∈ hALL := hA_at 247 (by decide +kernel) rfl
theorem wdC_X3_cost : Cond.code yX3_cost cX3_cost 4 (some .int) ∈ hALL := hA_at 248 (by decide +kernel) rfl
theorem wdL_X3_65 : Cond.methodLink RX3 65 yX1_isLink ∈ hALL := hA_at 249 (by decide +kernel) rfl
theorem wdI_X1_isLink : Cond.instanceMethod yX1_isLink ∈ hALL := hA_at 250 (by decide +kernel) rfl
theorem wdS_X1_isLink : Cond.selects RX1 yX1_isLink yX1_isLink ∈ hALL := hA_at 251 (by decide +kernel) rfl
theorem wdC_X1_isLink : Cond.code yX1_isLink cX1_isLink 2 (some .boolean) ∈ hALL := hA_at 252 (by decide +kernel) rfl
theorem wdL_X3_72 : Cond.methodLink RX3 72 yX1_setCost ∈ hALL := hA_at 253 (by decide +kernel) rfl
theorem wdI_X1_setCost : Cond.instanceMethod yX1_setCost ∈ hALL := hA_at 254 (by decide +kernel) rfl
theorem wdS_X1_setCost : Cond.selects RX1 yX1_setCost yX1_setCost ∈ hALL := hA_at 255 (by decide +kernel) rfl
theorem wdC_X1_setCost : Cond.code yX1_setCost cX1_setCost 3 none ∈ hALL := hA_at 256 (by decide +kernel) rfl
theorem wdL_L_23 : Cond.methodLink RL 23 yX3_up ∈ hALL := hA_at 257 (by decide +kernel) rfl
theorem wdI_X3_up : Cond.instanceMethod yX3_up ∈ hALL := hA_at 258 (by decide +kernel) rfl
theorem wdS_X3_up : Cond.selects RX3 yX3_up yX3_up ∈ hALL := hA_at 259 (by decide +kernel) rfl
theorem wdC_X3_up : Cond.code yX3_up cX3_up 4 (some .int) ∈ hALL := hA_at 260 (by decide +kernel) rfl
theorem wdL_X3_76 : Cond.methodLink RX3 76 yX3_isYesNo ∈ hALL := hA_at 261 (by decide +kernel) rfl
theorem wdT_X3_isYesNo : Cond.static yX3_isYesNo ∈ hALL := hA_at 262 (by decide +kernel) rfl
theorem wdC_X3_isYesNo : Cond.code yX3_isYesNo cX3_isYesNo 1 (some .boolean) ∈ hALL := hA_at 263 (by decide +kernel) rfl
theorem wdL_X3_82 : Cond.methodLink RX3 82 yX1_setUp ∈ hALL := hA_at 264 (by decide +kernel) rfl
theorem wdI_X1_setUp : Cond.instanceMethod yX1_setUp ∈ hALL := hA_at 265 (by decide +kernel) rfl
theorem wdS_X1_setUp : Cond.selects RX1 yX1_setUp yX1_setUp ∈ hALL := hA_at 266 (by decide +kernel) rfl
theorem wdC_X1_setUp : Cond.code yX1_setUp cX1_setUp 3 none ∈ hALL := hA_at 267 (by decide +kernel) rfl
theorem wdL_X3_85 : Cond.methodLink RX3 85 yX0_forgetLink ∈ hALL := hA_at 268 (by decide +kernel) rfl
theorem wdI_X0_forgetLink : Cond.instanceMethod yX0_forgetLink ∈ hALL := hA_at 269 (by decide +kernel) rfl
theorem wdS_X0_forgetLink : Cond.selects RX0 yX0_forgetLink yX0_forgetLink ∈ hALL := hA_at 270 (by decide +kernel) rfl
theorem wdC_X0_forgetLink : Cond.code yX0_forgetLink cX0_forgetLink 3 none ∈ hALL := hA_at 271 (by decide +kernel) rfl
theorem wdZ_X0_56 : Cond.methodLinkNest RX0 56 yX3_slot RX3 ∈ lw_tbl := List.mem_of_getElem? (i := 272) (by decide +kernel)
theorem wdT_X3_slot : Cond.static yX3_slot ∈ hALL := hA_at 273 (by decide +kernel) rfl
theorem wdC_X3_slot : Cond.code yX3_slot cX3_slot 2 (some .int) ∈ hALL := hA_at 274 (by decide +kernel) rfl
theorem wdL_L_27 : Cond.methodLink RL 27 yX3_end ∈ hALL := hA_at 275 (by decide +kernel) rfl
theorem wdI_X3_end : Cond.instanceMethod yX3_end ∈ hALL := hA_at 276 (by decide +kernel) rfl
theorem wdS_X3_end : Cond.selects RX3 yX3_end yX3_end ∈ hALL := hA_at 277 (by decide +kernel) rfl
theorem wdC_X3_end : Cond.code yX3_end cX3_end 4 (some .int) ∈ hALL := hA_at 278 (by decide +kernel) rfl
theorem wdL_X3_89 : Cond.methodLink RX3 89 yX3_isClass ∈ hALL := hA_at 279 (by decide +kernel) rfl
theorem wdT_X3_isClass : Cond.static yX3_isClass ∈ hALL := hA_at 280 (by decide +kernel) rfl
theorem wdC_X3_isClass : Cond.code yX3_isClass cX3_isClass 1 (some .boolean) ∈ hALL := hA_at 281 (by decide +kernel) rfl
theorem wdL_X3_95 : Cond.methodLink RX3 95 yX1_setEnd ∈ hALL := hA_at 282 (by decide +kernel) rfl
theorem wdI_X1_setEnd : Cond.instanceMethod yX1_setEnd ∈ hALL := hA_at 283 (by decide +kernel) rfl
theorem wdS_X1_setEnd : Cond.selects RX1 yX1_setEnd yX1_setEnd ∈ hALL := hA_at 284 (by decide +kernel) rfl
theorem wdC_X1_setEnd : Cond.code yX1_setEnd cX1_setEnd 3 none ∈ hALL := hA_at 285 (by decide +kernel) rfl
theorem wdL_L_31 : Cond.methodLink RL 31 yX3_ofLink ∈ hALL := hA_at 286 (by decide +kernel) rfl
theorem wdI_X3_ofLink : Cond.instanceMethod yX3_ofLink ∈ hALL := hA_at 287 (by decide +kernel) rfl
theorem wdS_X3_ofLink : Cond.selects RX3 yX3_ofLink yX3_ofLink ∈ hALL := hA_at 288 (by decide +kernel) rfl
theorem wdC_X3_ofLink : Cond.code yX3_ofLink cX3_ofLink 3 (some .int) ∈ hALL := hA_at 289 (by decide +kernel) rfl
theorem wdL_L_35 : Cond.methodLink RL 35 yX3_next ∈ hALL := hA_at 290 (by decide +kernel) rfl
theorem wdI_X3_next : Cond.instanceMethod yX3_next ∈ hALL := hA_at 291 (by decide +kernel) rfl
theorem wdS_X3_next : Cond.selects RX3 yX3_next yX3_next ∈ hALL := hA_at 292 (by decide +kernel) rfl
theorem wdC_X3_next : Cond.code yX3_next cX3_next 3 (some .int) ∈ hALL := hA_at 293 (by decide +kernel) rfl
theorem wdL_X3_101 : Cond.methodLink RX3 101 yX1_nextBox ∈ hALL := hA_at 294 (by decide +kernel) rfl
theorem wdI_X1_nextBox : Cond.instanceMethod yX1_nextBox ∈ hALL := hA_at 295 (by decide +kernel) rfl
theorem wdS_X1_nextBox : Cond.selects RX1 yX1_nextBox yX1_nextBox ∈ hALL := hA_at 296 (by decide +kernel) rfl
theorem wdC_X1_nextBox : Cond.code yX1_nextBox cX1_nextBox 4 (some .int) ∈ hALL := hA_at 297 (by decide +kernel) rfl
theorem wdL_L_39 : Cond.methodLink RL 39 yX3_far ∈ hALL := hA_at 298 (by decide +kernel) rfl
theorem wdI_X3_far : Cond.instanceMethod yX3_far ∈ hALL := hA_at 299 (by decide +kernel) rfl
theorem wdS_X3_far : Cond.selects RX3 yX3_far yX3_far ∈ hALL := hA_at 300 (by decide +kernel) rfl
theorem wdC_X3_far : Cond.code yX3_far cX3_far 3 (some .int) ∈ hALL := hA_at 301 (by decide +kernel) rfl
theorem wdL_X3_107 : Cond.methodLink RX3 107 yX3_pair ∈ hALL := hA_at 302 (by decide +kernel) rfl
theorem wdL_L_43 : Cond.methodLink RL 43 yX3_mode ∈ hALL := hA_at 303 (by decide +kernel) rfl
theorem wdI_X3_mode : Cond.instanceMethod yX3_mode ∈ hALL := hA_at 304 (by decide +kernel) rfl
theorem wdS_X3_mode : Cond.selects RX3 yX3_mode yX3_mode ∈ hALL := hA_at 305 (by decide +kernel) rfl
theorem wdC_X3_mode : Cond.code yX3_mode cX3_mode 4 (some .int) ∈ hALL := hA_at 306 (by decide +kernel) rfl
theorem wdL_X3_110 : Cond.methodLink RX3 110 yX0_changeMode ∈ hALL := hA_at 307 (by decide +kernel) rfl
theorem wdI_X0_changeMode : Cond.instanceMethod yX0_changeMode ∈ hALL := hA_at 308 (by decide +kernel) rfl
theorem wdS_X0_changeMode : Cond.selects RX0 yX0_changeMode yX0_changeMode ∈ hALL := hA_at 309 (by decide +kernel) rfl
theorem wdC_X0_changeMode : Cond.code yX0_changeMode cX0_changeMode 5 (some .int) ∈ hALL := hA_at 310 (by decide +kernel) rfl
theorem wdL_X0_47 : Cond.methodLink RX0 47 yX0_handNothing ∈ hALL := hA_at 311 (by decide +kernel) rfl
theorem wdI_X0_handNothing : Cond.instanceMethod yX0_handNothing ∈ hALL := hA_at 313 (by decide +kernel) rfl
theorem wdC_X0_handNothing : Cond.code yX0_handNothing cX0_handNothing 3 none ∈ hALL := hA_at 314 (by decide +kernel) rfl
theorem wdL_L_47 : Cond.methodLink RL 47 yX3_setting ∈ hALL := hA_at 315 (by decide +kernel) rfl
theorem wdI_X3_setting : Cond.instanceMethod yX3_setting ∈ hALL := hA_at 316 (by decide +kernel) rfl
theorem wdS_X3_setting : Cond.selects RX3 yX3_setting yX3_setting ∈ hALL := hA_at 317 (by decide +kernel) rfl
theorem wdC_X3_setting : Cond.code yX3_setting cX3_setting 4 (some .int) ∈ hALL := hA_at 318 (by decide +kernel) rfl
theorem wdL_L_51 : Cond.methodLink RL 51 yX3_ticks ∈ hALL := hA_at 319 (by decide +kernel) rfl
theorem wdI_X3_ticks : Cond.instanceMethod yX3_ticks ∈ hALL := hA_at 320 (by decide +kernel) rfl
theorem wdS_X3_ticks : Cond.selects RX3 yX3_ticks yX3_ticks ∈ hALL := hA_at 321 (by decide +kernel) rfl
theorem wdC_X3_ticks : Cond.code yX3_ticks cX3_ticks 2 (some .int) ∈ hALL := hA_at 322 (by decide +kernel) rfl
theorem wdL_X3_119 : Cond.methodLink RX3 119 yX0_runTicks ∈ hALL := hA_at 323 (by decide +kernel) rfl
theorem wdI_X0_runTicks : Cond.instanceMethod yX0_runTicks ∈ hALL := hA_at 324 (by decide +kernel) rfl
theorem wdS_X0_runTicks : Cond.selects RX0 yX0_runTicks yX0_runTicks ∈ hALL := hA_at 325 (by decide +kernel) rfl
theorem wdC_X0_runTicks : Cond.code yX0_runTicks cX0_runTicks 4 (some .int) ∈ hALL := hA_at 326 (by decide +kernel) rfl
theorem wdL_X0_82 : Cond.methodLink RX0 82 yX0_tick ∈ hALL := hA_at 327 (by decide +kernel) rfl
theorem wdI_X0_tick : Cond.instanceMethod yX0_tick ∈ hALL := hA_at 329 (by decide +kernel) rfl
theorem wdC_X0_tick : Cond.code yX0_tick cX0_tick 2 (some .int) ∈ hALL := hA_at 330 (by decide +kernel) rfl
theorem wdL_X0_95 : Cond.methodLink RX0 95 yX0_placeSlips ∈ hALL := hA_at 331 (by decide +kernel) rfl
theorem wdI_X0_placeSlips : Cond.instanceMethod yX0_placeSlips ∈ hALL := hA_at 333 (by decide +kernel) rfl
theorem wdC_X0_placeSlips : Cond.code yX0_placeSlips cX0_placeSlips 3 none ∈ hALL := hA_at 334 (by decide +kernel) rfl
theorem wdL_X0_108 : Cond.methodLink RX0 108 yX0_countToHand ∈ hALL := hA_at 335 (by decide +kernel) rfl
theorem wdI_X0_countToHand : Cond.instanceMethod yX0_countToHand ∈ hALL := hA_at 337 (by decide +kernel) rfl
theorem wdC_X0_countToHand : Cond.code yX0_countToHand cX0_countToHand 5 (some .int) ∈ hALL := hA_at 338 (by decide +kernel) rfl
theorem wdZ_X0_66 : Cond.methodLinkNest RX0 66 yX3_pair RX3 ∈ lw_tbl := List.mem_of_getElem? (i := 339) (by decide +kernel)
theorem wdL_X0_123 : Cond.methodLink RX0 123 yX0_slipUsed ∈ hALL := hA_at 340 (by decide +kernel) rfl
theorem wdI_X0_slipUsed : Cond.instanceMethod yX0_slipUsed ∈ hALL := hA_at 341 (by decide +kernel) rfl
theorem wdS_X0_slipUsed : Cond.selects RX0 yX0_slipUsed yX0_slipUsed ∈ hALL := hA_at 342 (by decide +kernel) rfl
theorem wdC_X0_slipUsed : Cond.code yX0_slipUsed cX0_slipUsed 4 (some .int) ∈ hALL := hA_at 343 (by decide +kernel) rfl
theorem wdZ_X0_126 : Cond.methodLinkNest RX0 126 yX3_countOf RX3 ∈ lw_tbl := List.mem_of_getElem? (i := 344) (by decide +kernel)
theorem wdT_X3_countOf : Cond.static yX3_countOf ∈ hALL := hA_at 345 (by decide +kernel) rfl
theorem wdC_X3_countOf : Cond.code yX3_countOf cX3_countOf 1 (some .int) ∈ hALL := hA_at 346 (by decide +kernel) rfl
theorem wdL_X0_111 : Cond.methodLink RX0 111 yX0_placeOver ∈ hALL := hA_at 347 (by decide +kernel) rfl
theorem wdI_X0_placeOver : Cond.instanceMethod yX0_placeOver ∈ hALL := hA_at 349 (by decide +kernel) rfl
theorem wdC_X0_placeOver : Cond.code yX0_placeOver cX0_placeOver 4 none ∈ hALL := hA_at 350 (by decide +kernel) rfl
theorem wdL_X0_114 : Cond.methodLink RX0 114 yX0_goesOver ∈ hALL := hA_at 351 (by decide +kernel) rfl
theorem wdI_X0_goesOver : Cond.instanceMethod yX0_goesOver ∈ hALL := hA_at 353 (by decide +kernel) rfl
theorem wdC_X0_goesOver : Cond.code yX0_goesOver cX0_goesOver 4 (some .boolean) ∈ hALL := hA_at 354 (by decide +kernel) rfl
theorem wdL_X0_129 : Cond.methodLink RX0 129 yX1_isUpSide ∈ hALL := hA_at 355 (by decide +kernel) rfl
theorem wdL_X0_69 : Cond.methodLink RX0 69 yX0_has ∈ hALL := hA_at 356 (by decide +kernel) rfl
theorem wdI_X0_has : Cond.instanceMethod yX0_has ∈ hALL := hA_at 357 (by decide +kernel) rfl
theorem wdS_X0_has : Cond.selects RX0 yX0_has yX0_has ∈ hALL := hA_at 358 (by decide +kernel) rfl
theorem wdC_X0_has : Cond.code yX0_has cX0_has 3 (some .boolean) ∈ hALL := hA_at 359 (by decide +kernel) rfl
theorem wdZ_X0_117 : Cond.methodLinkNest RX0 117 yX3_slipWith RX3 ∈ lw_tbl := List.mem_of_getElem? (i := 360) (by decide +kernel)
theorem wdT_X3_slipWith : Cond.static yX3_slipWith ∈ hALL := hA_at 361 (by decide +kernel) rfl
theorem wdC_X3_slipWith : Cond.code yX3_slipWith cX3_slipWith 2 (some .int) ∈ hALL := hA_at 362 (by decide +kernel) rfl
theorem wdL_X0_98 : Cond.methodLink RX0 98 yX0_fillRows ∈ hALL := hA_at 363 (by decide +kernel) rfl
theorem wdI_X0_fillRows : Cond.instanceMethod yX0_fillRows ∈ hALL := hA_at 365 (by decide +kernel) rfl
theorem wdC_X0_fillRows : Cond.code yX0_fillRows cX0_fillRows 3 none ∈ hALL := hA_at 366 (by decide +kernel) rfl
theorem wdL_X0_133 : Cond.methodLink RX0 133 yX0_fillRow ∈ hALL := hA_at 367 (by decide +kernel) rfl
theorem wdI_X0_fillRow : Cond.instanceMethod yX0_fillRow ∈ hALL := hA_at 369 (by decide +kernel) rfl
theorem wdC_X0_fillRow : Cond.code yX0_fillRow cX0_fillRow 6 none ∈ hALL := hA_at 370 (by decide +kernel) rfl
theorem wdL_X0_137 : Cond.methodLink RX0 137 yX0_labelAhead ∈ hALL := hA_at 371 (by decide +kernel) rfl
theorem wdI_X0_labelAhead : Cond.instanceMethod yX0_labelAhead ∈ hALL := hA_at 373 (by decide +kernel) rfl
theorem wdC_X0_labelAhead : Cond.code yX0_labelAhead cX0_labelAhead 9 (some .int) ∈ hALL := hA_at 374 (by decide +kernel) rfl
theorem wdZ_X0_73 : Cond.methodLinkNest RX0 73 yX3_labelOf RX3 ∈ lw_tbl := List.mem_of_getElem? (i := 375) (by decide +kernel)
theorem wdT_X3_labelOf : Cond.static yX3_labelOf ∈ hALL := hA_at 376 (by decide +kernel) rfl
theorem wdC_X3_labelOf : Cond.code yX3_labelOf cX3_labelOf 1 (some .int) ∈ hALL := hA_at 377 (by decide +kernel) rfl
theorem wdL_X0_141 : Cond.methodLink RX0 141 yX0_bitOf ∈ hALL := hA_at 378 (by decide +kernel) rfl
theorem wdT_X0_bitOf : Cond.static yX0_bitOf ∈ hALL := hA_at 379 (by decide +kernel) rfl
theorem wdC_X0_bitOf : Cond.code yX0_bitOf cX0_bitOf 1 (some .int) ∈ hALL := hA_at 380 (by decide +kernel) rfl
theorem wdL_X0_144 : Cond.methodLink RX0 144 yX0_leastFree ∈ hALL := hA_at 381 (by decide +kernel) rfl
theorem wdT_X0_leastFree : Cond.static yX0_leastFree ∈ hALL := hA_at 382 (by decide +kernel) rfl
theorem wdC_X0_leastFree : Cond.code yX0_leastFree cX0_leastFree 2 (some .int) ∈ hALL := hA_at 383 (by decide +kernel) rfl
theorem wdL_X0_147 : Cond.methodLink RX0 147 yX0_labelOver ∈ hALL := hA_at 384 (by decide +kernel) rfl
theorem wdI_X0_labelOver : Cond.instanceMethod yX0_labelOver ∈ hALL := hA_at 386 (by decide +kernel) rfl
theorem wdC_X0_labelOver : Cond.code yX0_labelOver cX0_labelOver 4 none ∈ hALL := hA_at 387 (by decide +kernel) rfl
theorem wdL_X0_101 : Cond.methodLink RX0 101 yX0_takeFresh ∈ hALL := hA_at 388 (by decide +kernel) rfl
theorem wdI_X0_takeFresh : Cond.instanceMethod yX0_takeFresh ∈ hALL := hA_at 390 (by decide +kernel) rfl
theorem wdC_X0_takeFresh : Cond.code yX0_takeFresh cX0_takeFresh 3 (some .boolean) ∈ hALL := hA_at 391 (by decide +kernel) rfl
theorem wdL_X0_105 : Cond.methodLink RX0 105 yX0_keepAll ∈ hALL := hA_at 392 (by decide +kernel) rfl
theorem wdI_X0_keepAll : Cond.instanceMethod yX0_keepAll ∈ hALL := hA_at 394 (by decide +kernel) rfl
theorem wdC_X0_keepAll : Cond.code yX0_keepAll cX0_keepAll 5 (some .boolean) ∈ hALL := hA_at 395 (by decide +kernel) rfl
theorem wdL_X0_150 : Cond.methodLink RX0 150 yX0_slipToKeep ∈ hALL := hA_at 396 (by decide +kernel) rfl
theorem wdI_X0_slipToKeep : Cond.instanceMethod yX0_slipToKeep ∈ hALL := hA_at 398 (by decide +kernel) rfl
theorem wdC_X0_slipToKeep : Cond.code yX0_slipToKeep cX0_slipToKeep 4 (some .int) ∈ hALL := hA_at 399 (by decide +kernel) rfl
theorem wdL_L_56 : Cond.methodLink RL 56 yX3_handed ∈ hALL := hA_at 400 (by decide +kernel) rfl
theorem wdI_X3_handed : Cond.instanceMethod yX3_handed ∈ hALL := hA_at 401 (by decide +kernel) rfl
theorem wdS_X3_handed : Cond.selects RX3 yX3_handed yX3_handed ∈ hALL := hA_at 402 (by decide +kernel) rfl
theorem wdC_X3_handed : Cond.code yX3_handed cX3_handed 6 (some .int) ∈ hALL := hA_at 403 (by decide +kernel) rfl
theorem wdL_X3_123 : Cond.methodLink RX3 123 yX3_sideFor ∈ hALL := hA_at 404 (by decide +kernel) rfl
theorem wdI_X3_sideFor : Cond.instanceMethod yX3_sideFor ∈ hALL := hA_at 406 (by decide +kernel) rfl
theorem wdC_X3_sideFor : Cond.code yX3_sideFor cX3_sideFor 3 (some .int) ∈ hALL := hA_at 407 (by decide +kernel) rfl
theorem wdL_X3_187 : Cond.methodLink RX3 187 yX1_sideAt ∈ hALL := hA_at 408 (by decide +kernel) rfl
theorem wdL_X3_129 : Cond.methodLink RX3 129 yX3_slot ∈ hALL := hA_at 409 (by decide +kernel) rfl
theorem wdL_X3_132 : Cond.methodLink RX3 132 yX3_partOf ∈ hALL := hA_at 410 (by decide +kernel) rfl
theorem wdT_X3_partOf : Cond.static yX3_partOf ∈ hALL := hA_at 411 (by decide +kernel) rfl
theorem wdC_X3_partOf : Cond.code yX3_partOf cX3_partOf 2 (some .int) ∈ hALL := hA_at 412 (by decide +kernel) rfl
theorem wdL_X3_141 : Cond.methodLink RX3 141 yX3_labelOf ∈ hALL := hA_at 413 (by decide +kernel) rfl
theorem wdL_X3_190 : Cond.methodLink RX3 190 yX3_countOf ∈ hALL := hA_at 414 (by decide +kernel) rfl
theorem wdL_L_61 : Cond.methodLink RL 61 yX3_kept ∈ hALL := hA_at 415 (by decide +kernel) rfl
theorem wdI_X3_kept : Cond.instanceMethod yX3_kept ∈ hALL := hA_at 416 (by decide +kernel) rfl
theorem wdS_X3_kept : Cond.selects RX3 yX3_kept yX3_kept ∈ hALL := hA_at 417 (by decide +kernel) rfl
theorem wdC_X3_kept : Cond.code yX3_kept cX3_kept 6 (some .int) ∈ hALL := hA_at 418 (by decide +kernel) rfl
theorem wdL_L_65 : Cond.methodLink RL 65 yX3_used ∈ hALL := hA_at 419 (by decide +kernel) rfl
theorem wdI_X3_used : Cond.instanceMethod yX3_used ∈ hALL := hA_at 420 (by decide +kernel) rfl
theorem wdS_X3_used : Cond.selects RX3 yX3_used yX3_used ∈ hALL := hA_at 421 (by decide +kernel) rfl
theorem wdC_X3_used : Cond.code yX3_used cX3_used 4 (some .int) ∈ hALL := hA_at 422 (by decide +kernel) rfl
theorem wdL_X3_138 : Cond.methodLink RX3 138 yX0_slipUsed ∈ hALL := hA_at 423 (by decide +kernel) rfl
theorem wdL_L_69 : Cond.methodLink RL 69 yX3_meaning ∈ hALL := hA_at 424 (by decide +kernel) rfl
theorem wdI_X3_meaning : Cond.instanceMethod yX3_meaning ∈ hALL := hA_at 425 (by decide +kernel) rfl
theorem wdS_X3_meaning : Cond.selects RX3 yX3_meaning yX3_meaning ∈ hALL := hA_at 426 (by decide +kernel) rfl
theorem wdC_X3_meaning : Cond.code yX3_meaning cX3_meaning 6 (some .int) ∈ hALL := hA_at 427 (by decide +kernel) rfl
theorem wdL_X3_144 : Cond.methodLink RX3 144 yX0_classMeant ∈ hALL := hA_at 428 (by decide +kernel) rfl
theorem wdI_X0_classMeant : Cond.instanceMethod yX0_classMeant ∈ hALL := hA_at 429 (by decide +kernel) rfl
theorem wdS_X0_classMeant : Cond.selects RX0 yX0_classMeant yX0_classMeant ∈ hALL := hA_at 430 (by decide +kernel) rfl
theorem wdC_X0_classMeant : Cond.code yX0_classMeant cX0_classMeant 9 (some .int) ∈ hALL := hA_at 431 (by decide +kernel) rfl
theorem wdL_L_73 : Cond.methodLink RL 73 yX3_settles ∈ hALL := hA_at 432 (by decide +kernel) rfl
theorem wdI_X3_settles : Cond.instanceMethod yX3_settles ∈ hALL := hA_at 433 (by decide +kernel) rfl
theorem wdS_X3_settles : Cond.selects RX3 yX3_settles yX3_settles ∈ hALL := hA_at 434 (by decide +kernel) rfl
theorem wdC_X3_settles : Cond.code yX3_settles cX3_settles 1 (some .int) ∈ hALL := hA_at 435 (by decide +kernel) rfl
theorem wdL_X3_147 : Cond.methodLink RX3 147 yX0_ticksTillStill ∈ hALL := hA_at 436 (by decide +kernel) rfl
theorem wdI_X0_ticksTillStill : Cond.instanceMethod yX0_ticksTillStill ∈ hALL := hA_at 437 (by decide +kernel) rfl
theorem wdS_X0_ticksTillStill : Cond.selects RX0 yX0_ticksTillStill yX0_ticksTillStill ∈ hALL := hA_at 438 (by decide +kernel) rfl
theorem wdC_X0_ticksTillStill : Cond.code yX0_ticksTillStill cX0_ticksTillStill 3 (some .int) ∈ hALL := hA_at 439 (by decide +kernel) rfl
theorem wdL_X0_89 : Cond.methodLink RX0 89 arraycopyName ∈ hALL := hA_at 440 (by decide +kernel) rfl
theorem wdT_arraycopyName : Cond.static arraycopyName ∈ hALL := hA_at 441 (by decide +kernel) rfl
theorem wdV_arraycopyName : Cond.native arraycopyName ∈ hALL := hA_at 442 (by decide +kernel) rfl
theorem wdL_L_78 : Cond.methodLink RL 78 yX3_letter ∈ hALL := hA_at 443 (by decide +kernel) rfl
theorem wdI_X3_letter : Cond.instanceMethod yX3_letter ∈ hALL := hA_at 444 (by decide +kernel) rfl
theorem wdS_X3_letter : Cond.selects RX3 yX3_letter yX3_letter ∈ hALL := hA_at 445 (by decide +kernel) rfl
theorem wdC_X3_letter : Cond.code yX3_letter cX3_letter 3 (some .int) ∈ hALL := hA_at 446 (by decide +kernel) rfl
theorem wdL_X3_151 : Cond.methodLink RX3 151 yX2_walk ∈ hALL := hA_at 447 (by decide +kernel) rfl
theorem wdI_X2_walk : Cond.instanceMethod yX2_walk ∈ hALL := hA_at 448 (by decide +kernel) rfl
theorem wdS_X2_walk : Cond.selects RX2 yX2_walk yX2_walk ∈ hALL := hA_at 449 (by decide +kernel) rfl
theorem wdC_X2_walk : Cond.code yX2_walk cX2_walk 10 (some .int) ∈ hALL := hA_at 450 (by decide +kernel) rfl
theorem wdL_X2_30 : Cond.methodLink RX2 30 yX0_classMeant ∈ hALL := hA_at 451 (by decide +kernel) rfl
theorem wdZ_X2_44 : Cond.methodLinkNest RX2 44 yX3_pair RX3 ∈ lw_tbl := List.mem_of_getElem? (i := 452) (by decide +kernel)
theorem wdL_X2_48 : Cond.methodLink RX2 48 yX0_slipUsed ∈ hALL := hA_at 453 (by decide +kernel) rfl
theorem wdZ_X2_51 : Cond.methodLinkNest RX2 51 yX3_labelOf RX3 ∈ lw_tbl := List.mem_of_getElem? (i := 454) (by decide +kernel)
theorem wdL_L_82 : Cond.methodLink RL 82 yX3_trace ∈ hALL := hA_at 455 (by decide +kernel) rfl
theorem wdI_X3_trace : Cond.instanceMethod yX3_trace ∈ hALL := hA_at 456 (by decide +kernel) rfl
theorem wdS_X3_trace : Cond.selects RX3 yX3_trace yX3_trace ∈ hALL := hA_at 457 (by decide +kernel) rfl
theorem wdC_X3_trace : Cond.code yX3_trace cX3_trace 3 (some .int) ∈ hALL := hA_at 458 (by decide +kernel) rfl
theorem wdL_L_86 : Cond.methodLink RL 86 yX3_served ∈ hALL := hA_at 459 (by decide +kernel) rfl
theorem wdI_X3_served : Cond.instanceMethod yX3_served ∈ hALL := hA_at 460 (by decide +kernel) rfl
theorem wdS_X3_served : Cond.selects RX3 yX3_served yX3_served ∈ hALL := hA_at 461 (by decide +kernel) rfl
theorem wdC_X3_served : Cond.code yX3_served cX3_served 5 (some .int) ∈ hALL := hA_at 462 (by decide +kernel) rfl
theorem wdL_X3_163 : Cond.methodLink RX3 163 yX3_isServed ∈ hALL := hA_at 463 (by decide +kernel) rfl
theorem wdI_X3_isServed : Cond.instanceMethod yX3_isServed ∈ hALL := hA_at 465 (by decide +kernel) rfl
theorem wdC_X3_isServed : Cond.code yX3_isServed cX3_isServed 5 (some .boolean) ∈ hALL := hA_at 466 (by decide +kernel) rfl
theorem wdL_X3_183 : Cond.methodLink RX3 183 yX2_labelledBetween ∈ hALL := hA_at 467 (by decide +kernel) rfl
theorem wdI_X2_labelledBetween : Cond.instanceMethod yX2_labelledBetween ∈ hALL := hA_at 468 (by decide +kernel) rfl
theorem wdS_X2_labelledBetween : Cond.selects RX2 yX2_labelledBetween yX2_labelledBetween ∈ hALL := hA_at 469 (by decide +kernel) rfl
theorem wdC_X2_labelledBetween : Cond.code yX2_labelledBetween cX2_labelledBetween 2 (some .boolean) ∈ hALL := hA_at 470 (by decide +kernel) rfl
theorem wdL_L_90 : Cond.methodLink RL 90 yX3_merged ∈ hALL := hA_at 471 (by decide +kernel) rfl
theorem wdI_X3_merged : Cond.instanceMethod yX3_merged ∈ hALL := hA_at 472 (by decide +kernel) rfl
theorem wdS_X3_merged : Cond.selects RX3 yX3_merged yX3_merged ∈ hALL := hA_at 473 (by decide +kernel) rfl
theorem wdC_X3_merged : Cond.code yX3_merged cX3_merged 5 (some .int) ∈ hALL := hA_at 474 (by decide +kernel) rfl
theorem wdL_L_94 : Cond.methodLink RL 94 yX3_many ∈ hALL := hA_at 475 (by decide +kernel) rfl
theorem wdI_X3_many : Cond.instanceMethod yX3_many ∈ hALL := hA_at 476 (by decide +kernel) rfl
theorem wdS_X3_many : Cond.selects RX3 yX3_many yX3_many ∈ hALL := hA_at 477 (by decide +kernel) rfl
theorem wdC_X3_many : Cond.code yX3_many cX3_many 2 (some .int) ∈ hALL := hA_at 478 (by decide +kernel) rfl
theorem wdL_X3_167 : Cond.methodLink RX3 167 yX1_linksUp ∈ hALL := hA_at 479 (by decide +kernel) rfl
theorem wdI_X1_linksUp : Cond.instanceMethod yX1_linksUp ∈ hALL := hA_at 480 (by decide +kernel) rfl
theorem wdS_X1_linksUp : Cond.selects RX1 yX1_linksUp yX1_linksUp ∈ hALL := hA_at 481 (by decide +kernel) rfl
theorem wdC_X1_linksUp : Cond.code yX1_linksUp cX1_linksUp 3 (some .int) ∈ hALL := hA_at 482 (by decide +kernel) rfl
theorem wdL_X3_170 : Cond.methodLink RX3 170 yX3_countSlips ∈ hALL := hA_at 483 (by decide +kernel) rfl
theorem wdT_X3_countSlips : Cond.static yX3_countSlips ∈ hALL := hA_at 484 (by decide +kernel) rfl
theorem wdC_X3_countSlips : Cond.code yX3_countSlips cX3_countSlips 3 (some .int) ∈ hALL := hA_at 485 (by decide +kernel) rfl
theorem wdL_X3_174 : Cond.methodLink RX3 174 yX1_classesWithEnd ∈ hALL := hA_at 486 (by decide +kernel) rfl
theorem wdI_X1_classesWithEnd : Cond.instanceMethod yX1_classesWithEnd ∈ hALL := hA_at 487 (by decide +kernel) rfl
theorem wdS_X1_classesWithEnd : Cond.selects RX1 yX1_classesWithEnd yX1_classesWithEnd ∈ hALL := hA_at 488 (by decide +kernel) rfl
theorem wdC_X1_classesWithEnd : Cond.code yX1_classesWithEnd cX1_classesWithEnd 3 (some .int) ∈ hALL := hA_at 489 (by decide +kernel) rfl
theorem wdL_X3_180 : Cond.methodLink RX3 180 yX0_greatestLabel ∈ hALL := hA_at 490 (by decide +kernel) rfl
theorem wdI_X0_greatestLabel : Cond.instanceMethod yX0_greatestLabel ∈ hALL := hA_at 491 (by decide +kernel) rfl
theorem wdS_X0_greatestLabel : Cond.selects RX0 yX0_greatestLabel yX0_greatestLabel ∈ hALL := hA_at 492 (by decide +kernel) rfl
theorem wdC_X0_greatestLabel : Cond.code yX0_greatestLabel cX0_greatestLabel 3 (some .int) ∈ hALL := hA_at 493 (by decide +kernel) rfl
theorem wdL_X0_77 : Cond.methodLink RX0 77 Lib.Math.max.name ∈ hALL := hA_at 494 (by decide +kernel) rfl
theorem wdK_L_10 : Cond.classLink RL 10 RX4 ∈ hALL := hA_at 495 (by decide +kernel) rfl
theorem wdP_X4 : Cond.instantiable RX4 27 ∈ hALL := hA_at 496 (by decide +kernel) rfl
theorem wdL_L_12 : Cond.methodLink RL 12 yX4_init ∈ hALL := hA_at 497 (by decide +kernel) rfl
theorem wdI_X4_init : Cond.instanceMethod yX4_init ∈ hALL := hA_at 498 (by decide +kernel) rfl
theorem wdC_X4_init : Cond.code yX4_init cX4_init 2 none ∈ hALL := hA_at 499 (by decide +kernel) rfl
theorem wdL_X4_1 : Cond.methodLink RX4 1 objectInit ∈ hALL := hA_at 500 (by decide +kernel) rfl
theorem wdF_X4_84 : Cond.fieldLink RX4 84 "HandedLabelsModel" "links" "I" ∈ hALL := hA_at 501 (by decide +kernel) rfl
theorem wdF_X4_7 : Cond.fieldLink RX4 7 "HandedLabelsModel" "lesser" "[I" ∈ hALL := hA_at 502 (by decide +kernel) rfl
theorem wdF_X4_13 : Cond.fieldLink RX4 13 "HandedLabelsModel" "greater" "[I" ∈ hALL := hA_at 503 (by decide +kernel) rfl
theorem wdF_X4_16 : Cond.fieldLink RX4 16 "HandedLabelsModel" "costOf" "[I" ∈ hALL := hA_at 504 (by decide +kernel) rfl
theorem wdF_X4_19 : Cond.fieldLink RX4 19 "HandedLabelsModel" "isUp" "[Z" ∈ hALL := hA_at 505 (by decide +kernel) rfl
theorem wdF_X4_23 : Cond.fieldLink RX4 23 "HandedLabelsModel" "endOf" "[I" ∈ hALL := hA_at 506 (by decide +kernel) rfl
theorem wdF_X4_26 : Cond.fieldLink RX4 26 "HandedLabelsModel" "farOf" "[I" ∈ hALL := hA_at 507 (by decide +kernel) rfl
theorem wdF_X4_29 : Cond.fieldLink RX4 29 "HandedLabelsModel" "mode" "[I" ∈ hALL := hA_at 508 (by decide +kernel) rfl
theorem wdF_X4_32 : Cond.fieldLink RX4 32 "HandedLabelsModel" "setting" "[I" ∈ hALL := hA_at 509 (by decide +kernel) rfl
theorem wdF_X4_35 : Cond.fieldLink RX4 35 "HandedLabelsModel" "label" "[I" ∈ hALL := hA_at 510 (by decide +kernel) rfl
theorem wdF_X4_38 : Cond.fieldLink RX4 38 "HandedLabelsModel" "count" "[I" ∈ hALL := hA_at 511 (by decide +kernel) rfl
theorem wdF_X4_41 : Cond.fieldLink RX4 41 "HandedLabelsModel" "keptLabel" "[I" ∈ hALL := hA_at 512 (by decide +kernel) rfl
theorem wdF_X4_44 : Cond.fieldLink RX4 44 "HandedLabelsModel" "keptCount" "[I" ∈ hALL := hA_at 513 (by decide +kernel) rfl
theorem wdF_X4_161 : Cond.fieldLink RX4 161 "HandedLabelsModel" "ticks" "I" ∈ hALL := hA_at 514 (by decide +kernel) rfl
theorem wdF_X4_47 : Cond.fieldLink RX4 47 "HandedLabelsModel" "labelAhead" "[I" ∈ hALL := hA_at 515 (by decide +kernel) rfl
theorem wdF_X4_50 : Cond.fieldLink RX4 50 "HandedLabelsModel" "countAhead" "[I" ∈ hALL := hA_at 516 (by decide +kernel) rfl
theorem wdF_X4_53 : Cond.fieldLink RX4 53 "HandedLabelsModel" "keptAhead" "[I" ∈ hALL := hA_at 517 (by decide +kernel) rfl
theorem wdF_X4_56 : Cond.fieldLink RX4 56 "HandedLabelsModel" "keptCountAhead" "[I" ∈ hALL := hA_at 518 (by decide +kernel) rfl
theorem wdF_X4_59 : Cond.fieldLink RX4 59 "HandedLabelsModel" "nextNow" "[I" ∈ hALL := hA_at 519 (by decide +kernel) rfl
theorem wdF_X4_62 : Cond.fieldLink RX4 62 "HandedLabelsModel" "counts" "[I" ∈ hALL := hA_at 520 (by decide +kernel) rfl
theorem wdF_X4_65 : Cond.fieldLink RX4 65 "HandedLabelsModel" "putAside" "[I" ∈ hALL := hA_at 521 (by decide +kernel) rfl
theorem wdF_X4_68 : Cond.fieldLink RX4 68 "HandedLabelsModel" "boxAt" "[I" ∈ hALL := hA_at 522 (by decide +kernel) rfl
theorem wdF_X4_71 : Cond.fieldLink RX4 71 "HandedLabelsModel" "labelAt" "[I" ∈ hALL := hA_at 523 (by decide +kernel) rfl
theorem wdF_X4_184 : Cond.fieldLink RX4 184 "HandedLabelsModel" "boxes" "I" ∈ hALL := hA_at 524 (by decide +kernel) rfl
theorem wdF_X4_74 : Cond.fieldLink RX4 74 "HandedLabelsModel" "toldBox" "[I" ∈ hALL := hA_at 525 (by decide +kernel) rfl
theorem wdF_X4_77 : Cond.fieldLink RX4 77 "HandedLabelsModel" "toldLabel" "[I" ∈ hALL := hA_at 526 (by decide +kernel) rfl
theorem wdF_X4_190 : Cond.fieldLink RX4 190 "HandedLabelsModel" "told" "I" ∈ hALL := hA_at 527 (by decide +kernel) rfl
theorem wdY_X4_links : Cond.lays RX4 "HandedLabelsModel" "links" "I" ∈ hALL := hA_at 528 (by decide +kernel) rfl
theorem wdY_X4_lesser : Cond.laysFinal RX4 "HandedLabelsModel" "lesser" "[I" ∈ hALL := hA_at 530 (by decide +kernel) rfl
theorem wdY_X4_greater : Cond.laysFinal RX4 "HandedLabelsModel" "greater" "[I" ∈ hALL := hA_at 532 (by decide +kernel) rfl
theorem wdY_X4_costOf : Cond.laysFinal RX4 "HandedLabelsModel" "costOf" "[I" ∈ hALL := hA_at 534 (by decide +kernel) rfl
theorem wdY_X4_isUp : Cond.laysFinal RX4 "HandedLabelsModel" "isUp" "[Z" ∈ hALL := hA_at 536 (by decide +kernel) rfl
theorem wdY_X4_endOf : Cond.laysFinal RX4 "HandedLabelsModel" "endOf" "[I" ∈ hALL := hA_at 538 (by decide +kernel) rfl
theorem wdY_X4_farOf : Cond.laysFinal RX4 "HandedLabelsModel" "farOf" "[I" ∈ hALL := hA_at 540 (by decide +kernel) rfl
theorem wdY_X4_mode : Cond.laysFinal RX4 "HandedLabelsModel" "mode" "[I" ∈ hALL := hA_at 542 (by decide +kernel) rfl
theorem wdY_X4_setting : Cond.laysFinal RX4 "HandedLabelsModel" "setting" "[I" ∈ hALL := hA_at 544 (by decide +kernel) rfl
theorem wdY_X4_label : Cond.laysFinal RX4 "HandedLabelsModel" "label" "[I" ∈ hALL := hA_at 546 (by decide +kernel) rfl
theorem wdY_X4_count : Cond.laysFinal RX4 "HandedLabelsModel" "count" "[I" ∈ hALL := hA_at 548 (by decide +kernel) rfl
theorem wdY_X4_keptLabel : Cond.laysFinal RX4 "HandedLabelsModel" "keptLabel" "[I" ∈ hALL := hA_at 550 (by decide +kernel) rfl
theorem wdY_X4_keptCount : Cond.laysFinal RX4 "HandedLabelsModel" "keptCount" "[I" ∈ hALL := hA_at 552 (by decide +kernel) rfl
theorem wdY_X4_ticks : Cond.lays RX4 "HandedLabelsModel" "ticks" "I" ∈ hALL := hA_at 554 (by decide +kernel) rfl
theorem wdY_X4_labelAhead : Cond.laysFinal RX4 "HandedLabelsModel" "labelAhead" "[I" ∈ hALL := hA_at 556 (by decide +kernel) rfl
theorem wdY_X4_countAhead : Cond.laysFinal RX4 "HandedLabelsModel" "countAhead" "[I" ∈ hALL := hA_at 558 (by decide +kernel) rfl
theorem wdY_X4_keptAhead : Cond.laysFinal RX4 "HandedLabelsModel" "keptAhead" "[I" ∈ hALL := hA_at 560 (by decide +kernel) rfl
theorem wdY_X4_keptCountAhead : Cond.laysFinal RX4 "HandedLabelsModel" "keptCountAhead" "[I" ∈ hALL := hA_at 562 (by decide +kernel) rfl
theorem wdY_X4_nextNow : Cond.laysFinal RX4 "HandedLabelsModel" "nextNow" "[I" ∈ hALL := hA_at 564 (by decide +kernel) rfl
theorem wdY_X4_counts : Cond.laysFinal RX4 "HandedLabelsModel" "counts" "[I" ∈ hALL := hA_at 566 (by decide +kernel) rfl
theorem wdY_X4_putAside : Cond.laysFinal RX4 "HandedLabelsModel" "putAside" "[I" ∈ hALL := hA_at 568 (by decide +kernel) rfl
theorem wdY_X4_boxAt : Cond.laysFinal RX4 "HandedLabelsModel" "boxAt" "[I" ∈ hALL := hA_at 570 (by decide +kernel) rfl
theorem wdY_X4_labelAt : Cond.laysFinal RX4 "HandedLabelsModel" "labelAt" "[I" ∈ hALL := hA_at 572 (by decide +kernel) rfl
theorem wdY_X4_boxes : Cond.lays RX4 "HandedLabelsModel" "boxes" "I" ∈ hALL := hA_at 574 (by decide +kernel) rfl
theorem wdY_X4_toldBox : Cond.laysFinal RX4 "HandedLabelsModel" "toldBox" "[I" ∈ hALL := hA_at 576 (by decide +kernel) rfl
theorem wdY_X4_toldLabel : Cond.laysFinal RX4 "HandedLabelsModel" "toldLabel" "[I" ∈ hALL := hA_at 578 (by decide +kernel) rfl
theorem wdY_X4_told : Cond.lays RX4 "HandedLabelsModel" "told" "I" ∈ hALL := hA_at 580 (by decide +kernel) rfl
theorem wdA_boolean : Cond.arrayClass .boolean ∈ hALL := hA_at 583 (by decide +kernel) rfl
theorem wdL_L_17 : Cond.methodLink RL 17 yX4_link ∈ hALL := hA_at 584 (by decide +kernel) rfl
theorem wdI_X4_link : Cond.instanceMethod yX4_link ∈ hALL := hA_at 585 (by decide +kernel) rfl
theorem wdS_X4_link : Cond.selects RX4 yX4_link yX4_link ∈ hALL := hA_at 586 (by decide +kernel) rfl
theorem wdC_X4_link : Cond.code yX4_link cX4_link 4 (some .int) ∈ hALL := hA_at 587 (by decide +kernel) rfl
theorem wdL_X4_88 : Cond.methodLink RX4 88 yX4_isBox ∈ hALL := hA_at 588 (by decide +kernel) rfl
theorem wdT_X4_isBox : Cond.static yX4_isBox ∈ hALL := hA_at 589 (by decide +kernel) rfl
theorem wdC_X4_isBox : Cond.code yX4_isBox cX4_isBox 1 (some .boolean) ∈ hALL := hA_at 590 (by decide +kernel) rfl
theorem wdL_X4_80 : Cond.methodLink RX4 80 yX4_within ∈ hALL := hA_at 591 (by decide +kernel) rfl
theorem wdT_X4_within : Cond.static yX4_within ∈ hALL := hA_at 592 (by decide +kernel) rfl
theorem wdC_X4_within : Cond.code yX4_within cX4_within 3 (some .boolean) ∈ hALL := hA_at 593 (by decide +kernel) rfl
theorem wdL_X4_92 : Cond.methodLink RX4 92 yX4_linkBetween ∈ hALL := hA_at 594 (by decide +kernel) rfl
theorem wdI_X4_linkBetween : Cond.instanceMethod yX4_linkBetween ∈ hALL := hA_at 596 (by decide +kernel) rfl
theorem wdC_X4_linkBetween : Cond.code yX4_linkBetween cX4_linkBetween 4 (some .int) ∈ hALL := hA_at 597 (by decide +kernel) rfl
theorem wdL_L_22 : Cond.methodLink RL 22 yX4_cost ∈ hALL := hA_at 598 (by decide +kernel) rfl
theorem wdI_X4_cost : Cond.instanceMethod yX4_cost ∈ hALL := hA_at 599 (by decide +kernel) rfl
theorem wdS_X4_cost : Cond.selects RX4 yX4_cost yX4_cost ∈ hALL := hA_at 600 (by decide +kernel) rfl
theorem wdC_X4_cost : Cond.code yX4_cost cX4_cost 4 (some .int) ∈ hALL := hA_at 601 (by decide +kernel) rfl
theorem wdL_X4_96 : Cond.methodLink RX4 96 yX4_isLink ∈ hALL := hA_at 602 (by decide +kernel) rfl
theorem wdI_X4_isLink : Cond.instanceMethod yX4_isLink ∈ hALL := hA_at 604 (by decide +kernel) rfl
theorem wdC_X4_isLink : Cond.code yX4_isLink cX4_isLink 2 (some .boolean) ∈ hALL := hA_at 605 (by decide +kernel) rfl
theorem wdL_L_26 : Cond.methodLink RL 26 yX4_up ∈ hALL := hA_at 606 (by decide +kernel) rfl
theorem wdI_X4_up : Cond.instanceMethod yX4_up ∈ hALL := hA_at 607 (by decide +kernel) rfl
theorem wdS_X4_up : Cond.selects RX4 yX4_up yX4_up ∈ hALL := hA_at 608 (by decide +kernel) rfl
theorem wdC_X4_up : Cond.code yX4_up cX4_up 5 (some .int) ∈ hALL := hA_at 609 (by decide +kernel) rfl
theorem wdL_L_30 : Cond.methodLink RL 30 yX4_end ∈ hALL := hA_at 610 (by decide +kernel) rfl
theorem wdI_X4_end : Cond.instanceMethod yX4_end ∈ hALL := hA_at 611 (by decide +kernel) rfl
theorem wdS_X4_end : Cond.selects RX4 yX4_end yX4_end ∈ hALL := hA_at 612 (by decide +kernel) rfl
theorem wdC_X4_end : Cond.code yX4_end cX4_end 4 (some .int) ∈ hALL := hA_at 613 (by decide +kernel) rfl
theorem wdL_X4_99 : Cond.methodLink RX4 99 yX4_isClass ∈ hALL := hA_at 614 (by decide +kernel) rfl
theorem wdT_X4_isClass : Cond.static yX4_isClass ∈ hALL := hA_at 615 (by decide +kernel) rfl
theorem wdC_X4_isClass : Cond.code yX4_isClass cX4_isClass 1 (some .boolean) ∈ hALL := hA_at 616 (by decide +kernel) rfl
theorem wdL_L_34 : Cond.methodLink RL 34 yX4_ofLink ∈ hALL := hA_at 617 (by decide +kernel) rfl
theorem wdI_X4_ofLink : Cond.instanceMethod yX4_ofLink ∈ hALL := hA_at 618 (by decide +kernel) rfl
theorem wdS_X4_ofLink : Cond.selects RX4 yX4_ofLink yX4_ofLink ∈ hALL := hA_at 619 (by decide +kernel) rfl
theorem wdC_X4_ofLink : Cond.code yX4_ofLink cX4_ofLink 3 (some .int) ∈ hALL := hA_at 620 (by decide +kernel) rfl
theorem wdL_L_38 : Cond.methodLink RL 38 yX4_next ∈ hALL := hA_at 621 (by decide +kernel) rfl
theorem wdI_X4_next : Cond.instanceMethod yX4_next ∈ hALL := hA_at 622 (by decide +kernel) rfl
theorem wdS_X4_next : Cond.selects RX4 yX4_next yX4_next ∈ hALL := hA_at 623 (by decide +kernel) rfl
theorem wdC_X4_next : Cond.code yX4_next cX4_next 3 (some .int) ∈ hALL := hA_at 624 (by decide +kernel) rfl
theorem wdL_X4_106 : Cond.methodLink RX4 106 yX4_nextOf ∈ hALL := hA_at 625 (by decide +kernel) rfl
theorem wdI_X4_nextOf : Cond.instanceMethod yX4_nextOf ∈ hALL := hA_at 627 (by decide +kernel) rfl
theorem wdC_X4_nextOf : Cond.code yX4_nextOf cX4_nextOf 5 (some .int) ∈ hALL := hA_at 628 (by decide +kernel) rfl
theorem wdL_X4_102 : Cond.methodLink RX4 102 yX4_findFar ∈ hALL := hA_at 629 (by decide +kernel) rfl
theorem wdI_X4_findFar : Cond.instanceMethod yX4_findFar ∈ hALL := hA_at 631 (by decide +kernel) rfl
theorem wdC_X4_findFar : Cond.code yX4_findFar cX4_findFar 6 none ∈ hALL := hA_at 632 (by decide +kernel) rfl
theorem wdL_L_42 : Cond.methodLink RL 42 yX4_far ∈ hALL := hA_at 633 (by decide +kernel) rfl
theorem wdI_X4_far : Cond.instanceMethod yX4_far ∈ hALL := hA_at 634 (by decide +kernel) rfl
theorem wdS_X4_far : Cond.selects RX4 yX4_far yX4_far ∈ hALL := hA_at 635 (by decide +kernel) rfl
theorem wdC_X4_far : Cond.code yX4_far cX4_far 3 (some .int) ∈ hALL := hA_at 636 (by decide +kernel) rfl
theorem wdL_L_46 : Cond.methodLink RL 46 yX4_mode ∈ hALL := hA_at 637 (by decide +kernel) rfl
theorem wdI_X4_mode : Cond.instanceMethod yX4_mode ∈ hALL := hA_at 638 (by decide +kernel) rfl
theorem wdS_X4_mode : Cond.selects RX4 yX4_mode yX4_mode ∈ hALL := hA_at 639 (by decide +kernel) rfl
theorem wdC_X4_mode : Cond.code yX4_mode cX4_mode 6 (some .int) ∈ hALL := hA_at 640 (by decide +kernel) rfl
theorem wdL_X4_109 : Cond.methodLink RX4 109 yX4_at ∈ hALL := hA_at 641 (by decide +kernel) rfl
theorem wdT_X4_at : Cond.static yX4_at ∈ hALL := hA_at 642 (by decide +kernel) rfl
theorem wdC_X4_at : Cond.code yX4_at cX4_at 3 (some .int) ∈ hALL := hA_at 643 (by decide +kernel) rfl
theorem wdL_L_50 : Cond.methodLink RL 50 yX4_setting ∈ hALL := hA_at 644 (by decide +kernel) rfl
theorem wdI_X4_setting : Cond.instanceMethod yX4_setting ∈ hALL := hA_at 645 (by decide +kernel) rfl
theorem wdS_X4_setting : Cond.selects RX4 yX4_setting yX4_setting ∈ hALL := hA_at 646 (by decide +kernel) rfl
theorem wdC_X4_setting : Cond.code yX4_setting cX4_setting 5 (some .int) ∈ hALL := hA_at 647 (by decide +kernel) rfl
theorem wdL_L_55 : Cond.methodLink RL 55 yX4_ticks ∈ hALL := hA_at 648 (by decide +kernel) rfl
theorem wdI_X4_ticks : Cond.instanceMethod yX4_ticks ∈ hALL := hA_at 649 (by decide +kernel) rfl
theorem wdS_X4_ticks : Cond.selects RX4 yX4_ticks yX4_ticks ∈ hALL := hA_at 650 (by decide +kernel) rfl
theorem wdC_X4_ticks : Cond.code yX4_ticks cX4_ticks 4 (some .int) ∈ hALL := hA_at 651 (by decide +kernel) rfl
theorem wdL_X4_158 : Cond.methodLink RX4 158 yX4_goesOn ∈ hALL := hA_at 652 (by decide +kernel) rfl
theorem wdI_X4_goesOn : Cond.instanceMethod yX4_goesOn ∈ hALL := hA_at 654 (by decide +kernel) rfl
theorem wdC_X4_goesOn : Cond.code yX4_goesOn cX4_goesOn 2 none ∈ hALL := hA_at 655 (by decide +kernel) rfl
theorem wdL_X4_149 : Cond.methodLink RX4 149 yX4_countOf ∈ hALL := hA_at 656 (by decide +kernel) rfl
theorem wdI_X4_countOf : Cond.instanceMethod yX4_countOf ∈ hALL := hA_at 658 (by decide +kernel) rfl
theorem wdC_X4_countOf : Cond.code yX4_countOf cX4_countOf 4 (some .int) ∈ hALL := hA_at 659 (by decide +kernel) rfl
theorem wdL_X4_113 : Cond.methodLink RX4 113 yX4_usedAt ∈ hALL := hA_at 660 (by decide +kernel) rfl
theorem wdI_X4_usedAt : Cond.instanceMethod yX4_usedAt ∈ hALL := hA_at 662 (by decide +kernel) rfl
theorem wdC_X4_usedAt : Cond.code yX4_usedAt cX4_usedAt 4 (some .int) ∈ hALL := hA_at 663 (by decide +kernel) rfl
theorem wdL_X4_152 : Cond.methodLink RX4 152 yX4_handsAll ∈ hALL := hA_at 664 (by decide +kernel) rfl
theorem wdI_X4_handsAll : Cond.instanceMethod yX4_handsAll ∈ hALL := hA_at 666 (by decide +kernel) rfl
theorem wdC_X4_handsAll : Cond.code yX4_handsAll cX4_handsAll 3 none ∈ hALL := hA_at 667 (by decide +kernel) rfl
theorem wdL_X4_120 : Cond.methodLink RX4 120 yX4_is ∈ hALL := hA_at 668 (by decide +kernel) rfl
theorem wdI_X4_is : Cond.instanceMethod yX4_is ∈ hALL := hA_at 670 (by decide +kernel) rfl
theorem wdC_X4_is : Cond.code yX4_is cX4_is 3 (some .boolean) ∈ hALL := hA_at 671 (by decide +kernel) rfl
theorem wdL_X4_145 : Cond.methodLink RX4 145 yX4_handsRow ∈ hALL := hA_at 672 (by decide +kernel) rfl
theorem wdI_X4_handsRow : Cond.instanceMethod yX4_handsRow ∈ hALL := hA_at 674 (by decide +kernel) rfl
theorem wdC_X4_handsRow : Cond.code yX4_handsRow cX4_handsRow 5 none ∈ hALL := hA_at 675 (by decide +kernel) rfl
theorem wdL_X4_132 : Cond.methodLink RX4 132 yX4_isNew ∈ hALL := hA_at 676 (by decide +kernel) rfl
theorem wdI_X4_isNew : Cond.instanceMethod yX4_isNew ∈ hALL := hA_at 678 (by decide +kernel) rfl
theorem wdC_X4_isNew : Cond.code yX4_isNew cX4_isNew 4 (some .boolean) ∈ hALL := hA_at 679 (by decide +kernel) rfl
theorem wdL_X4_126 : Cond.methodLink RX4 126 yX4_labelWas ∈ hALL := hA_at 680 (by decide +kernel) rfl
theorem wdI_X4_labelWas : Cond.instanceMethod yX4_labelWas ∈ hALL := hA_at 682 (by decide +kernel) rfl
theorem wdC_X4_labelWas : Cond.code yX4_labelWas cX4_labelWas 6 (some .int) ∈ hALL := hA_at 683 (by decide +kernel) rfl
theorem wdL_X4_135 : Cond.methodLink RX4 135 yX4_labels ∈ hALL := hA_at 684 (by decide +kernel) rfl
theorem wdI_X4_labels : Cond.instanceMethod yX4_labels ∈ hALL := hA_at 686 (by decide +kernel) rfl
theorem wdC_X4_labels : Cond.code yX4_labels cX4_labels 6 none ∈ hALL := hA_at 687 (by decide +kernel) rfl
theorem wdL_X4_129 : Cond.methodLink RX4 129 yX4_hands ∈ hALL := hA_at 688 (by decide +kernel) rfl
theorem wdI_X4_hands : Cond.instanceMethod yX4_hands ∈ hALL := hA_at 690 (by decide +kernel) rfl
theorem wdC_X4_hands : Cond.code yX4_hands cX4_hands 4 (some .boolean) ∈ hALL := hA_at 691 (by decide +kernel) rfl
theorem wdL_X4_116 : Cond.methodLink RX4 116 yX4_isAt ∈ hALL := hA_at 692 (by decide +kernel) rfl
theorem wdI_X4_isAt : Cond.instanceMethod yX4_isAt ∈ hALL := hA_at 694 (by decide +kernel) rfl
theorem wdC_X4_isAt : Cond.code yX4_isAt cX4_isAt 3 (some .boolean) ∈ hALL := hA_at 695 (by decide +kernel) rfl
theorem wdL_X4_123 : Cond.methodLink RX4 123 yX4_otherOf ∈ hALL := hA_at 696 (by decide +kernel) rfl
theorem wdI_X4_otherOf : Cond.instanceMethod yX4_otherOf ∈ hALL := hA_at 698 (by decide +kernel) rfl
theorem wdC_X4_otherOf : Cond.code yX4_otherOf cX4_otherOf 3 (some .int) ∈ hALL := hA_at 699 (by decide +kernel) rfl
theorem wdL_X4_139 : Cond.methodLink RX4 139 yX4_handsInRow ∈ hALL := hA_at 700 (by decide +kernel) rfl
theorem wdI_X4_handsInRow : Cond.instanceMethod yX4_handsInRow ∈ hALL := hA_at 702 (by decide +kernel) rfl
theorem wdC_X4_handsInRow : Cond.code yX4_handsInRow cX4_handsInRow 5 (some .boolean) ∈ hALL := hA_at 703 (by decide +kernel) rfl
theorem wdL_X4_142 : Cond.methodLink RX4 142 yX4_isInRow ∈ hALL := hA_at 704 (by decide +kernel) rfl
theorem wdI_X4_isInRow : Cond.instanceMethod yX4_isInRow ∈ hALL := hA_at 706 (by decide +kernel) rfl
theorem wdC_X4_isInRow : Cond.code yX4_isInRow cX4_isInRow 6 (some .boolean) ∈ hALL := hA_at 707 (by decide +kernel) rfl
theorem wdL_X4_155 : Cond.methodLink RX4 155 yX4_keeps ∈ hALL := hA_at 708 (by decide +kernel) rfl
theorem wdI_X4_keeps : Cond.instanceMethod yX4_keeps ∈ hALL := hA_at 710 (by decide +kernel) rfl
theorem wdC_X4_keeps : Cond.code yX4_keeps cX4_keeps 7 none ∈ hALL := hA_at 711 (by decide +kernel) rfl
theorem wdL_X4_164 : Cond.methodLink RX4 164 yX4_isChanged ∈ hALL := hA_at 712 (by decide +kernel) rfl
theorem wdI_X4_isChanged : Cond.instanceMethod yX4_isChanged ∈ hALL := hA_at 714 (by decide +kernel) rfl
theorem wdC_X4_isChanged : Cond.code yX4_isChanged cX4_isChanged 5 (some .boolean) ∈ hALL := hA_at 715 (by decide +kernel) rfl
theorem wdL_L_60 : Cond.methodLink RL 60 yX4_handed ∈ hALL := hA_at 716 (by decide +kernel) rfl
theorem wdI_X4_handed : Cond.instanceMethod yX4_handed ∈ hALL := hA_at 717 (by decide +kernel) rfl
theorem wdS_X4_handed : Cond.selects RX4 yX4_handed yX4_handed ∈ hALL := hA_at 718 (by decide +kernel) rfl
theorem wdC_X4_handed : Cond.code yX4_handed cX4_handed 5 (some .int) ∈ hALL := hA_at 719 (by decide +kernel) rfl
theorem wdL_X4_168 : Cond.methodLink RX4 168 yX4_isThere ∈ hALL := hA_at 720 (by decide +kernel) rfl
theorem wdI_X4_isThere : Cond.instanceMethod yX4_isThere ∈ hALL := hA_at 722 (by decide +kernel) rfl
theorem wdC_X4_isThere : Cond.code yX4_isThere cX4_isThere 3 (some .boolean) ∈ hALL := hA_at 723 (by decide +kernel) rfl
theorem wdL_X4_171 : Cond.methodLink RX4 171 yX4_tell ∈ hALL := hA_at 724 (by decide +kernel) rfl
theorem wdT_X4_tell : Cond.static yX4_tell ∈ hALL := hA_at 725 (by decide +kernel) rfl
theorem wdC_X4_tell : Cond.code yX4_tell cX4_tell 3 (some .int) ∈ hALL := hA_at 726 (by decide +kernel) rfl
theorem wdL_L_64 : Cond.methodLink RL 64 yX4_kept ∈ hALL := hA_at 727 (by decide +kernel) rfl
theorem wdI_X4_kept : Cond.instanceMethod yX4_kept ∈ hALL := hA_at 728 (by decide +kernel) rfl
theorem wdS_X4_kept : Cond.selects RX4 yX4_kept yX4_kept ∈ hALL := hA_at 729 (by decide +kernel) rfl
theorem wdC_X4_kept : Cond.code yX4_kept cX4_kept 5 (some .int) ∈ hALL := hA_at 730 (by decide +kernel) rfl
theorem wdL_L_68 : Cond.methodLink RL 68 yX4_used ∈ hALL := hA_at 731 (by decide +kernel) rfl
theorem wdI_X4_used : Cond.instanceMethod yX4_used ∈ hALL := hA_at 732 (by decide +kernel) rfl
theorem wdS_X4_used : Cond.selects RX4 yX4_used yX4_used ∈ hALL := hA_at 733 (by decide +kernel) rfl
theorem wdC_X4_used : Cond.code yX4_used cX4_used 4 (some .int) ∈ hALL := hA_at 734 (by decide +kernel) rfl
theorem wdL_X4_174 : Cond.methodLink RX4 174 yX4_usedLabel ∈ hALL := hA_at 735 (by decide +kernel) rfl
theorem wdI_X4_usedLabel : Cond.instanceMethod yX4_usedLabel ∈ hALL := hA_at 737 (by decide +kernel) rfl
theorem wdC_X4_usedLabel : Cond.code yX4_usedLabel cX4_usedLabel 4 (some .int) ∈ hALL := hA_at 738 (by decide +kernel) rfl
theorem wdL_L_72 : Cond.methodLink RL 72 yX4_meaning ∈ hALL := hA_at 739 (by decide +kernel) rfl
theorem wdI_X4_meaning : Cond.instanceMethod yX4_meaning ∈ hALL := hA_at 740 (by decide +kernel) rfl
theorem wdS_X4_meaning : Cond.selects RX4 yX4_meaning yX4_meaning ∈ hALL := hA_at 741 (by decide +kernel) rfl
theorem wdC_X4_meaning : Cond.code yX4_meaning cX4_meaning 4 (some .int) ∈ hALL := hA_at 742 (by decide +kernel) rfl
theorem wdL_X4_177 : Cond.methodLink RX4 177 yX4_meaningOf ∈ hALL := hA_at 743 (by decide +kernel) rfl
theorem wdI_X4_meaningOf : Cond.instanceMethod yX4_meaningOf ∈ hALL := hA_at 745 (by decide +kernel) rfl
theorem wdC_X4_meaningOf : Cond.code yX4_meaningOf cX4_meaningOf 7 (some .int) ∈ hALL := hA_at 746 (by decide +kernel) rfl
theorem wdL_L_77 : Cond.methodLink RL 77 yX4_settles ∈ hALL := hA_at 747 (by decide +kernel) rfl
theorem wdI_X4_settles : Cond.instanceMethod yX4_settles ∈ hALL := hA_at 748 (by decide +kernel) rfl
theorem wdS_X4_settles : Cond.selects RX4 yX4_settles yX4_settles ∈ hALL := hA_at 749 (by decide +kernel) rfl
theorem wdC_X4_settles : Cond.code yX4_settles cX4_settles 3 (some .int) ∈ hALL := hA_at 750 (by decide +kernel) rfl
theorem wdL_X4_180 : Cond.methodLink RX4 180 yX4_putsAside ∈ hALL := hA_at 751 (by decide +kernel) rfl
theorem wdI_X4_putsAside : Cond.instanceMethod yX4_putsAside ∈ hALL := hA_at 753 (by decide +kernel) rfl
theorem wdC_X4_putsAside : Cond.code yX4_putsAside cX4_putsAside 3 none ∈ hALL := hA_at 754 (by decide +kernel) rfl
theorem wdL_L_81 : Cond.methodLink RL 81 yX4_letter ∈ hALL := hA_at 755 (by decide +kernel) rfl
theorem wdI_X4_letter : Cond.instanceMethod yX4_letter ∈ hALL := hA_at 756 (by decide +kernel) rfl
theorem wdS_X4_letter : Cond.selects RX4 yX4_letter yX4_letter ∈ hALL := hA_at 757 (by decide +kernel) rfl
theorem wdC_X4_letter : Cond.code yX4_letter cX4_letter 5 (some .int) ∈ hALL := hA_at 758 (by decide +kernel) rfl
theorem wdL_X4_187 : Cond.methodLink RX4 187 yX4_goes ∈ hALL := hA_at 759 (by decide +kernel) rfl
theorem wdI_X4_goes : Cond.instanceMethod yX4_goes ∈ hALL := hA_at 761 (by decide +kernel) rfl
theorem wdC_X4_goes : Cond.code yX4_goes cX4_goes 9 (some .int) ∈ hALL := hA_at 762 (by decide +kernel) rfl
theorem wdL_L_85 : Cond.methodLink RL 85 yX4_trace ∈ hALL := hA_at 763 (by decide +kernel) rfl
theorem wdI_X4_trace : Cond.instanceMethod yX4_trace ∈ hALL := hA_at 764 (by decide +kernel) rfl
theorem wdS_X4_trace : Cond.selects RX4 yX4_trace yX4_trace ∈ hALL := hA_at 765 (by decide +kernel) rfl
theorem wdC_X4_trace : Cond.code yX4_trace cX4_trace 3 (some .int) ∈ hALL := hA_at 766 (by decide +kernel) rfl
theorem wdL_L_89 : Cond.methodLink RL 89 yX4_served ∈ hALL := hA_at 767 (by decide +kernel) rfl
theorem wdI_X4_served : Cond.instanceMethod yX4_served ∈ hALL := hA_at 768 (by decide +kernel) rfl
theorem wdS_X4_served : Cond.selects RX4 yX4_served yX4_served ∈ hALL := hA_at 769 (by decide +kernel) rfl
theorem wdC_X4_served : Cond.code yX4_served cX4_served 7 (some .int) ∈ hALL := hA_at 770 (by decide +kernel) rfl
theorem wdL_X4_193 : Cond.methodLink RX4 193 yX4_isCarried ∈ hALL := hA_at 771 (by decide +kernel) rfl
theorem wdI_X4_isCarried : Cond.instanceMethod yX4_isCarried ∈ hALL := hA_at 773 (by decide +kernel) rfl
theorem wdC_X4_isCarried : Cond.code yX4_isCarried cX4_isCarried 2 (some .boolean) ∈ hALL := hA_at 774 (by decide +kernel) rfl
theorem wdL_L_93 : Cond.methodLink RL 93 yX4_merged ∈ hALL := hA_at 775 (by decide +kernel) rfl
theorem wdI_X4_merged : Cond.instanceMethod yX4_merged ∈ hALL := hA_at 776 (by decide +kernel) rfl
theorem wdS_X4_merged : Cond.selects RX4 yX4_merged yX4_merged ∈ hALL := hA_at 777 (by decide +kernel) rfl
theorem wdC_X4_merged : Cond.code yX4_merged cX4_merged 5 (some .int) ∈ hALL := hA_at 778 (by decide +kernel) rfl
theorem wdL_L_97 : Cond.methodLink RL 97 yX4_many ∈ hALL := hA_at 779 (by decide +kernel) rfl
theorem wdI_X4_many : Cond.instanceMethod yX4_many ∈ hALL := hA_at 780 (by decide +kernel) rfl
theorem wdS_X4_many : Cond.selects RX4 yX4_many yX4_many ∈ hALL := hA_at 781 (by decide +kernel) rfl
theorem wdC_X4_many : Cond.code yX4_many cX4_many 4 (some .int) ∈ hALL := hA_at 782 (by decide +kernel) rfl
theorem wdL_X4_197 : Cond.methodLink RX4 197 yX4_manyIn ∈ hALL := hA_at 783 (by decide +kernel) rfl
theorem wdT_X4_manyIn : Cond.static yX4_manyIn ∈ hALL := hA_at 784 (by decide +kernel) rfl
theorem wdC_X4_manyIn : Cond.code yX4_manyIn cX4_manyIn 3 (some .int) ∈ hALL := hA_at 785 (by decide +kernel) rfl
theorem inX0 : ∀ w ∈ wsX00, w ∈ hALL := by
  intro w hw
  obtain ⟨k, hk, rfl⟩ := List.mem_map.mp hw
  have hk : k < 12 := List.mem_range.mp hk
  match k, hk with
  | 0, _ => exact wdY_X0_net
  | 1, _ => exact wdY_X0_ordered
  | 2, _ => exact wdY_X0_limit
  | 3, _ => exact wdY_X0_ticksSoFar
  | 4, _ => exact wdY_X0_slipsHanded
  | 5, _ => exact wdY_X0_slipsKept
  | 6, _ => exact wdY_X0_modes
  | 7, _ => exact wdY_X0_fresh
  | 8, _ => exact wdY_X0_counts
  | 9, _ => exact wdY_X0_rowLabels
  | 10, _ => exact wdY_X0_savedHanded
  | 11, _ => exact wdY_X0_savedKept
  | k + 12, h => exact absurd h (by omega)
theorem hinX0 {c0 : Cond} : ∀ w ∈ wsX00, w ∈ c0 :: hALL := fun w h => List.mem_cons_of_mem _ (inX0 w h)
theorem inX1 : ∀ w ∈ wsX10, w ∈ hALL := by
  intro w hw
  obtain ⟨k, hk, rfl⟩ := List.mem_map.mp hw
  have hk : k < 7 := List.mem_range.mp hk
  match k, hk with
  | 0, _ => exact wdY_X1_links
  | 1, _ => exact wdY_X1_owners
  | 2, _ => exact wdY_X1_costs
  | 3, _ => exact wdY_X1_ups
  | 4, _ => exact wdY_X1_ends
  | 5, _ => exact wdY_X1_fars
  | 6, _ => exact wdY_X1_nextSides
  | k + 7, h => exact absurd h (by omega)
theorem hinX1 {c0 : Cond} : ∀ w ∈ wsX10, w ∈ c0 :: hALL := fun w h => List.mem_cons_of_mem _ (inX1 w h)
theorem inX2 : ∀ w ∈ wsX20, w ∈ hALL := by
  intro w hw
  obtain ⟨k, hk, rfl⟩ := List.mem_map.mp hw
  have hk : k < 5 := List.mem_range.mp hk
  match k, hk with
  | 0, _ => exact wdY_X2_net
  | 1, _ => exact wdY_X2_labels
  | 2, _ => exact wdY_X2_length
  | 3, _ => exact wdY_X2_boxes
  | 4, _ => exact wdY_X2_cameWith
  | k + 5, h => exact absurd h (by omega)
theorem hinX2 {c0 : Cond} : ∀ w ∈ wsX20, w ∈ c0 :: hALL := fun w h => List.mem_cons_of_mem _ (inX2 w h)
theorem inX3 : ∀ w ∈ wsX30, w ∈ hALL := by
  intro w hw
  obtain ⟨k, hk, rfl⟩ := List.mem_map.mp hw
  have hk : k < 4 := List.mem_range.mp hk
  match k, hk with
  | 0, _ => exact wdY_X3_net
  | 1, _ => exact wdY_X3_labels
  | 2, _ => exact wdY_X3_told
  | 3, _ => exact wdY_X3_tried
  | k + 4, h => exact absurd h (by omega)
theorem hinX3 {c0 : Cond} : ∀ w ∈ wsX30, w ∈ c0 :: hALL := fun w h => List.mem_cons_of_mem _ (inX3 w h)
theorem inX4 : ∀ w ∈ wsX40, w ∈ hALL := by
  intro w hw
  obtain ⟨k, hk, rfl⟩ := List.mem_map.mp hw
  have hk : k < 27 := List.mem_range.mp hk
  match k, hk with
  | 0, _ => exact wdY_X4_links
  | 1, _ => exact wdY_X4_lesser
  | 2, _ => exact wdY_X4_greater
  | 3, _ => exact wdY_X4_costOf
  | 4, _ => exact wdY_X4_isUp
  | 5, _ => exact wdY_X4_endOf
  | 6, _ => exact wdY_X4_farOf
  | 7, _ => exact wdY_X4_mode
  | 8, _ => exact wdY_X4_setting
  | 9, _ => exact wdY_X4_label
  | 10, _ => exact wdY_X4_count
  | 11, _ => exact wdY_X4_keptLabel
  | 12, _ => exact wdY_X4_keptCount
  | 13, _ => exact wdY_X4_ticks
  | 14, _ => exact wdY_X4_labelAhead
  | 15, _ => exact wdY_X4_countAhead
  | 16, _ => exact wdY_X4_keptAhead
  | 17, _ => exact wdY_X4_keptCountAhead
  | 18, _ => exact wdY_X4_nextNow
  | 19, _ => exact wdY_X4_counts
  | 20, _ => exact wdY_X4_putAside
  | 21, _ => exact wdY_X4_boxAt
  | 22, _ => exact wdY_X4_labelAt
  | 23, _ => exact wdY_X4_boxes
  | 24, _ => exact wdY_X4_toldBox
  | 25, _ => exact wdY_X4_toldLabel
  | 26, _ => exact wdY_X4_told
  | k + 27, h => exact absurd h (by omega)
theorem hinX4 {c0 : Cond} : ∀ w ∈ wsX40, w ∈ c0 :: hALL := fun w h => List.mem_cons_of_mem _ (inX4 w h)
end
section
theorem dX0_init_0 : decode cX0_init 0 = .ok (.aload_n 0, 1) := by decide +kernel
theorem dX0_init_1 : decode cX0_init 1 = .ok (.invokespecial 3, 3) := by decide +kernel
theorem dX0_init_4 : decode cX0_init 4 = .ok (.aload_n 0, 1) := by decide +kernel
theorem dX0_init_5 : decode cX0_init 5 = .ok (.iconst 1, 1) := by decide +kernel
theorem dX0_init_6 : decode cX0_init 6 = .ok (.putfield 9, 3) := by decide +kernel
theorem dX0_init_9 : decode cX0_init 9 = .ok (.aload_n 0, 1) := by decide +kernel
theorem dX0_init_10 : decode cX0_init 10 = .ok (.bipush 7, 2) := by decide +kernel
theorem dX0_init_12 : decode cX0_init 12 = .ok (.putfield 15, 3) := by decide +kernel
theorem dX0_init_15 : decode cX0_init 15 = .ok (.aload_n 0, 1) := by decide +kernel
theorem dX0_init_16 : decode cX0_init 16 = .ok (.bipush 96, 2) := by decide +kernel
theorem dX0_init_18 : decode cX0_init 18 = .ok (.newarray .int, 2) := by decide +kernel
theorem dX0_init_20 : decode cX0_init 20 = .ok (.putfield 18, 3) := by decide +kernel
theorem dX0_init_23 : decode cX0_init 23 = .ok (.aload_n 0, 1) := by decide +kernel
theorem dX0_init_24 : decode cX0_init 24 = .ok (.bipush 96, 2) := by decide +kernel
theorem dX0_init_26 : decode cX0_init 26 = .ok (.newarray .int, 2) := by decide +kernel
theorem dX0_init_28 : decode cX0_init 28 = .ok (.putfield 22, 3) := by decide +kernel
theorem dX0_init_31 : decode cX0_init 31 = .ok (.aload_n 0, 1) := by decide +kernel
theorem dX0_init_32 : decode cX0_init 32 = .ok (.bipush 28, 2) := by decide +kernel
theorem dX0_init_34 : decode cX0_init 34 = .ok (.newarray .int, 2) := by decide +kernel
theorem dX0_init_36 : decode cX0_init 36 = .ok (.putfield 25, 3) := by decide +kernel
theorem dX0_init_39 : decode cX0_init 39 = .ok (.aload_n 0, 1) := by decide +kernel
theorem dX0_init_40 : decode cX0_init 40 = .ok (.bipush 96, 2) := by decide +kernel
theorem dX0_init_42 : decode cX0_init 42 = .ok (.newarray .int, 2) := by decide +kernel
theorem dX0_init_44 : decode cX0_init 44 = .ok (.putfield 28, 3) := by decide +kernel
theorem dX0_init_47 : decode cX0_init 47 = .ok (.aload_n 0, 1) := by decide +kernel
theorem dX0_init_48 : decode cX0_init 48 = .ok (.iconst 4, 1) := by decide +kernel
theorem dX0_init_49 : decode cX0_init 49 = .ok (.newarray .int, 2) := by decide +kernel
theorem dX0_init_51 : decode cX0_init 51 = .ok (.putfield 31, 3) := by decide +kernel
theorem dX0_init_54 : decode cX0_init 54 = .ok (.aload_n 0, 1) := by decide +kernel
theorem dX0_init_55 : decode cX0_init 55 = .ok (.iconst 4, 1) := by decide +kernel
theorem dX0_init_56 : decode cX0_init 56 = .ok (.newarray .int, 2) := by decide +kernel
theorem dX0_init_58 : decode cX0_init 58 = .ok (.putfield 34, 3) := by decide +kernel
theorem dX0_init_61 : decode cX0_init 61 = .ok (.aload_n 0, 1) := by decide +kernel
theorem dX0_init_62 : decode cX0_init 62 = .ok (.bipush 96, 2) := by decide +kernel
theorem dX0_init_64 : decode cX0_init 64 = .ok (.newarray .int, 2) := by decide +kernel
theorem dX0_init_66 : decode cX0_init 66 = .ok (.putfield 37, 3) := by decide +kernel
theorem dX0_init_69 : decode cX0_init 69 = .ok (.aload_n 0, 1) := by decide +kernel
theorem dX0_init_70 : decode cX0_init 70 = .ok (.bipush 96, 2) := by decide +kernel
theorem dX0_init_72 : decode cX0_init 72 = .ok (.newarray .int, 2) := by decide +kernel
theorem dX0_init_74 : decode cX0_init 74 = .ok (.putfield 40, 3) := by decide +kernel
theorem dX0_init_77 : decode cX0_init 77 = .ok (.aload_n 0, 1) := by decide +kernel
theorem dX0_init_78 : decode cX0_init 78 = .ok (.aload_n 1, 1) := by decide +kernel
theorem dX0_init_79 : decode cX0_init 79 = .ok (.putfield 43, 3) := by decide +kernel
theorem dX0_init_82 : decode cX0_init 82 = .ok (.return_, 1) := by decide +kernel
theorem dX0_has_0 : decode cX0_has 0 = .ok (.aload_n 0, 1) := by decide +kernel
theorem dX0_has_1 : decode cX0_has 1 = .ok (.getfield 25, 3) := by decide +kernel
theorem dX0_has_4 : decode cX0_has 4 = .ok (.iload_n 1, 1) := by decide +kernel
theorem dX0_has_5 : decode cX0_has 5 = .ok (.iconst 4, 1) := by decide +kernel
theorem dX0_has_6 : decode cX0_has 6 = .ok (.imul, 1) := by decide +kernel
theorem dX0_has_7 : decode cX0_has 7 = .ok (.iload_n 2, 1) := by decide +kernel
theorem dX0_has_8 : decode cX0_has 8 = .ok (.iadd, 1) := by decide +kernel
theorem dX0_has_9 : decode cX0_has 9 = .ok (.iaload, 1) := by decide +kernel
theorem dX0_has_10 : decode cX0_has 10 = .ok (.iconst 1, 1) := by decide +kernel
theorem dX0_has_11 : decode cX0_has 11 = .ok (.if_icmp .ne 7, 3) := by decide +kernel
theorem dX0_has_14 : decode cX0_has 14 = .ok (.iconst 1, 1) := by decide +kernel
theorem dX0_has_15 : decode cX0_has 15 = .ok (.goto 4, 3) := by decide +kernel
theorem dX0_has_18 : decode cX0_has 18 = .ok (.iconst 0, 1) := by decide +kernel
theorem dX0_has_19 : decode cX0_has 19 = .ok (.ireturn, 1) := by decide +kernel
theorem dX0_changeMode_0 : decode cX0_changeMode 0 = .ok (.aload_n 0, 1) := by decide +kernel
theorem dX0_changeMode_1 : decode cX0_changeMode 1 = .ok (.getfield 25, 3) := by decide +kernel
theorem dX0_changeMode_4 : decode cX0_changeMode 4 = .ok (.iload_n 1, 1) := by decide +kernel
theorem dX0_changeMode_5 : decode cX0_changeMode 5 = .ok (.iconst 4, 1) := by decide +kernel
theorem dX0_changeMode_6 : decode cX0_changeMode 6 = .ok (.imul, 1) := by decide +kernel
theorem dX0_changeMode_7 : decode cX0_changeMode 7 = .ok (.iload_n 2, 1) := by decide +kernel
theorem dX0_changeMode_8 : decode cX0_changeMode 8 = .ok (.iadd, 1) := by decide +kernel
theorem dX0_changeMode_9 : decode cX0_changeMode 9 = .ok (.iaload, 1) := by decide +kernel
theorem dX0_changeMode_10 : decode cX0_changeMode 10 = .ok (.istore 4, 2) := by decide +kernel
theorem dX0_changeMode_12 : decode cX0_changeMode 12 = .ok (.aload_n 0, 1) := by decide +kernel
theorem dX0_changeMode_13 : decode cX0_changeMode 13 = .ok (.getfield 25, 3) := by decide +kernel
theorem dX0_changeMode_16 : decode cX0_changeMode 16 = .ok (.iload_n 1, 1) := by decide +kernel
theorem dX0_changeMode_17 : decode cX0_changeMode 17 = .ok (.iconst 4, 1) := by decide +kernel
theorem dX0_changeMode_18 : decode cX0_changeMode 18 = .ok (.imul, 1) := by decide +kernel
theorem dX0_changeMode_19 : decode cX0_changeMode 19 = .ok (.iload_n 2, 1) := by decide +kernel
theorem dX0_changeMode_20 : decode cX0_changeMode 20 = .ok (.iadd, 1) := by decide +kernel
theorem dX0_changeMode_21 : decode cX0_changeMode 21 = .ok (.iload_n 3, 1) := by decide +kernel
theorem dX0_changeMode_22 : decode cX0_changeMode 22 = .ok (.iastore, 1) := by decide +kernel
theorem dX0_changeMode_23 : decode cX0_changeMode 23 = .ok (.iload_n 2, 1) := by decide +kernel
theorem dX0_changeMode_24 : decode cX0_changeMode 24 = .ok (.iconst 2, 1) := by decide +kernel
theorem dX0_changeMode_25 : decode cX0_changeMode 25 = .ok (.if_icmp .ne 14, 3) := by decide +kernel
theorem dX0_changeMode_28 : decode cX0_changeMode 28 = .ok (.iload_n 3, 1) := by decide +kernel
theorem dX0_changeMode_29 : decode cX0_changeMode 29 = .ok (.iload 4, 2) := by decide +kernel
theorem dX0_changeMode_31 : decode cX0_changeMode 31 = .ok (.if_icmp .eq 8, 3) := by decide +kernel
theorem dX0_changeMode_34 : decode cX0_changeMode 34 = .ok (.aload_n 0, 1) := by decide +kernel
theorem dX0_changeMode_35 : decode cX0_changeMode 35 = .ok (.iload_n 1, 1) := by decide +kernel
theorem dX0_changeMode_36 : decode cX0_changeMode 36 = .ok (.invokevirtual 47, 3) := by decide +kernel
theorem dX0_changeMode_39 : decode cX0_changeMode 39 = .ok (.iload 4, 2) := by decide +kernel
theorem dX0_changeMode_41 : decode cX0_changeMode 41 = .ok (.ireturn, 1) := by decide +kernel
theorem dX0_handNothing_0 : decode cX0_handNothing 0 = .ok (.iconst 0, 1) := by decide +kernel
theorem dX0_handNothing_1 : decode cX0_handNothing 1 = .ok (.istore_n 2, 1) := by decide +kernel
theorem dX0_handNothing_2 : decode cX0_handNothing 2 = .ok (.iload_n 2, 1) := by decide +kernel
theorem dX0_handNothing_3 : decode cX0_handNothing 3 = .ok (.iconst 2, 1) := by decide +kernel
theorem dX0_handNothing_4 : decode cX0_handNothing 4 = .ok (.aload_n 0, 1) := by decide +kernel
theorem dX0_handNothing_5 : decode cX0_handNothing 5 = .ok (.getfield 43, 3) := by decide +kernel
theorem dX0_handNothing_8 : decode cX0_handNothing 8 = .ok (.getfield 51, 3) := by decide +kernel
theorem dX0_handNothing_11 : decode cX0_handNothing 11 = .ok (.imul, 1) := by decide +kernel
theorem dX0_handNothing_12 : decode cX0_handNothing 12 = .ok (.iconst 0, 1) := by decide +kernel
theorem dX0_handNothing_13 : decode cX0_handNothing 13 = .ok (.invokestatic 56, 3) := by decide +kernel
theorem dX0_handNothing_16 : decode cX0_handNothing 16 = .ok (.if_icmp .ge 31, 3) := by decide +kernel
theorem dX0_handNothing_19 : decode cX0_handNothing 19 = .ok (.aload_n 0, 1) := by decide +kernel
theorem dX0_handNothing_20 : decode cX0_handNothing 20 = .ok (.getfield 43, 3) := by decide +kernel
theorem dX0_handNothing_23 : decode cX0_handNothing 23 = .ok (.getfield 60, 3) := by decide +kernel
theorem dX0_handNothing_26 : decode cX0_handNothing 26 = .ok (.iload_n 2, 1) := by decide +kernel
theorem dX0_handNothing_27 : decode cX0_handNothing 27 = .ok (.iconst 4, 1) := by decide +kernel
theorem dX0_handNothing_28 : decode cX0_handNothing 28 = .ok (.idiv, 1) := by decide +kernel
theorem dX0_handNothing_29 : decode cX0_handNothing 29 = .ok (.iaload, 1) := by decide +kernel
theorem dX0_handNothing_30 : decode cX0_handNothing 30 = .ok (.iload_n 1, 1) := by decide +kernel
theorem dX0_handNothing_31 : decode cX0_handNothing 31 = .ok (.if_icmp .ne 10, 3) := by decide +kernel
theorem dX0_handNothing_34 : decode cX0_handNothing 34 = .ok (.aload_n 0, 1) := by decide +kernel
theorem dX0_handNothing_35 : decode cX0_handNothing 35 = .ok (.getfield 18, 3) := by decide +kernel
theorem dX0_handNothing_38 : decode cX0_handNothing 38 = .ok (.iload_n 2, 1) := by decide +kernel
theorem dX0_handNothing_39 : decode cX0_handNothing 39 = .ok (.iconst 0, 1) := by decide +kernel
theorem dX0_handNothing_40 : decode cX0_handNothing 40 = .ok (.iastore, 1) := by decide +kernel
theorem dX0_handNothing_41 : decode cX0_handNothing 41 = .ok (.iinc 2 1, 3) := by decide +kernel
theorem dX0_handNothing_44 : decode cX0_handNothing 44 = .ok (.goto (-42), 3) := by decide +kernel
theorem dX0_handNothing_47 : decode cX0_handNothing 47 = .ok (.return_, 1) := by decide +kernel
theorem dX0_forgetLink_0 : decode cX0_forgetLink 0 = .ok (.iconst 2, 1) := by decide +kernel
theorem dX0_forgetLink_1 : decode cX0_forgetLink 1 = .ok (.iload_n 1, 1) := by decide +kernel
theorem dX0_forgetLink_2 : decode cX0_forgetLink 2 = .ok (.imul, 1) := by decide +kernel
theorem dX0_forgetLink_3 : decode cX0_forgetLink 3 = .ok (.iconst 0, 1) := by decide +kernel
theorem dX0_forgetLink_4 : decode cX0_forgetLink 4 = .ok (.invokestatic 56, 3) := by decide +kernel
theorem dX0_forgetLink_7 : decode cX0_forgetLink 7 = .ok (.istore_n 2, 1) := by decide +kernel
theorem dX0_forgetLink_8 : decode cX0_forgetLink 8 = .ok (.iload_n 2, 1) := by decide +kernel
theorem dX0_forgetLink_9 : decode cX0_forgetLink 9 = .ok (.iconst 2, 1) := by decide +kernel
theorem dX0_forgetLink_10 : decode cX0_forgetLink 10 = .ok (.iload_n 1, 1) := by decide +kernel
theorem dX0_forgetLink_11 : decode cX0_forgetLink 11 = .ok (.imul, 1) := by decide +kernel
theorem dX0_forgetLink_12 : decode cX0_forgetLink 12 = .ok (.iconst 2, 1) := by decide +kernel
theorem dX0_forgetLink_13 : decode cX0_forgetLink 13 = .ok (.iadd, 1) := by decide +kernel
theorem dX0_forgetLink_14 : decode cX0_forgetLink 14 = .ok (.iconst 0, 1) := by decide +kernel
theorem dX0_forgetLink_15 : decode cX0_forgetLink 15 = .ok (.invokestatic 56, 3) := by decide +kernel
theorem dX0_forgetLink_18 : decode cX0_forgetLink 18 = .ok (.if_icmp .ge 23, 3) := by decide +kernel
theorem dX0_forgetLink_21 : decode cX0_forgetLink 21 = .ok (.aload_n 0, 1) := by decide +kernel
theorem dX0_forgetLink_22 : decode cX0_forgetLink 22 = .ok (.getfield 18, 3) := by decide +kernel
theorem dX0_forgetLink_25 : decode cX0_forgetLink 25 = .ok (.iload_n 2, 1) := by decide +kernel
theorem dX0_forgetLink_26 : decode cX0_forgetLink 26 = .ok (.iconst 0, 1) := by decide +kernel
theorem dX0_forgetLink_27 : decode cX0_forgetLink 27 = .ok (.iastore, 1) := by decide +kernel
theorem dX0_forgetLink_28 : decode cX0_forgetLink 28 = .ok (.aload_n 0, 1) := by decide +kernel
theorem dX0_forgetLink_29 : decode cX0_forgetLink 29 = .ok (.getfield 22, 3) := by decide +kernel
theorem dX0_forgetLink_32 : decode cX0_forgetLink 32 = .ok (.iload_n 2, 1) := by decide +kernel
theorem dX0_forgetLink_33 : decode cX0_forgetLink 33 = .ok (.iconst 0, 1) := by decide +kernel
theorem dX0_forgetLink_34 : decode cX0_forgetLink 34 = .ok (.iastore, 1) := by decide +kernel
theorem dX0_forgetLink_35 : decode cX0_forgetLink 35 = .ok (.iinc 2 1, 3) := by decide +kernel
theorem dX0_forgetLink_38 : decode cX0_forgetLink 38 = .ok (.goto (-30), 3) := by decide +kernel
theorem dX0_forgetLink_41 : decode cX0_forgetLink 41 = .ok (.return_, 1) := by decide +kernel
theorem dX0_slipUsed_0 : decode cX0_slipUsed 0 = .ok (.aload_n 0, 1) := by decide +kernel
theorem dX0_slipUsed_1 : decode cX0_slipUsed 1 = .ok (.getfield 43, 3) := by decide +kernel
theorem dX0_slipUsed_4 : decode cX0_slipUsed 4 = .ok (.getfield 63, 3) := by decide +kernel
theorem dX0_slipUsed_7 : decode cX0_slipUsed 7 = .ok (.iload_n 1, 1) := by decide +kernel
theorem dX0_slipUsed_8 : decode cX0_slipUsed 8 = .ok (.iload_n 2, 1) := by decide +kernel
theorem dX0_slipUsed_9 : decode cX0_slipUsed 9 = .ok (.invokestatic 66, 3) := by decide +kernel
theorem dX0_slipUsed_12 : decode cX0_slipUsed 12 = .ok (.iaload, 1) := by decide +kernel
theorem dX0_slipUsed_13 : decode cX0_slipUsed 13 = .ok (.istore_n 3, 1) := by decide +kernel
theorem dX0_slipUsed_14 : decode cX0_slipUsed 14 = .ok (.iload_n 3, 1) := by decide +kernel
theorem dX0_slipUsed_15 : decode cX0_slipUsed 15 = .ok (.iconst (-1), 1) := by decide +kernel
theorem dX0_slipUsed_16 : decode cX0_slipUsed 16 = .ok (.if_icmp .ne 7, 3) := by decide +kernel
theorem dX0_slipUsed_19 : decode cX0_slipUsed 19 = .ok (.iconst 0, 1) := by decide +kernel
theorem dX0_slipUsed_20 : decode cX0_slipUsed 20 = .ok (.goto 13, 3) := by decide +kernel
theorem dX0_slipUsed_23 : decode cX0_slipUsed 23 = .ok (.aload_n 0, 1) := by decide +kernel
theorem dX0_slipUsed_24 : decode cX0_slipUsed 24 = .ok (.getfield 22, 3) := by decide +kernel
theorem dX0_slipUsed_27 : decode cX0_slipUsed 27 = .ok (.iload_n 3, 1) := by decide +kernel
theorem dX0_slipUsed_28 : decode cX0_slipUsed 28 = .ok (.iload_n 2, 1) := by decide +kernel
theorem dX0_slipUsed_29 : decode cX0_slipUsed 29 = .ok (.invokestatic 56, 3) := by decide +kernel
theorem dX0_slipUsed_32 : decode cX0_slipUsed 32 = .ok (.iaload, 1) := by decide +kernel
theorem dX0_slipUsed_33 : decode cX0_slipUsed 33 = .ok (.ireturn, 1) := by decide +kernel
theorem dX0_classMeant_0 : decode cX0_classMeant 0 = .ok (.aload_n 0, 1) := by decide +kernel
theorem dX0_classMeant_1 : decode cX0_classMeant 1 = .ok (.iload_n 1, 1) := by decide +kernel
theorem dX0_classMeant_2 : decode cX0_classMeant 2 = .ok (.iconst 2, 1) := by decide +kernel
theorem dX0_classMeant_3 : decode cX0_classMeant 3 = .ok (.invokevirtual 69, 3) := by decide +kernel
theorem dX0_classMeant_6 : decode cX0_classMeant 6 = .ok (.ifCond .eq 7, 3) := by decide +kernel
theorem dX0_classMeant_9 : decode cX0_classMeant 9 = .ok (.iload_n 2, 1) := by decide +kernel
theorem dX0_classMeant_10 : decode cX0_classMeant 10 = .ok (.goto 4, 3) := by decide +kernel
theorem dX0_classMeant_13 : decode cX0_classMeant 13 = .ok (.iconst 0, 1) := by decide +kernel
theorem dX0_classMeant_14 : decode cX0_classMeant 14 = .ok (.istore 4, 2) := by decide +kernel
theorem dX0_classMeant_16 : decode cX0_classMeant 16 = .ok (.aload_n 0, 1) := by decide +kernel
theorem dX0_classMeant_17 : decode cX0_classMeant 17 = .ok (.iload_n 1, 1) := by decide +kernel
theorem dX0_classMeant_18 : decode cX0_classMeant 18 = .ok (.iconst 2, 1) := by decide +kernel
theorem dX0_classMeant_19 : decode cX0_classMeant 19 = .ok (.invokevirtual 69, 3) := by decide +kernel
theorem dX0_classMeant_22 : decode cX0_classMeant 22 = .ok (.ifCond .eq 9, 3) := by decide +kernel
theorem dX0_classMeant_25 : decode cX0_classMeant 25 = .ok (.iload_n 2, 1) := by decide +kernel
theorem dX0_classMeant_26 : decode cX0_classMeant 26 = .ok (.iconst 1, 1) := by decide +kernel
theorem dX0_classMeant_27 : decode cX0_classMeant 27 = .ok (.iadd, 1) := by decide +kernel
theorem dX0_classMeant_28 : decode cX0_classMeant 28 = .ok (.goto 12, 3) := by decide +kernel
theorem dX0_classMeant_31 : decode cX0_classMeant 31 = .ok (.iconst 2, 1) := by decide +kernel
theorem dX0_classMeant_32 : decode cX0_classMeant 32 = .ok (.aload_n 0, 1) := by decide +kernel
theorem dX0_classMeant_33 : decode cX0_classMeant 33 = .ok (.getfield 43, 3) := by decide +kernel
theorem dX0_classMeant_36 : decode cX0_classMeant 36 = .ok (.getfield 51, 3) := by decide +kernel
theorem dX0_classMeant_39 : decode cX0_classMeant 39 = .ok (.imul, 1) := by decide +kernel
theorem dX0_classMeant_40 : decode cX0_classMeant 40 = .ok (.istore 5, 2) := by decide +kernel
theorem dX0_classMeant_42 : decode cX0_classMeant 42 = .ok (.iconst 0, 1) := by decide +kernel
theorem dX0_classMeant_43 : decode cX0_classMeant 43 = .ok (.istore 6, 2) := by decide +kernel
theorem dX0_classMeant_45 : decode cX0_classMeant 45 = .ok (.iload 6, 2) := by decide +kernel
theorem dX0_classMeant_47 : decode cX0_classMeant 47 = .ok (.iconst 4, 1) := by decide +kernel
theorem dX0_classMeant_48 : decode cX0_classMeant 48 = .ok (.if_icmp .ge 71, 3) := by decide +kernel
theorem dX0_classMeant_51 : decode cX0_classMeant 51 = .ok (.iload 4, 2) := by decide +kernel
theorem dX0_classMeant_53 : decode cX0_classMeant 53 = .ok (.istore 7, 2) := by decide +kernel
theorem dX0_classMeant_55 : decode cX0_classMeant 55 = .ok (.iload 7, 2) := by decide +kernel
theorem dX0_classMeant_57 : decode cX0_classMeant 57 = .ok (.iload 5, 2) := by decide +kernel
theorem dX0_classMeant_59 : decode cX0_classMeant 59 = .ok (.if_icmp .ge 54, 3) := by decide +kernel
theorem dX0_classMeant_62 : decode cX0_classMeant 62 = .ok (.aload_n 0, 1) := by decide +kernel
theorem dX0_classMeant_63 : decode cX0_classMeant 63 = .ok (.getfield 18, 3) := by decide +kernel
theorem dX0_classMeant_66 : decode cX0_classMeant 66 = .ok (.iload 7, 2) := by decide +kernel
theorem dX0_classMeant_68 : decode cX0_classMeant 68 = .ok (.iload 6, 2) := by decide +kernel
theorem dX0_classMeant_70 : decode cX0_classMeant 70 = .ok (.invokestatic 56, 3) := by decide +kernel
theorem dX0_classMeant_73 : decode cX0_classMeant 73 = .ok (.iaload, 1) := by decide +kernel
theorem dX0_classMeant_74 : decode cX0_classMeant 74 = .ok (.istore 8, 2) := by decide +kernel
theorem dX0_classMeant_76 : decode cX0_classMeant 76 = .ok (.aload_n 0, 1) := by decide +kernel
theorem dX0_classMeant_77 : decode cX0_classMeant 77 = .ok (.getfield 43, 3) := by decide +kernel
theorem dX0_classMeant_80 : decode cX0_classMeant 80 = .ok (.getfield 60, 3) := by decide +kernel
theorem dX0_classMeant_83 : decode cX0_classMeant 83 = .ok (.iload 7, 2) := by decide +kernel
theorem dX0_classMeant_85 : decode cX0_classMeant 85 = .ok (.iaload, 1) := by decide +kernel
theorem dX0_classMeant_86 : decode cX0_classMeant 86 = .ok (.iload_n 1, 1) := by decide +kernel
theorem dX0_classMeant_87 : decode cX0_classMeant 87 = .ok (.if_icmp .ne 20, 3) := by decide +kernel
theorem dX0_classMeant_90 : decode cX0_classMeant 90 = .ok (.iload 8, 2) := by decide +kernel
theorem dX0_classMeant_92 : decode cX0_classMeant 92 = .ok (.ifCond .eq 15, 3) := by decide +kernel
theorem dX0_classMeant_95 : decode cX0_classMeant 95 = .ok (.iload 8, 2) := by decide +kernel
theorem dX0_classMeant_97 : decode cX0_classMeant 97 = .ok (.invokestatic 73, 3) := by decide +kernel
theorem dX0_classMeant_100 : decode cX0_classMeant 100 = .ok (.iload_n 3, 1) := by decide +kernel
theorem dX0_classMeant_101 : decode cX0_classMeant 101 = .ok (.if_icmp .ne 6, 3) := by decide +kernel
theorem dX0_classMeant_104 : decode cX0_classMeant 104 = .ok (.iload 6, 2) := by decide +kernel
theorem dX0_classMeant_106 : decode cX0_classMeant 106 = .ok (.ireturn, 1) := by decide +kernel
theorem dX0_classMeant_107 : decode cX0_classMeant 107 = .ok (.iinc 7 1, 3) := by decide +kernel
theorem dX0_classMeant_110 : decode cX0_classMeant 110 = .ok (.goto (-55), 3) := by decide +kernel
theorem dX0_classMeant_113 : decode cX0_classMeant 113 = .ok (.iinc 6 1, 3) := by decide +kernel
theorem dX0_classMeant_116 : decode cX0_classMeant 116 = .ok (.goto (-71), 3) := by decide +kernel
theorem dX0_classMeant_119 : decode cX0_classMeant 119 = .ok (.iconst (-1), 1) := by decide +kernel
theorem dX0_classMeant_120 : decode cX0_classMeant 120 = .ok (.ireturn, 1) := by decide +kernel
theorem dX0_greatestLabel_0 : decode cX0_greatestLabel 0 = .ok (.iconst 0, 1) := by decide +kernel
theorem dX0_greatestLabel_1 : decode cX0_greatestLabel 1 = .ok (.istore_n 1, 1) := by decide +kernel
theorem dX0_greatestLabel_2 : decode cX0_greatestLabel 2 = .ok (.iconst 0, 1) := by decide +kernel
theorem dX0_greatestLabel_3 : decode cX0_greatestLabel 3 = .ok (.istore_n 2, 1) := by decide +kernel
theorem dX0_greatestLabel_4 : decode cX0_greatestLabel 4 = .ok (.iload_n 2, 1) := by decide +kernel
theorem dX0_greatestLabel_5 : decode cX0_greatestLabel 5 = .ok (.aload_n 0, 1) := by decide +kernel
theorem dX0_greatestLabel_6 : decode cX0_greatestLabel 6 = .ok (.getfield 18, 3) := by decide +kernel
theorem dX0_greatestLabel_9 : decode cX0_greatestLabel 9 = .ok (.arraylength, 1) := by decide +kernel
theorem dX0_greatestLabel_10 : decode cX0_greatestLabel 10 = .ok (.if_icmp .ge 23, 3) := by decide +kernel
theorem dX0_greatestLabel_13 : decode cX0_greatestLabel 13 = .ok (.iload_n 1, 1) := by decide +kernel
theorem dX0_greatestLabel_14 : decode cX0_greatestLabel 14 = .ok (.aload_n 0, 1) := by decide +kernel
theorem dX0_greatestLabel_15 : decode cX0_greatestLabel 15 = .ok (.getfield 18, 3) := by decide +kernel
theorem dX0_greatestLabel_18 : decode cX0_greatestLabel 18 = .ok (.iload_n 2, 1) := by decide +kernel
theorem dX0_greatestLabel_19 : decode cX0_greatestLabel 19 = .ok (.iaload, 1) := by decide +kernel
theorem dX0_greatestLabel_20 : decode cX0_greatestLabel 20 = .ok (.invokestatic 73, 3) := by decide +kernel
theorem dX0_greatestLabel_23 : decode cX0_greatestLabel 23 = .ok (.invokestatic 77, 3) := by decide +kernel
theorem dX0_greatestLabel_26 : decode cX0_greatestLabel 26 = .ok (.istore_n 1, 1) := by decide +kernel
theorem dX0_greatestLabel_27 : decode cX0_greatestLabel 27 = .ok (.iinc 2 1, 3) := by decide +kernel
theorem dX0_greatestLabel_30 : decode cX0_greatestLabel 30 = .ok (.goto (-26), 3) := by decide +kernel
theorem dX0_greatestLabel_33 : decode cX0_greatestLabel 33 = .ok (.iload_n 1, 1) := by decide +kernel
theorem dX0_greatestLabel_34 : decode cX0_greatestLabel 34 = .ok (.ireturn, 1) := by decide +kernel
theorem dX0_runTicks_0 : decode cX0_runTicks 0 = .ok (.iconst 0, 1) := by decide +kernel
theorem dX0_runTicks_1 : decode cX0_runTicks 1 = .ok (.istore_n 2, 1) := by decide +kernel
theorem dX0_runTicks_2 : decode cX0_runTicks 2 = .ok (.iconst 0, 1) := by decide +kernel
theorem dX0_runTicks_3 : decode cX0_runTicks 3 = .ok (.istore_n 3, 1) := by decide +kernel
theorem dX0_runTicks_4 : decode cX0_runTicks 4 = .ok (.iload_n 3, 1) := by decide +kernel
theorem dX0_runTicks_5 : decode cX0_runTicks 5 = .ok (.iload_n 1, 1) := by decide +kernel
theorem dX0_runTicks_6 : decode cX0_runTicks 6 = .ok (.if_icmp .ge 21, 3) := by decide +kernel
theorem dX0_runTicks_9 : decode cX0_runTicks 9 = .ok (.aload_n 0, 1) := by decide +kernel
theorem dX0_runTicks_10 : decode cX0_runTicks 10 = .ok (.invokevirtual 82, 3) := by decide +kernel
theorem dX0_runTicks_13 : decode cX0_runTicks 13 = .ok (.iconst 1, 1) := by decide +kernel
theorem dX0_runTicks_14 : decode cX0_runTicks 14 = .ok (.iand, 1) := by decide +kernel
theorem dX0_runTicks_15 : decode cX0_runTicks 15 = .ok (.ifCond .eq 6, 3) := by decide +kernel
theorem dX0_runTicks_18 : decode cX0_runTicks 18 = .ok (.iinc 2 1, 3) := by decide +kernel
theorem dX0_runTicks_21 : decode cX0_runTicks 21 = .ok (.iinc 3 1, 3) := by decide +kernel
theorem dX0_runTicks_24 : decode cX0_runTicks 24 = .ok (.goto (-20), 3) := by decide +kernel
theorem dX0_runTicks_27 : decode cX0_runTicks 27 = .ok (.aload_n 0, 1) := by decide +kernel
theorem dX0_runTicks_28 : decode cX0_runTicks 28 = .ok (.dup, 1) := by decide +kernel
theorem dX0_runTicks_29 : decode cX0_runTicks 29 = .ok (.getfield 86, 3) := by decide +kernel
theorem dX0_runTicks_32 : decode cX0_runTicks 32 = .ok (.iload_n 1, 1) := by decide +kernel
theorem dX0_runTicks_33 : decode cX0_runTicks 33 = .ok (.iadd, 1) := by decide +kernel
theorem dX0_runTicks_34 : decode cX0_runTicks 34 = .ok (.putfield 86, 3) := by decide +kernel
theorem dX0_runTicks_37 : decode cX0_runTicks 37 = .ok (.iload_n 2, 1) := by decide +kernel
theorem dX0_runTicks_38 : decode cX0_runTicks 38 = .ok (.ireturn, 1) := by decide +kernel
theorem dX0_ticksTillStill_0 : decode cX0_ticksTillStill 0 = .ok (.aload_n 0, 1) := by decide +kernel
theorem dX0_ticksTillStill_1 : decode cX0_ticksTillStill 1 = .ok (.getfield 18, 3) := by decide +kernel
theorem dX0_ticksTillStill_4 : decode cX0_ticksTillStill 4 = .ok (.iconst 0, 1) := by decide +kernel
theorem dX0_ticksTillStill_5 : decode cX0_ticksTillStill 5 = .ok (.aload_n 0, 1) := by decide +kernel
theorem dX0_ticksTillStill_6 : decode cX0_ticksTillStill 6 = .ok (.getfield 37, 3) := by decide +kernel
theorem dX0_ticksTillStill_9 : decode cX0_ticksTillStill 9 = .ok (.iconst 0, 1) := by decide +kernel
theorem dX0_ticksTillStill_10 : decode cX0_ticksTillStill 10 = .ok (.aload_n 0, 1) := by decide +kernel
theorem dX0_ticksTillStill_11 : decode cX0_ticksTillStill 11 = .ok (.getfield 37, 3) := by decide +kernel
theorem dX0_ticksTillStill_14 : decode cX0_ticksTillStill 14 = .ok (.arraylength, 1) := by decide +kernel
theorem dX0_ticksTillStill_15 : decode cX0_ticksTillStill 15 = .ok (.invokestatic 89, 3) := by decide +kernel
theorem dX0_ticksTillStill_18 : decode cX0_ticksTillStill 18 = .ok (.aload_n 0, 1) := by decide +kernel
theorem dX0_ticksTillStill_19 : decode cX0_ticksTillStill 19 = .ok (.getfield 22, 3) := by decide +kernel
theorem dX0_ticksTillStill_22 : decode cX0_ticksTillStill 22 = .ok (.iconst 0, 1) := by decide +kernel
theorem dX0_ticksTillStill_23 : decode cX0_ticksTillStill 23 = .ok (.aload_n 0, 1) := by decide +kernel
theorem dX0_ticksTillStill_24 : decode cX0_ticksTillStill 24 = .ok (.getfield 40, 3) := by decide +kernel
theorem dX0_ticksTillStill_27 : decode cX0_ticksTillStill 27 = .ok (.iconst 0, 1) := by decide +kernel
theorem dX0_ticksTillStill_28 : decode cX0_ticksTillStill 28 = .ok (.aload_n 0, 1) := by decide +kernel
theorem dX0_ticksTillStill_29 : decode cX0_ticksTillStill 29 = .ok (.getfield 40, 3) := by decide +kernel
theorem dX0_ticksTillStill_32 : decode cX0_ticksTillStill 32 = .ok (.arraylength, 1) := by decide +kernel
theorem dX0_ticksTillStill_33 : decode cX0_ticksTillStill 33 = .ok (.invokestatic 89, 3) := by decide +kernel
theorem dX0_ticksTillStill_36 : decode cX0_ticksTillStill 36 = .ok (.bipush (-9), 2) := by decide +kernel
theorem dX0_ticksTillStill_38 : decode cX0_ticksTillStill 38 = .ok (.istore_n 1, 1) := by decide +kernel
theorem dX0_ticksTillStill_39 : decode cX0_ticksTillStill 39 = .ok (.iconst 0, 1) := by decide +kernel
theorem dX0_ticksTillStill_40 : decode cX0_ticksTillStill 40 = .ok (.istore_n 2, 1) := by decide +kernel
theorem dX0_ticksTillStill_41 : decode cX0_ticksTillStill 41 = .ok (.iload_n 1, 1) := by decide +kernel
theorem dX0_ticksTillStill_42 : decode cX0_ticksTillStill 42 = .ok (.bipush (-9), 2) := by decide +kernel
theorem dX0_ticksTillStill_44 : decode cX0_ticksTillStill 44 = .ok (.if_icmp .ne 24, 3) := by decide +kernel
theorem dX0_ticksTillStill_47 : decode cX0_ticksTillStill 47 = .ok (.iload_n 2, 1) := by decide +kernel
theorem dX0_ticksTillStill_48 : decode cX0_ticksTillStill 48 = .ok (.bipush 30, 2) := by decide +kernel
theorem dX0_ticksTillStill_50 : decode cX0_ticksTillStill 50 = .ok (.if_icmp .ge 18, 3) := by decide +kernel
theorem dX0_ticksTillStill_53 : decode cX0_ticksTillStill 53 = .ok (.aload_n 0, 1) := by decide +kernel
theorem dX0_ticksTillStill_54 : decode cX0_ticksTillStill 54 = .ok (.invokevirtual 82, 3) := by decide +kernel
theorem dX0_ticksTillStill_57 : decode cX0_ticksTillStill 57 = .ok (.ifCond .ne 5, 3) := by decide +kernel
theorem dX0_ticksTillStill_60 : decode cX0_ticksTillStill 60 = .ok (.iload_n 2, 1) := by decide +kernel
theorem dX0_ticksTillStill_61 : decode cX0_ticksTillStill 61 = .ok (.istore_n 1, 1) := by decide +kernel
theorem dX0_ticksTillStill_62 : decode cX0_ticksTillStill 62 = .ok (.iinc 2 1, 3) := by decide +kernel
theorem dX0_ticksTillStill_65 : decode cX0_ticksTillStill 65 = .ok (.goto (-24), 3) := by decide +kernel
theorem dX0_ticksTillStill_68 : decode cX0_ticksTillStill 68 = .ok (.aload_n 0, 1) := by decide +kernel
theorem dX0_ticksTillStill_69 : decode cX0_ticksTillStill 69 = .ok (.getfield 37, 3) := by decide +kernel
theorem dX0_ticksTillStill_72 : decode cX0_ticksTillStill 72 = .ok (.iconst 0, 1) := by decide +kernel
theorem dX0_ticksTillStill_73 : decode cX0_ticksTillStill 73 = .ok (.aload_n 0, 1) := by decide +kernel
theorem dX0_ticksTillStill_74 : decode cX0_ticksTillStill 74 = .ok (.getfield 18, 3) := by decide +kernel
theorem dX0_ticksTillStill_77 : decode cX0_ticksTillStill 77 = .ok (.iconst 0, 1) := by decide +kernel
theorem dX0_ticksTillStill_78 : decode cX0_ticksTillStill 78 = .ok (.aload_n 0, 1) := by decide +kernel
theorem dX0_ticksTillStill_79 : decode cX0_ticksTillStill 79 = .ok (.getfield 37, 3) := by decide +kernel
theorem dX0_ticksTillStill_82 : decode cX0_ticksTillStill 82 = .ok (.arraylength, 1) := by decide +kernel
theorem dX0_ticksTillStill_83 : decode cX0_ticksTillStill 83 = .ok (.invokestatic 89, 3) := by decide +kernel
theorem dX0_ticksTillStill_86 : decode cX0_ticksTillStill 86 = .ok (.aload_n 0, 1) := by decide +kernel
theorem dX0_ticksTillStill_87 : decode cX0_ticksTillStill 87 = .ok (.getfield 40, 3) := by decide +kernel
theorem dX0_ticksTillStill_90 : decode cX0_ticksTillStill 90 = .ok (.iconst 0, 1) := by decide +kernel
theorem dX0_ticksTillStill_91 : decode cX0_ticksTillStill 91 = .ok (.aload_n 0, 1) := by decide +kernel
theorem dX0_ticksTillStill_92 : decode cX0_ticksTillStill 92 = .ok (.getfield 22, 3) := by decide +kernel
theorem dX0_ticksTillStill_95 : decode cX0_ticksTillStill 95 = .ok (.iconst 0, 1) := by decide +kernel
theorem dX0_ticksTillStill_96 : decode cX0_ticksTillStill 96 = .ok (.aload_n 0, 1) := by decide +kernel
theorem dX0_ticksTillStill_97 : decode cX0_ticksTillStill 97 = .ok (.getfield 40, 3) := by decide +kernel
theorem dX0_ticksTillStill_100 : decode cX0_ticksTillStill 100 = .ok (.arraylength, 1) := by decide +kernel
theorem dX0_ticksTillStill_101 : decode cX0_ticksTillStill 101 = .ok (.invokestatic 89, 3) := by decide +kernel
theorem dX0_ticksTillStill_104 : decode cX0_ticksTillStill 104 = .ok (.iload_n 1, 1) := by decide +kernel
theorem dX0_ticksTillStill_105 : decode cX0_ticksTillStill 105 = .ok (.ireturn, 1) := by decide +kernel
theorem dX0_tick_0 : decode cX0_tick 0 = .ok (.iconst 0, 1) := by decide +kernel
theorem dX0_tick_1 : decode cX0_tick 1 = .ok (.istore_n 1, 1) := by decide +kernel
theorem dX0_tick_2 : decode cX0_tick 2 = .ok (.iload_n 1, 1) := by decide +kernel
theorem dX0_tick_3 : decode cX0_tick 3 = .ok (.bipush 7, 2) := by decide +kernel
theorem dX0_tick_5 : decode cX0_tick 5 = .ok (.if_icmp .ge 19, 3) := by decide +kernel
theorem dX0_tick_8 : decode cX0_tick 8 = .ok (.aload_n 0, 1) := by decide +kernel
theorem dX0_tick_9 : decode cX0_tick 9 = .ok (.iload_n 1, 1) := by decide +kernel
theorem dX0_tick_10 : decode cX0_tick 10 = .ok (.invokevirtual 95, 3) := by decide +kernel
theorem dX0_tick_13 : decode cX0_tick 13 = .ok (.aload_n 0, 1) := by decide +kernel
theorem dX0_tick_14 : decode cX0_tick 14 = .ok (.iload_n 1, 1) := by decide +kernel
theorem dX0_tick_15 : decode cX0_tick 15 = .ok (.invokevirtual 98, 3) := by decide +kernel
theorem dX0_tick_18 : decode cX0_tick 18 = .ok (.iinc 1 1, 3) := by decide +kernel
theorem dX0_tick_21 : decode cX0_tick 21 = .ok (.goto (-19), 3) := by decide +kernel
theorem dX0_tick_24 : decode cX0_tick 24 = .ok (.aload_n 0, 1) := by decide +kernel
theorem dX0_tick_25 : decode cX0_tick 25 = .ok (.invokevirtual 101, 3) := by decide +kernel
theorem dX0_tick_28 : decode cX0_tick 28 = .ok (.ifCond .eq 7, 3) := by decide +kernel
theorem dX0_tick_31 : decode cX0_tick 31 = .ok (.iconst 1, 1) := by decide +kernel
theorem dX0_tick_32 : decode cX0_tick 32 = .ok (.goto 4, 3) := by decide +kernel
theorem dX0_tick_35 : decode cX0_tick 35 = .ok (.iconst 0, 1) := by decide +kernel
theorem dX0_tick_36 : decode cX0_tick 36 = .ok (.istore_n 1, 1) := by decide +kernel
theorem dX0_tick_37 : decode cX0_tick 37 = .ok (.aload_n 0, 1) := by decide +kernel
theorem dX0_tick_38 : decode cX0_tick 38 = .ok (.invokevirtual 105, 3) := by decide +kernel
theorem dX0_tick_41 : decode cX0_tick 41 = .ok (.ifCond .eq 9, 3) := by decide +kernel
theorem dX0_tick_44 : decode cX0_tick 44 = .ok (.iload_n 1, 1) := by decide +kernel
theorem dX0_tick_45 : decode cX0_tick 45 = .ok (.iconst 2, 1) := by decide +kernel
theorem dX0_tick_46 : decode cX0_tick 46 = .ok (.ior, 1) := by decide +kernel
theorem dX0_tick_47 : decode cX0_tick 47 = .ok (.goto 4, 3) := by decide +kernel
theorem dX0_tick_50 : decode cX0_tick 50 = .ok (.iload_n 1, 1) := by decide +kernel
theorem dX0_tick_51 : decode cX0_tick 51 = .ok (.ireturn, 1) := by decide +kernel
theorem dX0_placeSlips_0 : decode cX0_placeSlips 0 = .ok (.iconst 0, 1) := by decide +kernel
theorem dX0_placeSlips_1 : decode cX0_placeSlips 1 = .ok (.istore_n 2, 1) := by decide +kernel
theorem dX0_placeSlips_2 : decode cX0_placeSlips 2 = .ok (.iload_n 2, 1) := by decide +kernel
theorem dX0_placeSlips_3 : decode cX0_placeSlips 3 = .ok (.iconst 4, 1) := by decide +kernel
theorem dX0_placeSlips_4 : decode cX0_placeSlips 4 = .ok (.if_icmp .ge 21, 3) := by decide +kernel
theorem dX0_placeSlips_7 : decode cX0_placeSlips 7 = .ok (.aload_n 0, 1) := by decide +kernel
theorem dX0_placeSlips_8 : decode cX0_placeSlips 8 = .ok (.getfield 31, 3) := by decide +kernel
theorem dX0_placeSlips_11 : decode cX0_placeSlips 11 = .ok (.iload_n 2, 1) := by decide +kernel
theorem dX0_placeSlips_12 : decode cX0_placeSlips 12 = .ok (.aload_n 0, 1) := by decide +kernel
theorem dX0_placeSlips_13 : decode cX0_placeSlips 13 = .ok (.iload_n 1, 1) := by decide +kernel
theorem dX0_placeSlips_14 : decode cX0_placeSlips 14 = .ok (.iload_n 2, 1) := by decide +kernel
theorem dX0_placeSlips_15 : decode cX0_placeSlips 15 = .ok (.invokevirtual 108, 3) := by decide +kernel
theorem dX0_placeSlips_18 : decode cX0_placeSlips 18 = .ok (.iastore, 1) := by decide +kernel
theorem dX0_placeSlips_19 : decode cX0_placeSlips 19 = .ok (.iinc 2 1, 3) := by decide +kernel
theorem dX0_placeSlips_22 : decode cX0_placeSlips 22 = .ok (.goto (-20), 3) := by decide +kernel
theorem dX0_placeSlips_25 : decode cX0_placeSlips 25 = .ok (.iconst 0, 1) := by decide +kernel
theorem dX0_placeSlips_26 : decode cX0_placeSlips 26 = .ok (.istore_n 2, 1) := by decide +kernel
theorem dX0_placeSlips_27 : decode cX0_placeSlips 27 = .ok (.iload_n 2, 1) := by decide +kernel
theorem dX0_placeSlips_28 : decode cX0_placeSlips 28 = .ok (.iconst 2, 1) := by decide +kernel
theorem dX0_placeSlips_29 : decode cX0_placeSlips 29 = .ok (.aload_n 0, 1) := by decide +kernel
theorem dX0_placeSlips_30 : decode cX0_placeSlips 30 = .ok (.getfield 43, 3) := by decide +kernel
theorem dX0_placeSlips_33 : decode cX0_placeSlips 33 = .ok (.getfield 51, 3) := by decide +kernel
theorem dX0_placeSlips_36 : decode cX0_placeSlips 36 = .ok (.imul, 1) := by decide +kernel
theorem dX0_placeSlips_37 : decode cX0_placeSlips 37 = .ok (.if_icmp .ge 27, 3) := by decide +kernel
theorem dX0_placeSlips_40 : decode cX0_placeSlips 40 = .ok (.aload_n 0, 1) := by decide +kernel
theorem dX0_placeSlips_41 : decode cX0_placeSlips 41 = .ok (.getfield 43, 3) := by decide +kernel
theorem dX0_placeSlips_44 : decode cX0_placeSlips 44 = .ok (.getfield 60, 3) := by decide +kernel
theorem dX0_placeSlips_47 : decode cX0_placeSlips 47 = .ok (.iload_n 2, 1) := by decide +kernel
theorem dX0_placeSlips_48 : decode cX0_placeSlips 48 = .ok (.iaload, 1) := by decide +kernel
theorem dX0_placeSlips_49 : decode cX0_placeSlips 49 = .ok (.iload_n 1, 1) := by decide +kernel
theorem dX0_placeSlips_50 : decode cX0_placeSlips 50 = .ok (.if_icmp .ne 8, 3) := by decide +kernel
theorem dX0_placeSlips_53 : decode cX0_placeSlips 53 = .ok (.aload_n 0, 1) := by decide +kernel
theorem dX0_placeSlips_54 : decode cX0_placeSlips 54 = .ok (.iload_n 2, 1) := by decide +kernel
theorem dX0_placeSlips_55 : decode cX0_placeSlips 55 = .ok (.invokevirtual 111, 3) := by decide +kernel
theorem dX0_placeSlips_58 : decode cX0_placeSlips 58 = .ok (.iinc 2 1, 3) := by decide +kernel
theorem dX0_placeSlips_61 : decode cX0_placeSlips 61 = .ok (.goto (-34), 3) := by decide +kernel
theorem dX0_placeSlips_64 : decode cX0_placeSlips 64 = .ok (.return_, 1) := by decide +kernel
theorem dX0_placeOver_0 : decode cX0_placeOver 0 = .ok (.iconst 0, 1) := by decide +kernel
theorem dX0_placeOver_1 : decode cX0_placeOver 1 = .ok (.istore_n 2, 1) := by decide +kernel
theorem dX0_placeOver_2 : decode cX0_placeOver 2 = .ok (.iload_n 2, 1) := by decide +kernel
theorem dX0_placeOver_3 : decode cX0_placeOver 3 = .ok (.iconst 4, 1) := by decide +kernel
theorem dX0_placeOver_4 : decode cX0_placeOver 4 = .ok (.if_icmp .ge 62, 3) := by decide +kernel
theorem dX0_placeOver_7 : decode cX0_placeOver 7 = .ok (.aload_n 0, 1) := by decide +kernel
theorem dX0_placeOver_8 : decode cX0_placeOver 8 = .ok (.getfield 31, 3) := by decide +kernel
theorem dX0_placeOver_11 : decode cX0_placeOver 11 = .ok (.iload_n 2, 1) := by decide +kernel
theorem dX0_placeOver_12 : decode cX0_placeOver 12 = .ok (.iaload, 1) := by decide +kernel
theorem dX0_placeOver_13 : decode cX0_placeOver 13 = .ok (.iconst (-1), 1) := by decide +kernel
theorem dX0_placeOver_14 : decode cX0_placeOver 14 = .ok (.if_icmp .eq 16, 3) := by decide +kernel
theorem dX0_placeOver_17 : decode cX0_placeOver 17 = .ok (.aload_n 0, 1) := by decide +kernel
theorem dX0_placeOver_18 : decode cX0_placeOver 18 = .ok (.iload_n 1, 1) := by decide +kernel
theorem dX0_placeOver_19 : decode cX0_placeOver 19 = .ok (.iload_n 2, 1) := by decide +kernel
theorem dX0_placeOver_20 : decode cX0_placeOver 20 = .ok (.invokevirtual 114, 3) := by decide +kernel
theorem dX0_placeOver_23 : decode cX0_placeOver 23 = .ok (.ifCond .eq 7, 3) := by decide +kernel
theorem dX0_placeOver_26 : decode cX0_placeOver 26 = .ok (.iconst 1, 1) := by decide +kernel
theorem dX0_placeOver_27 : decode cX0_placeOver 27 = .ok (.goto 4, 3) := by decide +kernel
theorem dX0_placeOver_30 : decode cX0_placeOver 30 = .ok (.iconst 0, 1) := by decide +kernel
theorem dX0_placeOver_31 : decode cX0_placeOver 31 = .ok (.istore_n 3, 1) := by decide +kernel
theorem dX0_placeOver_32 : decode cX0_placeOver 32 = .ok (.aload_n 0, 1) := by decide +kernel
theorem dX0_placeOver_33 : decode cX0_placeOver 33 = .ok (.getfield 28, 3) := by decide +kernel
theorem dX0_placeOver_36 : decode cX0_placeOver 36 = .ok (.iload_n 1, 1) := by decide +kernel
theorem dX0_placeOver_37 : decode cX0_placeOver 37 = .ok (.iload_n 2, 1) := by decide +kernel
theorem dX0_placeOver_38 : decode cX0_placeOver 38 = .ok (.invokestatic 56, 3) := by decide +kernel
theorem dX0_placeOver_41 : decode cX0_placeOver 41 = .ok (.iload_n 3, 1) := by decide +kernel
theorem dX0_placeOver_42 : decode cX0_placeOver 42 = .ok (.ifCond .eq 16, 3) := by decide +kernel
theorem dX0_placeOver_45 : decode cX0_placeOver 45 = .ok (.iconst 1, 1) := by decide +kernel
theorem dX0_placeOver_46 : decode cX0_placeOver 46 = .ok (.aload_n 0, 1) := by decide +kernel
theorem dX0_placeOver_47 : decode cX0_placeOver 47 = .ok (.getfield 31, 3) := by decide +kernel
theorem dX0_placeOver_50 : decode cX0_placeOver 50 = .ok (.iload_n 2, 1) := by decide +kernel
theorem dX0_placeOver_51 : decode cX0_placeOver 51 = .ok (.iaload, 1) := by decide +kernel
theorem dX0_placeOver_52 : decode cX0_placeOver 52 = .ok (.invokestatic 117, 3) := by decide +kernel
theorem dX0_placeOver_55 : decode cX0_placeOver 55 = .ok (.goto 4, 3) := by decide +kernel
theorem dX0_placeOver_58 : decode cX0_placeOver 58 = .ok (.iconst 0, 1) := by decide +kernel
theorem dX0_placeOver_59 : decode cX0_placeOver 59 = .ok (.iastore, 1) := by decide +kernel
theorem dX0_placeOver_60 : decode cX0_placeOver 60 = .ok (.iinc 2 1, 3) := by decide +kernel
theorem dX0_placeOver_63 : decode cX0_placeOver 63 = .ok (.goto (-61), 3) := by decide +kernel
theorem dX0_placeOver_66 : decode cX0_placeOver 66 = .ok (.return_, 1) := by decide +kernel
theorem dX0_countToHand_0 : decode cX0_countToHand 0 = .ok (.aload_n 0, 1) := by decide +kernel
theorem dX0_countToHand_1 : decode cX0_countToHand 1 = .ok (.getfield 43, 3) := by decide +kernel
theorem dX0_countToHand_4 : decode cX0_countToHand 4 = .ok (.getfield 120, 3) := by decide +kernel
theorem dX0_countToHand_7 : decode cX0_countToHand 7 = .ok (.iload_n 2, 1) := by decide +kernel
theorem dX0_countToHand_8 : decode cX0_countToHand 8 = .ok (.iaload, 1) := by decide +kernel
theorem dX0_countToHand_9 : decode cX0_countToHand 9 = .ok (.iload_n 1, 1) := by decide +kernel
theorem dX0_countToHand_10 : decode cX0_countToHand 10 = .ok (.if_icmp .ne 5, 3) := by decide +kernel
theorem dX0_countToHand_13 : decode cX0_countToHand 13 = .ok (.iconst 0, 1) := by decide +kernel
theorem dX0_countToHand_14 : decode cX0_countToHand 14 = .ok (.ireturn, 1) := by decide +kernel
theorem dX0_countToHand_15 : decode cX0_countToHand 15 = .ok (.aload_n 0, 1) := by decide +kernel
theorem dX0_countToHand_16 : decode cX0_countToHand 16 = .ok (.getfield 43, 3) := by decide +kernel
theorem dX0_countToHand_19 : decode cX0_countToHand 19 = .ok (.getfield 63, 3) := by decide +kernel
theorem dX0_countToHand_22 : decode cX0_countToHand 22 = .ok (.iload_n 1, 1) := by decide +kernel
theorem dX0_countToHand_23 : decode cX0_countToHand 23 = .ok (.iload_n 2, 1) := by decide +kernel
theorem dX0_countToHand_24 : decode cX0_countToHand 24 = .ok (.invokestatic 66, 3) := by decide +kernel
theorem dX0_countToHand_27 : decode cX0_countToHand 27 = .ok (.iaload, 1) := by decide +kernel
theorem dX0_countToHand_28 : decode cX0_countToHand 28 = .ok (.iconst (-1), 1) := by decide +kernel
theorem dX0_countToHand_29 : decode cX0_countToHand 29 = .ok (.if_icmp .ne 5, 3) := by decide +kernel
theorem dX0_countToHand_32 : decode cX0_countToHand 32 = .ok (.iconst (-1), 1) := by decide +kernel
theorem dX0_countToHand_33 : decode cX0_countToHand 33 = .ok (.ireturn, 1) := by decide +kernel
theorem dX0_countToHand_34 : decode cX0_countToHand 34 = .ok (.aload_n 0, 1) := by decide +kernel
theorem dX0_countToHand_35 : decode cX0_countToHand 35 = .ok (.iload_n 1, 1) := by decide +kernel
theorem dX0_countToHand_36 : decode cX0_countToHand 36 = .ok (.iload_n 2, 1) := by decide +kernel
theorem dX0_countToHand_37 : decode cX0_countToHand 37 = .ok (.invokevirtual 123, 3) := by decide +kernel
theorem dX0_countToHand_40 : decode cX0_countToHand 40 = .ok (.istore_n 3, 1) := by decide +kernel
theorem dX0_countToHand_41 : decode cX0_countToHand 41 = .ok (.iload_n 3, 1) := by decide +kernel
theorem dX0_countToHand_42 : decode cX0_countToHand 42 = .ok (.ifCond .ne 17, 3) := by decide +kernel
theorem dX0_countToHand_45 : decode cX0_countToHand 45 = .ok (.aload_n 0, 1) := by decide +kernel
theorem dX0_countToHand_46 : decode cX0_countToHand 46 = .ok (.getfield 9, 3) := by decide +kernel
theorem dX0_countToHand_49 : decode cX0_countToHand 49 = .ok (.iconst 1, 1) := by decide +kernel
theorem dX0_countToHand_50 : decode cX0_countToHand 50 = .ok (.if_icmp .ne 7, 3) := by decide +kernel
theorem dX0_countToHand_53 : decode cX0_countToHand 53 = .ok (.iconst (-1), 1) := by decide +kernel
theorem dX0_countToHand_54 : decode cX0_countToHand 54 = .ok (.goto 4, 3) := by decide +kernel
theorem dX0_countToHand_57 : decode cX0_countToHand 57 = .ok (.iconst 1, 1) := by decide +kernel
theorem dX0_countToHand_58 : decode cX0_countToHand 58 = .ok (.ireturn, 1) := by decide +kernel
theorem dX0_countToHand_59 : decode cX0_countToHand 59 = .ok (.iload_n 3, 1) := by decide +kernel
theorem dX0_countToHand_60 : decode cX0_countToHand 60 = .ok (.invokestatic 126, 3) := by decide +kernel
theorem dX0_countToHand_63 : decode cX0_countToHand 63 = .ok (.iconst 1, 1) := by decide +kernel
theorem dX0_countToHand_64 : decode cX0_countToHand 64 = .ok (.iadd, 1) := by decide +kernel
theorem dX0_countToHand_65 : decode cX0_countToHand 65 = .ok (.istore 4, 2) := by decide +kernel
theorem dX0_countToHand_67 : decode cX0_countToHand 67 = .ok (.iload 4, 2) := by decide +kernel
theorem dX0_countToHand_69 : decode cX0_countToHand 69 = .ok (.aload_n 0, 1) := by decide +kernel
theorem dX0_countToHand_70 : decode cX0_countToHand 70 = .ok (.getfield 15, 3) := by decide +kernel
theorem dX0_countToHand_73 : decode cX0_countToHand 73 = .ok (.if_icmp .le 7, 3) := by decide +kernel
theorem dX0_countToHand_76 : decode cX0_countToHand 76 = .ok (.iconst (-1), 1) := by decide +kernel
theorem dX0_countToHand_77 : decode cX0_countToHand 77 = .ok (.goto 5, 3) := by decide +kernel
theorem dX0_countToHand_80 : decode cX0_countToHand 80 = .ok (.iload 4, 2) := by decide +kernel
theorem dX0_countToHand_82 : decode cX0_countToHand 82 = .ok (.ireturn, 1) := by decide +kernel
theorem dX0_goesOver_0 : decode cX0_goesOver 0 = .ok (.aload_n 0, 1) := by decide +kernel
theorem dX0_goesOver_1 : decode cX0_goesOver 1 = .ok (.getfield 43, 3) := by decide +kernel
theorem dX0_goesOver_4 : decode cX0_goesOver 4 = .ok (.iload_n 1, 1) := by decide +kernel
theorem dX0_goesOver_5 : decode cX0_goesOver 5 = .ok (.invokevirtual 129, 3) := by decide +kernel
theorem dX0_goesOver_8 : decode cX0_goesOver 8 = .ok (.ifCond .ne 5, 3) := by decide +kernel
theorem dX0_goesOver_11 : decode cX0_goesOver 11 = .ok (.iconst 0, 1) := by decide +kernel
theorem dX0_goesOver_12 : decode cX0_goesOver 12 = .ok (.ireturn, 1) := by decide +kernel
theorem dX0_goesOver_13 : decode cX0_goesOver 13 = .ok (.aload_n 0, 1) := by decide +kernel
theorem dX0_goesOver_14 : decode cX0_goesOver 14 = .ok (.getfield 43, 3) := by decide +kernel
theorem dX0_goesOver_17 : decode cX0_goesOver 17 = .ok (.getfield 60, 3) := by decide +kernel
theorem dX0_goesOver_20 : decode cX0_goesOver 20 = .ok (.iload_n 1, 1) := by decide +kernel
theorem dX0_goesOver_21 : decode cX0_goesOver 21 = .ok (.iconst 1, 1) := by decide +kernel
theorem dX0_goesOver_22 : decode cX0_goesOver 22 = .ok (.ixor, 1) := by decide +kernel
theorem dX0_goesOver_23 : decode cX0_goesOver 23 = .ok (.iaload, 1) := by decide +kernel
theorem dX0_goesOver_24 : decode cX0_goesOver 24 = .ok (.istore_n 3, 1) := by decide +kernel
theorem dX0_goesOver_25 : decode cX0_goesOver 25 = .ok (.aload_n 0, 1) := by decide +kernel
theorem dX0_goesOver_26 : decode cX0_goesOver 26 = .ok (.aload_n 0, 1) := by decide +kernel
theorem dX0_goesOver_27 : decode cX0_goesOver 27 = .ok (.getfield 43, 3) := by decide +kernel
theorem dX0_goesOver_30 : decode cX0_goesOver 30 = .ok (.getfield 60, 3) := by decide +kernel
theorem dX0_goesOver_33 : decode cX0_goesOver 33 = .ok (.iload_n 1, 1) := by decide +kernel
theorem dX0_goesOver_34 : decode cX0_goesOver 34 = .ok (.iaload, 1) := by decide +kernel
theorem dX0_goesOver_35 : decode cX0_goesOver 35 = .ok (.iconst 0, 1) := by decide +kernel
theorem dX0_goesOver_36 : decode cX0_goesOver 36 = .ok (.invokevirtual 69, 3) := by decide +kernel
theorem dX0_goesOver_39 : decode cX0_goesOver 39 = .ok (.ifCond .eq 22, 3) := by decide +kernel
theorem dX0_goesOver_42 : decode cX0_goesOver 42 = .ok (.aload_n 0, 1) := by decide +kernel
theorem dX0_goesOver_43 : decode cX0_goesOver 43 = .ok (.getfield 43, 3) := by decide +kernel
theorem dX0_goesOver_46 : decode cX0_goesOver 46 = .ok (.getfield 63, 3) := by decide +kernel
theorem dX0_goesOver_49 : decode cX0_goesOver 49 = .ok (.iload_n 3, 1) := by decide +kernel
theorem dX0_goesOver_50 : decode cX0_goesOver 50 = .ok (.iload_n 2, 1) := by decide +kernel
theorem dX0_goesOver_51 : decode cX0_goesOver 51 = .ok (.invokestatic 66, 3) := by decide +kernel
theorem dX0_goesOver_54 : decode cX0_goesOver 54 = .ok (.iaload, 1) := by decide +kernel
theorem dX0_goesOver_55 : decode cX0_goesOver 55 = .ok (.iload_n 1, 1) := by decide +kernel
theorem dX0_goesOver_56 : decode cX0_goesOver 56 = .ok (.iconst 1, 1) := by decide +kernel
theorem dX0_goesOver_57 : decode cX0_goesOver 57 = .ok (.ixor, 1) := by decide +kernel
theorem dX0_goesOver_58 : decode cX0_goesOver 58 = .ok (.if_icmp .ne 7, 3) := by decide +kernel
theorem dX0_goesOver_61 : decode cX0_goesOver 61 = .ok (.iconst 1, 1) := by decide +kernel
theorem dX0_goesOver_62 : decode cX0_goesOver 62 = .ok (.goto 4, 3) := by decide +kernel
theorem dX0_goesOver_65 : decode cX0_goesOver 65 = .ok (.iconst 0, 1) := by decide +kernel
theorem dX0_goesOver_66 : decode cX0_goesOver 66 = .ok (.ireturn, 1) := by decide +kernel
theorem dX0_fillRows_0 : decode cX0_fillRows 0 = .ok (.aload_n 0, 1) := by decide +kernel
theorem dX0_fillRows_1 : decode cX0_fillRows 1 = .ok (.iload_n 1, 1) := by decide +kernel
theorem dX0_fillRows_2 : decode cX0_fillRows 2 = .ok (.iconst 2, 1) := by decide +kernel
theorem dX0_fillRows_3 : decode cX0_fillRows 3 = .ok (.invokevirtual 69, 3) := by decide +kernel
theorem dX0_fillRows_6 : decode cX0_fillRows 6 = .ok (.ifCond .ne 19, 3) := by decide +kernel
theorem dX0_fillRows_9 : decode cX0_fillRows 9 = .ok (.aload_n 0, 1) := by decide +kernel
theorem dX0_fillRows_10 : decode cX0_fillRows 10 = .ok (.iload_n 1, 1) := by decide +kernel
theorem dX0_fillRows_11 : decode cX0_fillRows 11 = .ok (.iconst 0, 1) := by decide +kernel
theorem dX0_fillRows_12 : decode cX0_fillRows 12 = .ok (.iconst 2, 1) := by decide +kernel
theorem dX0_fillRows_13 : decode cX0_fillRows 13 = .ok (.aload_n 0, 1) := by decide +kernel
theorem dX0_fillRows_14 : decode cX0_fillRows 14 = .ok (.getfield 43, 3) := by decide +kernel
theorem dX0_fillRows_17 : decode cX0_fillRows 17 = .ok (.getfield 51, 3) := by decide +kernel
theorem dX0_fillRows_20 : decode cX0_fillRows 20 = .ok (.imul, 1) := by decide +kernel
theorem dX0_fillRows_21 : decode cX0_fillRows 21 = .ok (.invokevirtual 133, 3) := by decide +kernel
theorem dX0_fillRows_24 : decode cX0_fillRows 24 = .ok (.return_, 1) := by decide +kernel
theorem dX0_fillRows_25 : decode cX0_fillRows 25 = .ok (.iconst 0, 1) := by decide +kernel
theorem dX0_fillRows_26 : decode cX0_fillRows 26 = .ok (.istore_n 2, 1) := by decide +kernel
theorem dX0_fillRows_27 : decode cX0_fillRows 27 = .ok (.iload_n 2, 1) := by decide +kernel
theorem dX0_fillRows_28 : decode cX0_fillRows 28 = .ok (.iconst 2, 1) := by decide +kernel
theorem dX0_fillRows_29 : decode cX0_fillRows 29 = .ok (.aload_n 0, 1) := by decide +kernel
theorem dX0_fillRows_30 : decode cX0_fillRows 30 = .ok (.getfield 43, 3) := by decide +kernel
theorem dX0_fillRows_33 : decode cX0_fillRows 33 = .ok (.getfield 51, 3) := by decide +kernel
theorem dX0_fillRows_36 : decode cX0_fillRows 36 = .ok (.imul, 1) := by decide +kernel
theorem dX0_fillRows_37 : decode cX0_fillRows 37 = .ok (.if_icmp .ge 31, 3) := by decide +kernel
theorem dX0_fillRows_40 : decode cX0_fillRows 40 = .ok (.aload_n 0, 1) := by decide +kernel
theorem dX0_fillRows_41 : decode cX0_fillRows 41 = .ok (.getfield 43, 3) := by decide +kernel
theorem dX0_fillRows_44 : decode cX0_fillRows 44 = .ok (.getfield 60, 3) := by decide +kernel
theorem dX0_fillRows_47 : decode cX0_fillRows 47 = .ok (.iload_n 2, 1) := by decide +kernel
theorem dX0_fillRows_48 : decode cX0_fillRows 48 = .ok (.iaload, 1) := by decide +kernel
theorem dX0_fillRows_49 : decode cX0_fillRows 49 = .ok (.iload_n 1, 1) := by decide +kernel
theorem dX0_fillRows_50 : decode cX0_fillRows 50 = .ok (.if_icmp .ne 12, 3) := by decide +kernel
theorem dX0_fillRows_53 : decode cX0_fillRows 53 = .ok (.aload_n 0, 1) := by decide +kernel
theorem dX0_fillRows_54 : decode cX0_fillRows 54 = .ok (.iload_n 1, 1) := by decide +kernel
theorem dX0_fillRows_55 : decode cX0_fillRows 55 = .ok (.iload_n 2, 1) := by decide +kernel
theorem dX0_fillRows_56 : decode cX0_fillRows 56 = .ok (.iload_n 2, 1) := by decide +kernel
theorem dX0_fillRows_57 : decode cX0_fillRows 57 = .ok (.iconst 1, 1) := by decide +kernel
theorem dX0_fillRows_58 : decode cX0_fillRows 58 = .ok (.iadd, 1) := by decide +kernel
theorem dX0_fillRows_59 : decode cX0_fillRows 59 = .ok (.invokevirtual 133, 3) := by decide +kernel
theorem dX0_fillRows_62 : decode cX0_fillRows 62 = .ok (.iinc 2 1, 3) := by decide +kernel
theorem dX0_fillRows_65 : decode cX0_fillRows 65 = .ok (.goto (-38), 3) := by decide +kernel
theorem dX0_fillRows_68 : decode cX0_fillRows 68 = .ok (.return_, 1) := by decide +kernel
theorem dX0_fillRow_0 : decode cX0_fillRow 0 = .ok (.iconst 0, 1) := by decide +kernel
theorem dX0_fillRow_1 : decode cX0_fillRow 1 = .ok (.istore 4, 2) := by decide +kernel
theorem dX0_fillRow_3 : decode cX0_fillRow 3 = .ok (.iconst 0, 1) := by decide +kernel
theorem dX0_fillRow_4 : decode cX0_fillRow 4 = .ok (.istore 5, 2) := by decide +kernel
theorem dX0_fillRow_6 : decode cX0_fillRow 6 = .ok (.iload 5, 2) := by decide +kernel
theorem dX0_fillRow_8 : decode cX0_fillRow 8 = .ok (.iconst 4, 1) := by decide +kernel
theorem dX0_fillRow_9 : decode cX0_fillRow 9 = .ok (.if_icmp .ge 40, 3) := by decide +kernel
theorem dX0_fillRow_12 : decode cX0_fillRow 12 = .ok (.aload_n 0, 1) := by decide +kernel
theorem dX0_fillRow_13 : decode cX0_fillRow 13 = .ok (.getfield 34, 3) := by decide +kernel
theorem dX0_fillRow_16 : decode cX0_fillRow 16 = .ok (.iload 5, 2) := by decide +kernel
theorem dX0_fillRow_18 : decode cX0_fillRow 18 = .ok (.aload_n 0, 1) := by decide +kernel
theorem dX0_fillRow_19 : decode cX0_fillRow 19 = .ok (.iload_n 1, 1) := by decide +kernel
theorem dX0_fillRow_20 : decode cX0_fillRow 20 = .ok (.iload 5, 2) := by decide +kernel
theorem dX0_fillRow_22 : decode cX0_fillRow 22 = .ok (.iload_n 2, 1) := by decide +kernel
theorem dX0_fillRow_23 : decode cX0_fillRow 23 = .ok (.iload_n 3, 1) := by decide +kernel
theorem dX0_fillRow_24 : decode cX0_fillRow 24 = .ok (.invokevirtual 137, 3) := by decide +kernel
theorem dX0_fillRow_27 : decode cX0_fillRow 27 = .ok (.iastore, 1) := by decide +kernel
theorem dX0_fillRow_28 : decode cX0_fillRow 28 = .ok (.iload 4, 2) := by decide +kernel
theorem dX0_fillRow_30 : decode cX0_fillRow 30 = .ok (.aload_n 0, 1) := by decide +kernel
theorem dX0_fillRow_31 : decode cX0_fillRow 31 = .ok (.getfield 34, 3) := by decide +kernel
theorem dX0_fillRow_34 : decode cX0_fillRow 34 = .ok (.iload 5, 2) := by decide +kernel
theorem dX0_fillRow_36 : decode cX0_fillRow 36 = .ok (.iaload, 1) := by decide +kernel
theorem dX0_fillRow_37 : decode cX0_fillRow 37 = .ok (.invokestatic 141, 3) := by decide +kernel
theorem dX0_fillRow_40 : decode cX0_fillRow 40 = .ok (.ior, 1) := by decide +kernel
theorem dX0_fillRow_41 : decode cX0_fillRow 41 = .ok (.istore 4, 2) := by decide +kernel
theorem dX0_fillRow_43 : decode cX0_fillRow 43 = .ok (.iinc 5 1, 3) := by decide +kernel
theorem dX0_fillRow_46 : decode cX0_fillRow 46 = .ok (.goto (-40), 3) := by decide +kernel
theorem dX0_fillRow_49 : decode cX0_fillRow 49 = .ok (.iconst 0, 1) := by decide +kernel
theorem dX0_fillRow_50 : decode cX0_fillRow 50 = .ok (.istore 5, 2) := by decide +kernel
theorem dX0_fillRow_52 : decode cX0_fillRow 52 = .ok (.iload 5, 2) := by decide +kernel
theorem dX0_fillRow_54 : decode cX0_fillRow 54 = .ok (.iconst 4, 1) := by decide +kernel
theorem dX0_fillRow_55 : decode cX0_fillRow 55 = .ok (.if_icmp .ge 46, 3) := by decide +kernel
theorem dX0_fillRow_58 : decode cX0_fillRow 58 = .ok (.aload_n 0, 1) := by decide +kernel
theorem dX0_fillRow_59 : decode cX0_fillRow 59 = .ok (.getfield 34, 3) := by decide +kernel
theorem dX0_fillRow_62 : decode cX0_fillRow 62 = .ok (.iload 5, 2) := by decide +kernel
theorem dX0_fillRow_64 : decode cX0_fillRow 64 = .ok (.iaload, 1) := by decide +kernel
theorem dX0_fillRow_65 : decode cX0_fillRow 65 = .ok (.ifCond .ne 30, 3) := by decide +kernel
theorem dX0_fillRow_68 : decode cX0_fillRow 68 = .ok (.aload_n 0, 1) := by decide +kernel
theorem dX0_fillRow_69 : decode cX0_fillRow 69 = .ok (.getfield 34, 3) := by decide +kernel
theorem dX0_fillRow_72 : decode cX0_fillRow 72 = .ok (.iload 5, 2) := by decide +kernel
theorem dX0_fillRow_74 : decode cX0_fillRow 74 = .ok (.iload 4, 2) := by decide +kernel
theorem dX0_fillRow_76 : decode cX0_fillRow 76 = .ok (.invokestatic 144, 3) := by decide +kernel
theorem dX0_fillRow_79 : decode cX0_fillRow 79 = .ok (.iastore, 1) := by decide +kernel
theorem dX0_fillRow_80 : decode cX0_fillRow 80 = .ok (.iload 4, 2) := by decide +kernel
theorem dX0_fillRow_82 : decode cX0_fillRow 82 = .ok (.aload_n 0, 1) := by decide +kernel
theorem dX0_fillRow_83 : decode cX0_fillRow 83 = .ok (.getfield 34, 3) := by decide +kernel
theorem dX0_fillRow_86 : decode cX0_fillRow 86 = .ok (.iload 5, 2) := by decide +kernel
theorem dX0_fillRow_88 : decode cX0_fillRow 88 = .ok (.iaload, 1) := by decide +kernel
theorem dX0_fillRow_89 : decode cX0_fillRow 89 = .ok (.invokestatic 141, 3) := by decide +kernel
theorem dX0_fillRow_92 : decode cX0_fillRow 92 = .ok (.ior, 1) := by decide +kernel
theorem dX0_fillRow_93 : decode cX0_fillRow 93 = .ok (.istore 4, 2) := by decide +kernel
theorem dX0_fillRow_95 : decode cX0_fillRow 95 = .ok (.iinc 5 1, 3) := by decide +kernel
theorem dX0_fillRow_98 : decode cX0_fillRow 98 = .ok (.goto (-46), 3) := by decide +kernel
theorem dX0_fillRow_101 : decode cX0_fillRow 101 = .ok (.iload_n 2, 1) := by decide +kernel
theorem dX0_fillRow_102 : decode cX0_fillRow 102 = .ok (.istore 5, 2) := by decide +kernel
theorem dX0_fillRow_104 : decode cX0_fillRow 104 = .ok (.iload 5, 2) := by decide +kernel
theorem dX0_fillRow_106 : decode cX0_fillRow 106 = .ok (.iload_n 3, 1) := by decide +kernel
theorem dX0_fillRow_107 : decode cX0_fillRow 107 = .ok (.if_icmp .ge 29, 3) := by decide +kernel
theorem dX0_fillRow_110 : decode cX0_fillRow 110 = .ok (.aload_n 0, 1) := by decide +kernel
theorem dX0_fillRow_111 : decode cX0_fillRow 111 = .ok (.getfield 43, 3) := by decide +kernel
theorem dX0_fillRow_114 : decode cX0_fillRow 114 = .ok (.getfield 60, 3) := by decide +kernel
theorem dX0_fillRow_117 : decode cX0_fillRow 117 = .ok (.iload 5, 2) := by decide +kernel
theorem dX0_fillRow_119 : decode cX0_fillRow 119 = .ok (.iaload, 1) := by decide +kernel
theorem dX0_fillRow_120 : decode cX0_fillRow 120 = .ok (.iload_n 1, 1) := by decide +kernel
theorem dX0_fillRow_121 : decode cX0_fillRow 121 = .ok (.if_icmp .ne 9, 3) := by decide +kernel
theorem dX0_fillRow_124 : decode cX0_fillRow 124 = .ok (.aload_n 0, 1) := by decide +kernel
theorem dX0_fillRow_125 : decode cX0_fillRow 125 = .ok (.iload 5, 2) := by decide +kernel
theorem dX0_fillRow_127 : decode cX0_fillRow 127 = .ok (.invokevirtual 147, 3) := by decide +kernel
theorem dX0_fillRow_130 : decode cX0_fillRow 130 = .ok (.iinc 5 1, 3) := by decide +kernel
theorem dX0_fillRow_133 : decode cX0_fillRow 133 = .ok (.goto (-29), 3) := by decide +kernel
theorem dX0_fillRow_136 : decode cX0_fillRow 136 = .ok (.return_, 1) := by decide +kernel
theorem dX0_labelOver_0 : decode cX0_labelOver 0 = .ok (.iconst 0, 1) := by decide +kernel
theorem dX0_labelOver_1 : decode cX0_labelOver 1 = .ok (.istore_n 2, 1) := by decide +kernel
theorem dX0_labelOver_2 : decode cX0_labelOver 2 = .ok (.iload_n 2, 1) := by decide +kernel
theorem dX0_labelOver_3 : decode cX0_labelOver 3 = .ok (.iconst 4, 1) := by decide +kernel
theorem dX0_labelOver_4 : decode cX0_labelOver 4 = .ok (.if_icmp .ge 47, 3) := by decide +kernel
theorem dX0_labelOver_7 : decode cX0_labelOver 7 = .ok (.aload_n 0, 1) := by decide +kernel
theorem dX0_labelOver_8 : decode cX0_labelOver 8 = .ok (.getfield 28, 3) := by decide +kernel
theorem dX0_labelOver_11 : decode cX0_labelOver 11 = .ok (.iload_n 1, 1) := by decide +kernel
theorem dX0_labelOver_12 : decode cX0_labelOver 12 = .ok (.iload_n 2, 1) := by decide +kernel
theorem dX0_labelOver_13 : decode cX0_labelOver 13 = .ok (.invokestatic 56, 3) := by decide +kernel
theorem dX0_labelOver_16 : decode cX0_labelOver 16 = .ok (.iaload, 1) := by decide +kernel
theorem dX0_labelOver_17 : decode cX0_labelOver 17 = .ok (.istore_n 3, 1) := by decide +kernel
theorem dX0_labelOver_18 : decode cX0_labelOver 18 = .ok (.iload_n 3, 1) := by decide +kernel
theorem dX0_labelOver_19 : decode cX0_labelOver 19 = .ok (.ifCond .eq 26, 3) := by decide +kernel
theorem dX0_labelOver_22 : decode cX0_labelOver 22 = .ok (.aload_n 0, 1) := by decide +kernel
theorem dX0_labelOver_23 : decode cX0_labelOver 23 = .ok (.getfield 28, 3) := by decide +kernel
theorem dX0_labelOver_26 : decode cX0_labelOver 26 = .ok (.iload_n 1, 1) := by decide +kernel
theorem dX0_labelOver_27 : decode cX0_labelOver 27 = .ok (.iload_n 2, 1) := by decide +kernel
theorem dX0_labelOver_28 : decode cX0_labelOver 28 = .ok (.invokestatic 56, 3) := by decide +kernel
theorem dX0_labelOver_31 : decode cX0_labelOver 31 = .ok (.aload_n 0, 1) := by decide +kernel
theorem dX0_labelOver_32 : decode cX0_labelOver 32 = .ok (.getfield 34, 3) := by decide +kernel
theorem dX0_labelOver_35 : decode cX0_labelOver 35 = .ok (.iload_n 2, 1) := by decide +kernel
theorem dX0_labelOver_36 : decode cX0_labelOver 36 = .ok (.iaload, 1) := by decide +kernel
theorem dX0_labelOver_37 : decode cX0_labelOver 37 = .ok (.iload_n 3, 1) := by decide +kernel
theorem dX0_labelOver_38 : decode cX0_labelOver 38 = .ok (.invokestatic 126, 3) := by decide +kernel
theorem dX0_labelOver_41 : decode cX0_labelOver 41 = .ok (.invokestatic 117, 3) := by decide +kernel
theorem dX0_labelOver_44 : decode cX0_labelOver 44 = .ok (.iastore, 1) := by decide +kernel
theorem dX0_labelOver_45 : decode cX0_labelOver 45 = .ok (.iinc 2 1, 3) := by decide +kernel
theorem dX0_labelOver_48 : decode cX0_labelOver 48 = .ok (.goto (-46), 3) := by decide +kernel
theorem dX0_labelOver_51 : decode cX0_labelOver 51 = .ok (.return_, 1) := by decide +kernel
theorem dX0_labelAhead_0 : decode cX0_labelAhead 0 = .ok (.iconst 0, 1) := by decide +kernel
theorem dX0_labelAhead_1 : decode cX0_labelAhead 1 = .ok (.istore 5, 2) := by decide +kernel
theorem dX0_labelAhead_3 : decode cX0_labelAhead 3 = .ok (.iconst 0, 1) := by decide +kernel
theorem dX0_labelAhead_4 : decode cX0_labelAhead 4 = .ok (.istore 6, 2) := by decide +kernel
theorem dX0_labelAhead_6 : decode cX0_labelAhead 6 = .ok (.iload_n 3, 1) := by decide +kernel
theorem dX0_labelAhead_7 : decode cX0_labelAhead 7 = .ok (.istore 7, 2) := by decide +kernel
theorem dX0_labelAhead_9 : decode cX0_labelAhead 9 = .ok (.iload 7, 2) := by decide +kernel
theorem dX0_labelAhead_11 : decode cX0_labelAhead 11 = .ok (.iload 4, 2) := by decide +kernel
theorem dX0_labelAhead_13 : decode cX0_labelAhead 13 = .ok (.if_icmp .ge 81, 3) := by decide +kernel
theorem dX0_labelAhead_16 : decode cX0_labelAhead 16 = .ok (.aload_n 0, 1) := by decide +kernel
theorem dX0_labelAhead_17 : decode cX0_labelAhead 17 = .ok (.getfield 43, 3) := by decide +kernel
theorem dX0_labelAhead_20 : decode cX0_labelAhead 20 = .ok (.getfield 60, 3) := by decide +kernel
theorem dX0_labelAhead_23 : decode cX0_labelAhead 23 = .ok (.iload 7, 2) := by decide +kernel
theorem dX0_labelAhead_25 : decode cX0_labelAhead 25 = .ok (.iaload, 1) := by decide +kernel
theorem dX0_labelAhead_26 : decode cX0_labelAhead 26 = .ok (.iload_n 1, 1) := by decide +kernel
theorem dX0_labelAhead_27 : decode cX0_labelAhead 27 = .ok (.if_icmp .ne 61, 3) := by decide +kernel
theorem dX0_labelAhead_30 : decode cX0_labelAhead 30 = .ok (.iload 5, 2) := by decide +kernel
theorem dX0_labelAhead_32 : decode cX0_labelAhead 32 = .ok (.ifCond .ne 17, 3) := by decide +kernel
theorem dX0_labelAhead_35 : decode cX0_labelAhead 35 = .ok (.aload_n 0, 1) := by decide +kernel
theorem dX0_labelAhead_36 : decode cX0_labelAhead 36 = .ok (.getfield 28, 3) := by decide +kernel
theorem dX0_labelAhead_39 : decode cX0_labelAhead 39 = .ok (.iload 7, 2) := by decide +kernel
theorem dX0_labelAhead_41 : decode cX0_labelAhead 41 = .ok (.iload_n 2, 1) := by decide +kernel
theorem dX0_labelAhead_42 : decode cX0_labelAhead 42 = .ok (.invokestatic 56, 3) := by decide +kernel
theorem dX0_labelAhead_45 : decode cX0_labelAhead 45 = .ok (.iaload, 1) := by decide +kernel
theorem dX0_labelAhead_46 : decode cX0_labelAhead 46 = .ok (.ifCond .eq 7, 3) := by decide +kernel
theorem dX0_labelAhead_49 : decode cX0_labelAhead 49 = .ok (.iconst 1, 1) := by decide +kernel
theorem dX0_labelAhead_50 : decode cX0_labelAhead 50 = .ok (.goto 4, 3) := by decide +kernel
theorem dX0_labelAhead_53 : decode cX0_labelAhead 53 = .ok (.iconst 0, 1) := by decide +kernel
theorem dX0_labelAhead_54 : decode cX0_labelAhead 54 = .ok (.istore 5, 2) := by decide +kernel
theorem dX0_labelAhead_56 : decode cX0_labelAhead 56 = .ok (.aload_n 0, 1) := by decide +kernel
theorem dX0_labelAhead_57 : decode cX0_labelAhead 57 = .ok (.getfield 18, 3) := by decide +kernel
theorem dX0_labelAhead_60 : decode cX0_labelAhead 60 = .ok (.iload 7, 2) := by decide +kernel
theorem dX0_labelAhead_62 : decode cX0_labelAhead 62 = .ok (.iload_n 2, 1) := by decide +kernel
theorem dX0_labelAhead_63 : decode cX0_labelAhead 63 = .ok (.invokestatic 56, 3) := by decide +kernel
theorem dX0_labelAhead_66 : decode cX0_labelAhead 66 = .ok (.iaload, 1) := by decide +kernel
theorem dX0_labelAhead_67 : decode cX0_labelAhead 67 = .ok (.invokestatic 73, 3) := by decide +kernel
theorem dX0_labelAhead_70 : decode cX0_labelAhead 70 = .ok (.istore 8, 2) := by decide +kernel
theorem dX0_labelAhead_72 : decode cX0_labelAhead 72 = .ok (.iload 8, 2) := by decide +kernel
theorem dX0_labelAhead_74 : decode cX0_labelAhead 74 = .ok (.bipush 16, 2) := by decide +kernel
theorem dX0_labelAhead_76 : decode cX0_labelAhead 76 = .ok (.if_icmp .lt 8, 3) := by decide +kernel
theorem dX0_labelAhead_79 : decode cX0_labelAhead 79 = .ok (.iload 8, 2) := by decide +kernel
theorem dX0_labelAhead_81 : decode cX0_labelAhead 81 = .ok (.goto 5, 3) := by decide +kernel
theorem dX0_labelAhead_84 : decode cX0_labelAhead 84 = .ok (.iload 6, 2) := by decide +kernel
theorem dX0_labelAhead_86 : decode cX0_labelAhead 86 = .ok (.istore 6, 2) := by decide +kernel
theorem dX0_labelAhead_88 : decode cX0_labelAhead 88 = .ok (.iinc 7 1, 3) := by decide +kernel
theorem dX0_labelAhead_91 : decode cX0_labelAhead 91 = .ok (.goto (-82), 3) := by decide +kernel
theorem dX0_labelAhead_94 : decode cX0_labelAhead 94 = .ok (.iload 5, 2) := by decide +kernel
theorem dX0_labelAhead_96 : decode cX0_labelAhead 96 = .ok (.ifCond .ne 5, 3) := by decide +kernel
theorem dX0_labelAhead_99 : decode cX0_labelAhead 99 = .ok (.iconst (-1), 1) := by decide +kernel
theorem dX0_labelAhead_100 : decode cX0_labelAhead 100 = .ok (.ireturn, 1) := by decide +kernel
theorem dX0_labelAhead_101 : decode cX0_labelAhead 101 = .ok (.aload_n 0, 1) := by decide +kernel
theorem dX0_labelAhead_102 : decode cX0_labelAhead 102 = .ok (.getfield 43, 3) := by decide +kernel
theorem dX0_labelAhead_105 : decode cX0_labelAhead 105 = .ok (.getfield 120, 3) := by decide +kernel
theorem dX0_labelAhead_108 : decode cX0_labelAhead 108 = .ok (.iload_n 2, 1) := by decide +kernel
theorem dX0_labelAhead_109 : decode cX0_labelAhead 109 = .ok (.iaload, 1) := by decide +kernel
theorem dX0_labelAhead_110 : decode cX0_labelAhead 110 = .ok (.iload_n 1, 1) := by decide +kernel
theorem dX0_labelAhead_111 : decode cX0_labelAhead 111 = .ok (.if_icmp .ne 16, 3) := by decide +kernel
theorem dX0_labelAhead_114 : decode cX0_labelAhead 114 = .ok (.aload_n 0, 1) := by decide +kernel
theorem dX0_labelAhead_115 : decode cX0_labelAhead 115 = .ok (.iload_n 1, 1) := by decide +kernel
theorem dX0_labelAhead_116 : decode cX0_labelAhead 116 = .ok (.iconst 3, 1) := by decide +kernel
theorem dX0_labelAhead_117 : decode cX0_labelAhead 117 = .ok (.invokevirtual 69, 3) := by decide +kernel
theorem dX0_labelAhead_120 : decode cX0_labelAhead 120 = .ok (.ifCond .eq 7, 3) := by decide +kernel
theorem dX0_labelAhead_123 : decode cX0_labelAhead 123 = .ok (.iconst 3, 1) := by decide +kernel
theorem dX0_labelAhead_124 : decode cX0_labelAhead 124 = .ok (.goto 5, 3) := by decide +kernel
theorem dX0_labelAhead_127 : decode cX0_labelAhead 127 = .ok (.iload 6, 2) := by decide +kernel
theorem dX0_labelAhead_129 : decode cX0_labelAhead 129 = .ok (.ireturn, 1) := by decide +kernel
theorem dX0_bitOf_0 : decode cX0_bitOf 0 = .ok (.iload_n 0, 1) := by decide +kernel
theorem dX0_bitOf_1 : decode cX0_bitOf 1 = .ok (.bipush 16, 2) := by decide +kernel
theorem dX0_bitOf_3 : decode cX0_bitOf 3 = .ok (.if_icmp .lt 12, 3) := by decide +kernel
theorem dX0_bitOf_6 : decode cX0_bitOf 6 = .ok (.iconst 1, 1) := by decide +kernel
theorem dX0_bitOf_7 : decode cX0_bitOf 7 = .ok (.iload_n 0, 1) := by decide +kernel
theorem dX0_bitOf_8 : decode cX0_bitOf 8 = .ok (.bipush 16, 2) := by decide +kernel
theorem dX0_bitOf_10 : decode cX0_bitOf 10 = .ok (.isub, 1) := by decide +kernel
theorem dX0_bitOf_11 : decode cX0_bitOf 11 = .ok (.ishl, 1) := by decide +kernel
theorem dX0_bitOf_12 : decode cX0_bitOf 12 = .ok (.goto 4, 3) := by decide +kernel
theorem dX0_bitOf_15 : decode cX0_bitOf 15 = .ok (.iconst 0, 1) := by decide +kernel
theorem dX0_bitOf_16 : decode cX0_bitOf 16 = .ok (.ireturn, 1) := by decide +kernel
theorem dX0_leastFree_0 : decode cX0_leastFree 0 = .ok (.bipush 16, 2) := by decide +kernel
theorem dX0_leastFree_2 : decode cX0_leastFree 2 = .ok (.istore_n 1, 1) := by decide +kernel
theorem dX0_leastFree_3 : decode cX0_leastFree 3 = .ok (.iload_n 1, 1) := by decide +kernel
theorem dX0_leastFree_4 : decode cX0_leastFree 4 = .ok (.bipush 20, 2) := by decide +kernel
theorem dX0_leastFree_6 : decode cX0_leastFree 6 = .ok (.if_icmp .ge 20, 3) := by decide +kernel
theorem dX0_leastFree_9 : decode cX0_leastFree 9 = .ok (.iload_n 0, 1) := by decide +kernel
theorem dX0_leastFree_10 : decode cX0_leastFree 10 = .ok (.iload_n 1, 1) := by decide +kernel
theorem dX0_leastFree_11 : decode cX0_leastFree 11 = .ok (.invokestatic 141, 3) := by decide +kernel
theorem dX0_leastFree_14 : decode cX0_leastFree 14 = .ok (.iand, 1) := by decide +kernel
theorem dX0_leastFree_15 : decode cX0_leastFree 15 = .ok (.ifCond .ne 5, 3) := by decide +kernel
theorem dX0_leastFree_18 : decode cX0_leastFree 18 = .ok (.iload_n 1, 1) := by decide +kernel
theorem dX0_leastFree_19 : decode cX0_leastFree 19 = .ok (.ireturn, 1) := by decide +kernel
theorem dX0_leastFree_20 : decode cX0_leastFree 20 = .ok (.iinc 1 1, 3) := by decide +kernel
theorem dX0_leastFree_23 : decode cX0_leastFree 23 = .ok (.goto (-20), 3) := by decide +kernel
theorem dX0_leastFree_26 : decode cX0_leastFree 26 = .ok (.bipush 20, 2) := by decide +kernel
theorem dX0_leastFree_28 : decode cX0_leastFree 28 = .ok (.ireturn, 1) := by decide +kernel
theorem dX0_takeFresh_0 : decode cX0_takeFresh 0 = .ok (.iconst 0, 1) := by decide +kernel
theorem dX0_takeFresh_1 : decode cX0_takeFresh 1 = .ok (.istore_n 1, 1) := by decide +kernel
theorem dX0_takeFresh_2 : decode cX0_takeFresh 2 = .ok (.iconst 0, 1) := by decide +kernel
theorem dX0_takeFresh_3 : decode cX0_takeFresh 3 = .ok (.istore_n 2, 1) := by decide +kernel
theorem dX0_takeFresh_4 : decode cX0_takeFresh 4 = .ok (.iload_n 2, 1) := by decide +kernel
theorem dX0_takeFresh_5 : decode cX0_takeFresh 5 = .ok (.iconst 2, 1) := by decide +kernel
theorem dX0_takeFresh_6 : decode cX0_takeFresh 6 = .ok (.aload_n 0, 1) := by decide +kernel
theorem dX0_takeFresh_7 : decode cX0_takeFresh 7 = .ok (.getfield 43, 3) := by decide +kernel
theorem dX0_takeFresh_10 : decode cX0_takeFresh 10 = .ok (.getfield 51, 3) := by decide +kernel
theorem dX0_takeFresh_13 : decode cX0_takeFresh 13 = .ok (.imul, 1) := by decide +kernel
theorem dX0_takeFresh_14 : decode cX0_takeFresh 14 = .ok (.iconst 0, 1) := by decide +kernel
theorem dX0_takeFresh_15 : decode cX0_takeFresh 15 = .ok (.invokestatic 56, 3) := by decide +kernel
theorem dX0_takeFresh_18 : decode cX0_takeFresh 18 = .ok (.if_icmp .ge 46, 3) := by decide +kernel
theorem dX0_takeFresh_21 : decode cX0_takeFresh 21 = .ok (.iload_n 1, 1) := by decide +kernel
theorem dX0_takeFresh_22 : decode cX0_takeFresh 22 = .ok (.ifCond .ne 18, 3) := by decide +kernel
theorem dX0_takeFresh_25 : decode cX0_takeFresh 25 = .ok (.aload_n 0, 1) := by decide +kernel
theorem dX0_takeFresh_26 : decode cX0_takeFresh 26 = .ok (.getfield 18, 3) := by decide +kernel
theorem dX0_takeFresh_29 : decode cX0_takeFresh 29 = .ok (.iload_n 2, 1) := by decide +kernel
theorem dX0_takeFresh_30 : decode cX0_takeFresh 30 = .ok (.iaload, 1) := by decide +kernel
theorem dX0_takeFresh_31 : decode cX0_takeFresh 31 = .ok (.aload_n 0, 1) := by decide +kernel
theorem dX0_takeFresh_32 : decode cX0_takeFresh 32 = .ok (.getfield 28, 3) := by decide +kernel
theorem dX0_takeFresh_35 : decode cX0_takeFresh 35 = .ok (.iload_n 2, 1) := by decide +kernel
theorem dX0_takeFresh_36 : decode cX0_takeFresh 36 = .ok (.iaload, 1) := by decide +kernel
theorem dX0_takeFresh_37 : decode cX0_takeFresh 37 = .ok (.if_icmp .eq 7, 3) := by decide +kernel
theorem dX0_takeFresh_40 : decode cX0_takeFresh 40 = .ok (.iconst 1, 1) := by decide +kernel
theorem dX0_takeFresh_41 : decode cX0_takeFresh 41 = .ok (.goto 4, 3) := by decide +kernel
theorem dX0_takeFresh_44 : decode cX0_takeFresh 44 = .ok (.iconst 0, 1) := by decide +kernel
theorem dX0_takeFresh_45 : decode cX0_takeFresh 45 = .ok (.istore_n 1, 1) := by decide +kernel
theorem dX0_takeFresh_46 : decode cX0_takeFresh 46 = .ok (.aload_n 0, 1) := by decide +kernel
theorem dX0_takeFresh_47 : decode cX0_takeFresh 47 = .ok (.getfield 18, 3) := by decide +kernel
theorem dX0_takeFresh_50 : decode cX0_takeFresh 50 = .ok (.iload_n 2, 1) := by decide +kernel
theorem dX0_takeFresh_51 : decode cX0_takeFresh 51 = .ok (.aload_n 0, 1) := by decide +kernel
theorem dX0_takeFresh_52 : decode cX0_takeFresh 52 = .ok (.getfield 28, 3) := by decide +kernel
theorem dX0_takeFresh_55 : decode cX0_takeFresh 55 = .ok (.iload_n 2, 1) := by decide +kernel
theorem dX0_takeFresh_56 : decode cX0_takeFresh 56 = .ok (.iaload, 1) := by decide +kernel
theorem dX0_takeFresh_57 : decode cX0_takeFresh 57 = .ok (.iastore, 1) := by decide +kernel
theorem dX0_takeFresh_58 : decode cX0_takeFresh 58 = .ok (.iinc 2 1, 3) := by decide +kernel
theorem dX0_takeFresh_61 : decode cX0_takeFresh 61 = .ok (.goto (-57), 3) := by decide +kernel
theorem dX0_takeFresh_64 : decode cX0_takeFresh 64 = .ok (.iload_n 1, 1) := by decide +kernel
theorem dX0_takeFresh_65 : decode cX0_takeFresh 65 = .ok (.ireturn, 1) := by decide +kernel
theorem dX0_keepAll_0 : decode cX0_keepAll 0 = .ok (.iconst 0, 1) := by decide +kernel
theorem dX0_keepAll_1 : decode cX0_keepAll 1 = .ok (.istore_n 1, 1) := by decide +kernel
theorem dX0_keepAll_2 : decode cX0_keepAll 2 = .ok (.iconst 0, 1) := by decide +kernel
theorem dX0_keepAll_3 : decode cX0_keepAll 3 = .ok (.istore_n 2, 1) := by decide +kernel
theorem dX0_keepAll_4 : decode cX0_keepAll 4 = .ok (.iload_n 2, 1) := by decide +kernel
theorem dX0_keepAll_5 : decode cX0_keepAll 5 = .ok (.iconst 2, 1) := by decide +kernel
theorem dX0_keepAll_6 : decode cX0_keepAll 6 = .ok (.aload_n 0, 1) := by decide +kernel
theorem dX0_keepAll_7 : decode cX0_keepAll 7 = .ok (.getfield 43, 3) := by decide +kernel
theorem dX0_keepAll_10 : decode cX0_keepAll 10 = .ok (.getfield 51, 3) := by decide +kernel
theorem dX0_keepAll_13 : decode cX0_keepAll 13 = .ok (.imul, 1) := by decide +kernel
theorem dX0_keepAll_14 : decode cX0_keepAll 14 = .ok (.if_icmp .ge 67, 3) := by decide +kernel
theorem dX0_keepAll_17 : decode cX0_keepAll 17 = .ok (.iconst 0, 1) := by decide +kernel
theorem dX0_keepAll_18 : decode cX0_keepAll 18 = .ok (.istore_n 3, 1) := by decide +kernel
theorem dX0_keepAll_19 : decode cX0_keepAll 19 = .ok (.iload_n 3, 1) := by decide +kernel
theorem dX0_keepAll_20 : decode cX0_keepAll 20 = .ok (.iconst 4, 1) := by decide +kernel
theorem dX0_keepAll_21 : decode cX0_keepAll 21 = .ok (.if_icmp .ge 54, 3) := by decide +kernel
theorem dX0_keepAll_24 : decode cX0_keepAll 24 = .ok (.aload_n 0, 1) := by decide +kernel
theorem dX0_keepAll_25 : decode cX0_keepAll 25 = .ok (.iload_n 2, 1) := by decide +kernel
theorem dX0_keepAll_26 : decode cX0_keepAll 26 = .ok (.iload_n 3, 1) := by decide +kernel
theorem dX0_keepAll_27 : decode cX0_keepAll 27 = .ok (.invokevirtual 150, 3) := by decide +kernel
theorem dX0_keepAll_30 : decode cX0_keepAll 30 = .ok (.istore 4, 2) := by decide +kernel
theorem dX0_keepAll_32 : decode cX0_keepAll 32 = .ok (.iload_n 1, 1) := by decide +kernel
theorem dX0_keepAll_33 : decode cX0_keepAll 33 = .ok (.ifCond .ne 18, 3) := by decide +kernel
theorem dX0_keepAll_36 : decode cX0_keepAll 36 = .ok (.aload_n 0, 1) := by decide +kernel
theorem dX0_keepAll_37 : decode cX0_keepAll 37 = .ok (.getfield 22, 3) := by decide +kernel
theorem dX0_keepAll_40 : decode cX0_keepAll 40 = .ok (.iload_n 2, 1) := by decide +kernel
theorem dX0_keepAll_41 : decode cX0_keepAll 41 = .ok (.iload_n 3, 1) := by decide +kernel
theorem dX0_keepAll_42 : decode cX0_keepAll 42 = .ok (.invokestatic 56, 3) := by decide +kernel
theorem dX0_keepAll_45 : decode cX0_keepAll 45 = .ok (.iaload, 1) := by decide +kernel
theorem dX0_keepAll_46 : decode cX0_keepAll 46 = .ok (.iload 4, 2) := by decide +kernel
theorem dX0_keepAll_48 : decode cX0_keepAll 48 = .ok (.if_icmp .eq 7, 3) := by decide +kernel
theorem dX0_keepAll_51 : decode cX0_keepAll 51 = .ok (.iconst 1, 1) := by decide +kernel
theorem dX0_keepAll_52 : decode cX0_keepAll 52 = .ok (.goto 4, 3) := by decide +kernel
theorem dX0_keepAll_55 : decode cX0_keepAll 55 = .ok (.iconst 0, 1) := by decide +kernel
theorem dX0_keepAll_56 : decode cX0_keepAll 56 = .ok (.istore_n 1, 1) := by decide +kernel
theorem dX0_keepAll_57 : decode cX0_keepAll 57 = .ok (.aload_n 0, 1) := by decide +kernel
theorem dX0_keepAll_58 : decode cX0_keepAll 58 = .ok (.getfield 22, 3) := by decide +kernel
theorem dX0_keepAll_61 : decode cX0_keepAll 61 = .ok (.iload_n 2, 1) := by decide +kernel
theorem dX0_keepAll_62 : decode cX0_keepAll 62 = .ok (.iload_n 3, 1) := by decide +kernel
theorem dX0_keepAll_63 : decode cX0_keepAll 63 = .ok (.invokestatic 56, 3) := by decide +kernel
theorem dX0_keepAll_66 : decode cX0_keepAll 66 = .ok (.iload 4, 2) := by decide +kernel
theorem dX0_keepAll_68 : decode cX0_keepAll 68 = .ok (.iastore, 1) := by decide +kernel
theorem dX0_keepAll_69 : decode cX0_keepAll 69 = .ok (.iinc 3 1, 3) := by decide +kernel
theorem dX0_keepAll_72 : decode cX0_keepAll 72 = .ok (.goto (-53), 3) := by decide +kernel
theorem dX0_keepAll_75 : decode cX0_keepAll 75 = .ok (.iinc 2 1, 3) := by decide +kernel
theorem dX0_keepAll_78 : decode cX0_keepAll 78 = .ok (.goto (-74), 3) := by decide +kernel
theorem dX0_keepAll_81 : decode cX0_keepAll 81 = .ok (.iload_n 1, 1) := by decide +kernel
theorem dX0_keepAll_82 : decode cX0_keepAll 82 = .ok (.ireturn, 1) := by decide +kernel
theorem dX0_slipToKeep_0 : decode cX0_slipToKeep 0 = .ok (.aload_n 0, 1) := by decide +kernel
theorem dX0_slipToKeep_1 : decode cX0_slipToKeep 1 = .ok (.getfield 43, 3) := by decide +kernel
theorem dX0_slipToKeep_4 : decode cX0_slipToKeep 4 = .ok (.getfield 60, 3) := by decide +kernel
theorem dX0_slipToKeep_7 : decode cX0_slipToKeep 7 = .ok (.iload_n 1, 1) := by decide +kernel
theorem dX0_slipToKeep_8 : decode cX0_slipToKeep 8 = .ok (.iaload, 1) := by decide +kernel
theorem dX0_slipToKeep_9 : decode cX0_slipToKeep 9 = .ok (.istore_n 3, 1) := by decide +kernel
theorem dX0_slipToKeep_10 : decode cX0_slipToKeep 10 = .ok (.aload_n 0, 1) := by decide +kernel
theorem dX0_slipToKeep_11 : decode cX0_slipToKeep 11 = .ok (.iload_n 3, 1) := by decide +kernel
theorem dX0_slipToKeep_12 : decode cX0_slipToKeep 12 = .ok (.iconst 1, 1) := by decide +kernel
theorem dX0_slipToKeep_13 : decode cX0_slipToKeep 13 = .ok (.invokevirtual 69, 3) := by decide +kernel
theorem dX0_slipToKeep_16 : decode cX0_slipToKeep 16 = .ok (.ifCond .eq 22, 3) := by decide +kernel
theorem dX0_slipToKeep_19 : decode cX0_slipToKeep 19 = .ok (.aload_n 0, 1) := by decide +kernel
theorem dX0_slipToKeep_20 : decode cX0_slipToKeep 20 = .ok (.getfield 43, 3) := by decide +kernel
theorem dX0_slipToKeep_23 : decode cX0_slipToKeep 23 = .ok (.getfield 63, 3) := by decide +kernel
theorem dX0_slipToKeep_26 : decode cX0_slipToKeep 26 = .ok (.iload_n 3, 1) := by decide +kernel
theorem dX0_slipToKeep_27 : decode cX0_slipToKeep 27 = .ok (.iload_n 2, 1) := by decide +kernel
theorem dX0_slipToKeep_28 : decode cX0_slipToKeep 28 = .ok (.invokestatic 66, 3) := by decide +kernel
theorem dX0_slipToKeep_31 : decode cX0_slipToKeep 31 = .ok (.iaload, 1) := by decide +kernel
theorem dX0_slipToKeep_32 : decode cX0_slipToKeep 32 = .ok (.iload_n 1, 1) := by decide +kernel
theorem dX0_slipToKeep_33 : decode cX0_slipToKeep 33 = .ok (.if_icmp .eq 5, 3) := by decide +kernel
theorem dX0_slipToKeep_36 : decode cX0_slipToKeep 36 = .ok (.iconst 0, 1) := by decide +kernel
theorem dX0_slipToKeep_37 : decode cX0_slipToKeep 37 = .ok (.ireturn, 1) := by decide +kernel
theorem dX0_slipToKeep_38 : decode cX0_slipToKeep 38 = .ok (.aload_n 0, 1) := by decide +kernel
theorem dX0_slipToKeep_39 : decode cX0_slipToKeep 39 = .ok (.getfield 18, 3) := by decide +kernel
theorem dX0_slipToKeep_42 : decode cX0_slipToKeep 42 = .ok (.iload_n 1, 1) := by decide +kernel
theorem dX0_slipToKeep_43 : decode cX0_slipToKeep 43 = .ok (.iconst 1, 1) := by decide +kernel
theorem dX0_slipToKeep_44 : decode cX0_slipToKeep 44 = .ok (.ixor, 1) := by decide +kernel
theorem dX0_slipToKeep_45 : decode cX0_slipToKeep 45 = .ok (.iload_n 2, 1) := by decide +kernel
theorem dX0_slipToKeep_46 : decode cX0_slipToKeep 46 = .ok (.invokestatic 56, 3) := by decide +kernel
theorem dX0_slipToKeep_49 : decode cX0_slipToKeep 49 = .ok (.iaload, 1) := by decide +kernel
theorem dX0_slipToKeep_50 : decode cX0_slipToKeep 50 = .ok (.ireturn, 1) := by decide +kernel
theorem dX1_init_0 : decode cX1_init 0 = .ok (.aload_n 0, 1) := by decide +kernel
theorem dX1_init_1 : decode cX1_init 1 = .ok (.invokespecial 3, 3) := by decide +kernel
theorem dX1_init_4 : decode cX1_init 4 = .ok (.aload_n 0, 1) := by decide +kernel
theorem dX1_init_5 : decode cX1_init 5 = .ok (.bipush 24, 2) := by decide +kernel
theorem dX1_init_7 : decode cX1_init 7 = .ok (.newarray .int, 2) := by decide +kernel
theorem dX1_init_9 : decode cX1_init 9 = .ok (.putfield 9, 3) := by decide +kernel
theorem dX1_init_12 : decode cX1_init 12 = .ok (.aload_n 0, 1) := by decide +kernel
theorem dX1_init_13 : decode cX1_init 13 = .ok (.bipush 12, 2) := by decide +kernel
theorem dX1_init_15 : decode cX1_init 15 = .ok (.newarray .int, 2) := by decide +kernel
theorem dX1_init_17 : decode cX1_init 17 = .ok (.putfield 15, 3) := by decide +kernel
theorem dX1_init_20 : decode cX1_init 20 = .ok (.aload_n 0, 1) := by decide +kernel
theorem dX1_init_21 : decode cX1_init 21 = .ok (.bipush 12, 2) := by decide +kernel
theorem dX1_init_23 : decode cX1_init 23 = .ok (.newarray .int, 2) := by decide +kernel
theorem dX1_init_25 : decode cX1_init 25 = .ok (.putfield 18, 3) := by decide +kernel
theorem dX1_init_28 : decode cX1_init 28 = .ok (.aload_n 0, 1) := by decide +kernel
theorem dX1_init_29 : decode cX1_init 29 = .ok (.iconst 4, 1) := by decide +kernel
theorem dX1_init_30 : decode cX1_init 30 = .ok (.newarray .int, 2) := by decide +kernel
theorem dX1_init_32 : decode cX1_init 32 = .ok (.putfield 21, 3) := by decide +kernel
theorem dX1_init_35 : decode cX1_init 35 = .ok (.aload_n 0, 1) := by decide +kernel
theorem dX1_init_36 : decode cX1_init 36 = .ok (.bipush 28, 2) := by decide +kernel
theorem dX1_init_38 : decode cX1_init 38 = .ok (.newarray .int, 2) := by decide +kernel
theorem dX1_init_40 : decode cX1_init 40 = .ok (.putfield 24, 3) := by decide +kernel
theorem dX1_init_43 : decode cX1_init 43 = .ok (.aload_n 0, 1) := by decide +kernel
theorem dX1_init_44 : decode cX1_init 44 = .ok (.bipush 28, 2) := by decide +kernel
theorem dX1_init_46 : decode cX1_init 46 = .ok (.newarray .int, 2) := by decide +kernel
theorem dX1_init_48 : decode cX1_init 48 = .ok (.putfield 27, 3) := by decide +kernel
theorem dX1_init_51 : decode cX1_init 51 = .ok (.iconst 0, 1) := by decide +kernel
theorem dX1_init_52 : decode cX1_init 52 = .ok (.istore_n 1, 1) := by decide +kernel
theorem dX1_init_53 : decode cX1_init 53 = .ok (.iload_n 1, 1) := by decide +kernel
theorem dX1_init_54 : decode cX1_init 54 = .ok (.iconst 4, 1) := by decide +kernel
theorem dX1_init_55 : decode cX1_init 55 = .ok (.if_icmp .ge 17, 3) := by decide +kernel
theorem dX1_init_58 : decode cX1_init 58 = .ok (.aload_n 0, 1) := by decide +kernel
theorem dX1_init_59 : decode cX1_init 59 = .ok (.getfield 21, 3) := by decide +kernel
theorem dX1_init_62 : decode cX1_init 62 = .ok (.iload_n 1, 1) := by decide +kernel
theorem dX1_init_63 : decode cX1_init 63 = .ok (.bipush (-9), 2) := by decide +kernel
theorem dX1_init_65 : decode cX1_init 65 = .ok (.iastore, 1) := by decide +kernel
theorem dX1_init_66 : decode cX1_init 66 = .ok (.iinc 1 1, 3) := by decide +kernel
theorem dX1_init_69 : decode cX1_init 69 = .ok (.goto (-16), 3) := by decide +kernel
theorem dX1_init_72 : decode cX1_init 72 = .ok (.iconst 0, 1) := by decide +kernel
theorem dX1_init_73 : decode cX1_init 73 = .ok (.istore_n 1, 1) := by decide +kernel
theorem dX1_init_74 : decode cX1_init 74 = .ok (.iload_n 1, 1) := by decide +kernel
theorem dX1_init_75 : decode cX1_init 75 = .ok (.bipush 28, 2) := by decide +kernel
theorem dX1_init_77 : decode cX1_init 77 = .ok (.if_icmp .ge 24, 3) := by decide +kernel
theorem dX1_init_80 : decode cX1_init 80 = .ok (.aload_n 0, 1) := by decide +kernel
theorem dX1_init_81 : decode cX1_init 81 = .ok (.getfield 24, 3) := by decide +kernel
theorem dX1_init_84 : decode cX1_init 84 = .ok (.iload_n 1, 1) := by decide +kernel
theorem dX1_init_85 : decode cX1_init 85 = .ok (.bipush (-9), 2) := by decide +kernel
theorem dX1_init_87 : decode cX1_init 87 = .ok (.iastore, 1) := by decide +kernel
theorem dX1_init_88 : decode cX1_init 88 = .ok (.aload_n 0, 1) := by decide +kernel
theorem dX1_init_89 : decode cX1_init 89 = .ok (.getfield 27, 3) := by decide +kernel
theorem dX1_init_92 : decode cX1_init 92 = .ok (.iload_n 1, 1) := by decide +kernel
theorem dX1_init_93 : decode cX1_init 93 = .ok (.iconst (-1), 1) := by decide +kernel
theorem dX1_init_94 : decode cX1_init 94 = .ok (.iastore, 1) := by decide +kernel
theorem dX1_init_95 : decode cX1_init 95 = .ok (.iinc 1 1, 3) := by decide +kernel
theorem dX1_init_98 : decode cX1_init 98 = .ok (.goto (-24), 3) := by decide +kernel
theorem dX1_init_101 : decode cX1_init 101 = .ok (.return_, 1) := by decide +kernel
theorem dX1_isLink_0 : decode cX1_isLink 0 = .ok (.iload_n 1, 1) := by decide +kernel
theorem dX1_isLink_1 : decode cX1_isLink 1 = .ok (.ifCond .lt 15, 3) := by decide +kernel
theorem dX1_isLink_4 : decode cX1_isLink 4 = .ok (.iload_n 1, 1) := by decide +kernel
theorem dX1_isLink_5 : decode cX1_isLink 5 = .ok (.aload_n 0, 1) := by decide +kernel
theorem dX1_isLink_6 : decode cX1_isLink 6 = .ok (.getfield 30, 3) := by decide +kernel
theorem dX1_isLink_9 : decode cX1_isLink 9 = .ok (.if_icmp .ge 7, 3) := by decide +kernel
theorem dX1_isLink_12 : decode cX1_isLink 12 = .ok (.iconst 1, 1) := by decide +kernel
theorem dX1_isLink_13 : decode cX1_isLink 13 = .ok (.goto 4, 3) := by decide +kernel
theorem dX1_isLink_16 : decode cX1_isLink 16 = .ok (.iconst 0, 1) := by decide +kernel
theorem dX1_isLink_17 : decode cX1_isLink 17 = .ok (.ireturn, 1) := by decide +kernel
theorem dX1_joined_0 : decode cX1_joined 0 = .ok (.iconst 0, 1) := by decide +kernel
theorem dX1_joined_1 : decode cX1_joined 1 = .ok (.istore_n 3, 1) := by decide +kernel
theorem dX1_joined_2 : decode cX1_joined 2 = .ok (.iload_n 3, 1) := by decide +kernel
theorem dX1_joined_3 : decode cX1_joined 3 = .ok (.aload_n 0, 1) := by decide +kernel
theorem dX1_joined_4 : decode cX1_joined 4 = .ok (.getfield 30, 3) := by decide +kernel
theorem dX1_joined_7 : decode cX1_joined 7 = .ok (.if_icmp .ge 31, 3) := by decide +kernel
theorem dX1_joined_10 : decode cX1_joined 10 = .ok (.aload_n 0, 1) := by decide +kernel
theorem dX1_joined_11 : decode cX1_joined 11 = .ok (.iload_n 3, 1) := by decide +kernel
theorem dX1_joined_12 : decode cX1_joined 12 = .ok (.iload_n 1, 1) := by decide +kernel
theorem dX1_joined_13 : decode cX1_joined 13 = .ok (.invokevirtual 34, 3) := by decide +kernel
theorem dX1_joined_16 : decode cX1_joined 16 = .ok (.iconst (-1), 1) := by decide +kernel
theorem dX1_joined_17 : decode cX1_joined 17 = .ok (.if_icmp .eq 15, 3) := by decide +kernel
theorem dX1_joined_20 : decode cX1_joined 20 = .ok (.aload_n 0, 1) := by decide +kernel
theorem dX1_joined_21 : decode cX1_joined 21 = .ok (.iload_n 3, 1) := by decide +kernel
theorem dX1_joined_22 : decode cX1_joined 22 = .ok (.iload_n 2, 1) := by decide +kernel
theorem dX1_joined_23 : decode cX1_joined 23 = .ok (.invokevirtual 34, 3) := by decide +kernel
theorem dX1_joined_26 : decode cX1_joined 26 = .ok (.iconst (-1), 1) := by decide +kernel
theorem dX1_joined_27 : decode cX1_joined 27 = .ok (.if_icmp .eq 5, 3) := by decide +kernel
theorem dX1_joined_30 : decode cX1_joined 30 = .ok (.iconst 1, 1) := by decide +kernel
theorem dX1_joined_31 : decode cX1_joined 31 = .ok (.ireturn, 1) := by decide +kernel
theorem dX1_joined_32 : decode cX1_joined 32 = .ok (.iinc 3 1, 3) := by decide +kernel
theorem dX1_joined_35 : decode cX1_joined 35 = .ok (.goto (-33), 3) := by decide +kernel
theorem dX1_joined_38 : decode cX1_joined 38 = .ok (.iconst 0, 1) := by decide +kernel
theorem dX1_joined_39 : decode cX1_joined 39 = .ok (.ireturn, 1) := by decide +kernel
theorem dX1_sideAt_0 : decode cX1_sideAt 0 = .ok (.aload_n 0, 1) := by decide +kernel
theorem dX1_sideAt_1 : decode cX1_sideAt 1 = .ok (.getfield 9, 3) := by decide +kernel
theorem dX1_sideAt_4 : decode cX1_sideAt 4 = .ok (.iconst 2, 1) := by decide +kernel
theorem dX1_sideAt_5 : decode cX1_sideAt 5 = .ok (.iload_n 1, 1) := by decide +kernel
theorem dX1_sideAt_6 : decode cX1_sideAt 6 = .ok (.imul, 1) := by decide +kernel
theorem dX1_sideAt_7 : decode cX1_sideAt 7 = .ok (.iaload, 1) := by decide +kernel
theorem dX1_sideAt_8 : decode cX1_sideAt 8 = .ok (.iload_n 2, 1) := by decide +kernel
theorem dX1_sideAt_9 : decode cX1_sideAt 9 = .ok (.if_icmp .ne 7, 3) := by decide +kernel
theorem dX1_sideAt_12 : decode cX1_sideAt 12 = .ok (.iconst 2, 1) := by decide +kernel
theorem dX1_sideAt_13 : decode cX1_sideAt 13 = .ok (.iload_n 1, 1) := by decide +kernel
theorem dX1_sideAt_14 : decode cX1_sideAt 14 = .ok (.imul, 1) := by decide +kernel
theorem dX1_sideAt_15 : decode cX1_sideAt 15 = .ok (.ireturn, 1) := by decide +kernel
theorem dX1_sideAt_16 : decode cX1_sideAt 16 = .ok (.aload_n 0, 1) := by decide +kernel
theorem dX1_sideAt_17 : decode cX1_sideAt 17 = .ok (.getfield 9, 3) := by decide +kernel
theorem dX1_sideAt_20 : decode cX1_sideAt 20 = .ok (.iconst 2, 1) := by decide +kernel
theorem dX1_sideAt_21 : decode cX1_sideAt 21 = .ok (.iload_n 1, 1) := by decide +kernel
theorem dX1_sideAt_22 : decode cX1_sideAt 22 = .ok (.imul, 1) := by decide +kernel
theorem dX1_sideAt_23 : decode cX1_sideAt 23 = .ok (.iconst 1, 1) := by decide +kernel
theorem dX1_sideAt_24 : decode cX1_sideAt 24 = .ok (.iadd, 1) := by decide +kernel
theorem dX1_sideAt_25 : decode cX1_sideAt 25 = .ok (.iaload, 1) := by decide +kernel
theorem dX1_sideAt_26 : decode cX1_sideAt 26 = .ok (.iload_n 2, 1) := by decide +kernel
theorem dX1_sideAt_27 : decode cX1_sideAt 27 = .ok (.if_icmp .ne 11, 3) := by decide +kernel
theorem dX1_sideAt_30 : decode cX1_sideAt 30 = .ok (.iconst 2, 1) := by decide +kernel
theorem dX1_sideAt_31 : decode cX1_sideAt 31 = .ok (.iload_n 1, 1) := by decide +kernel
theorem dX1_sideAt_32 : decode cX1_sideAt 32 = .ok (.imul, 1) := by decide +kernel
theorem dX1_sideAt_33 : decode cX1_sideAt 33 = .ok (.iconst 1, 1) := by decide +kernel
theorem dX1_sideAt_34 : decode cX1_sideAt 34 = .ok (.iadd, 1) := by decide +kernel
theorem dX1_sideAt_35 : decode cX1_sideAt 35 = .ok (.goto 4, 3) := by decide +kernel
theorem dX1_sideAt_38 : decode cX1_sideAt 38 = .ok (.iconst (-1), 1) := by decide +kernel
theorem dX1_sideAt_39 : decode cX1_sideAt 39 = .ok (.ireturn, 1) := by decide +kernel
theorem dX1_addLink_0 : decode cX1_addLink 0 = .ok (.aload_n 0, 1) := by decide +kernel
theorem dX1_addLink_1 : decode cX1_addLink 1 = .ok (.getfield 30, 3) := by decide +kernel
theorem dX1_addLink_4 : decode cX1_addLink 4 = .ok (.istore 4, 2) := by decide +kernel
theorem dX1_addLink_6 : decode cX1_addLink 6 = .ok (.aload_n 0, 1) := by decide +kernel
theorem dX1_addLink_7 : decode cX1_addLink 7 = .ok (.dup, 1) := by decide +kernel
theorem dX1_addLink_8 : decode cX1_addLink 8 = .ok (.getfield 30, 3) := by decide +kernel
theorem dX1_addLink_11 : decode cX1_addLink 11 = .ok (.iconst 1, 1) := by decide +kernel
theorem dX1_addLink_12 : decode cX1_addLink 12 = .ok (.iadd, 1) := by decide +kernel
theorem dX1_addLink_13 : decode cX1_addLink 13 = .ok (.putfield 30, 3) := by decide +kernel
theorem dX1_addLink_16 : decode cX1_addLink 16 = .ok (.aload_n 0, 1) := by decide +kernel
theorem dX1_addLink_17 : decode cX1_addLink 17 = .ok (.getfield 9, 3) := by decide +kernel
theorem dX1_addLink_20 : decode cX1_addLink 20 = .ok (.iconst 2, 1) := by decide +kernel
theorem dX1_addLink_21 : decode cX1_addLink 21 = .ok (.iload 4, 2) := by decide +kernel
theorem dX1_addLink_23 : decode cX1_addLink 23 = .ok (.imul, 1) := by decide +kernel
theorem dX1_addLink_24 : decode cX1_addLink 24 = .ok (.iload_n 1, 1) := by decide +kernel
theorem dX1_addLink_25 : decode cX1_addLink 25 = .ok (.iastore, 1) := by decide +kernel
theorem dX1_addLink_26 : decode cX1_addLink 26 = .ok (.aload_n 0, 1) := by decide +kernel
theorem dX1_addLink_27 : decode cX1_addLink 27 = .ok (.getfield 9, 3) := by decide +kernel
theorem dX1_addLink_30 : decode cX1_addLink 30 = .ok (.iconst 2, 1) := by decide +kernel
theorem dX1_addLink_31 : decode cX1_addLink 31 = .ok (.iload 4, 2) := by decide +kernel
theorem dX1_addLink_33 : decode cX1_addLink 33 = .ok (.imul, 1) := by decide +kernel
theorem dX1_addLink_34 : decode cX1_addLink 34 = .ok (.iconst 1, 1) := by decide +kernel
theorem dX1_addLink_35 : decode cX1_addLink 35 = .ok (.iadd, 1) := by decide +kernel
theorem dX1_addLink_36 : decode cX1_addLink 36 = .ok (.iload_n 2, 1) := by decide +kernel
theorem dX1_addLink_37 : decode cX1_addLink 37 = .ok (.iastore, 1) := by decide +kernel
theorem dX1_addLink_38 : decode cX1_addLink 38 = .ok (.aload_n 0, 1) := by decide +kernel
theorem dX1_addLink_39 : decode cX1_addLink 39 = .ok (.getfield 15, 3) := by decide +kernel
theorem dX1_addLink_42 : decode cX1_addLink 42 = .ok (.iload 4, 2) := by decide +kernel
theorem dX1_addLink_44 : decode cX1_addLink 44 = .ok (.iload_n 3, 1) := by decide +kernel
theorem dX1_addLink_45 : decode cX1_addLink 45 = .ok (.iastore, 1) := by decide +kernel
theorem dX1_addLink_46 : decode cX1_addLink 46 = .ok (.aload_n 0, 1) := by decide +kernel
theorem dX1_addLink_47 : decode cX1_addLink 47 = .ok (.getfield 18, 3) := by decide +kernel
theorem dX1_addLink_50 : decode cX1_addLink 50 = .ok (.iload 4, 2) := by decide +kernel
theorem dX1_addLink_52 : decode cX1_addLink 52 = .ok (.iconst 1, 1) := by decide +kernel
theorem dX1_addLink_53 : decode cX1_addLink 53 = .ok (.iastore, 1) := by decide +kernel
theorem dX1_addLink_54 : decode cX1_addLink 54 = .ok (.aload_n 0, 1) := by decide +kernel
theorem dX1_addLink_55 : decode cX1_addLink 55 = .ok (.invokevirtual 38, 3) := by decide +kernel
theorem dX1_addLink_58 : decode cX1_addLink 58 = .ok (.iload 4, 2) := by decide +kernel
theorem dX1_addLink_60 : decode cX1_addLink 60 = .ok (.ireturn, 1) := by decide +kernel
theorem dX1_setCost_0 : decode cX1_setCost 0 = .ok (.aload_n 0, 1) := by decide +kernel
theorem dX1_setCost_1 : decode cX1_setCost 1 = .ok (.getfield 15, 3) := by decide +kernel
theorem dX1_setCost_4 : decode cX1_setCost 4 = .ok (.iload_n 1, 1) := by decide +kernel
theorem dX1_setCost_5 : decode cX1_setCost 5 = .ok (.iload_n 2, 1) := by decide +kernel
theorem dX1_setCost_6 : decode cX1_setCost 6 = .ok (.iastore, 1) := by decide +kernel
theorem dX1_setCost_7 : decode cX1_setCost 7 = .ok (.aload_n 0, 1) := by decide +kernel
theorem dX1_setCost_8 : decode cX1_setCost 8 = .ok (.invokevirtual 38, 3) := by decide +kernel
theorem dX1_setCost_11 : decode cX1_setCost 11 = .ok (.return_, 1) := by decide +kernel
theorem dX1_setUp_0 : decode cX1_setUp 0 = .ok (.aload_n 0, 1) := by decide +kernel
theorem dX1_setUp_1 : decode cX1_setUp 1 = .ok (.getfield 18, 3) := by decide +kernel
theorem dX1_setUp_4 : decode cX1_setUp 4 = .ok (.iload_n 1, 1) := by decide +kernel
theorem dX1_setUp_5 : decode cX1_setUp 5 = .ok (.iload_n 2, 1) := by decide +kernel
theorem dX1_setUp_6 : decode cX1_setUp 6 = .ok (.iastore, 1) := by decide +kernel
theorem dX1_setUp_7 : decode cX1_setUp 7 = .ok (.aload_n 0, 1) := by decide +kernel
theorem dX1_setUp_8 : decode cX1_setUp 8 = .ok (.invokevirtual 38, 3) := by decide +kernel
theorem dX1_setUp_11 : decode cX1_setUp 11 = .ok (.return_, 1) := by decide +kernel
theorem dX1_setEnd_0 : decode cX1_setEnd 0 = .ok (.aload_n 0, 1) := by decide +kernel
theorem dX1_setEnd_1 : decode cX1_setEnd 1 = .ok (.getfield 21, 3) := by decide +kernel
theorem dX1_setEnd_4 : decode cX1_setEnd 4 = .ok (.iload_n 1, 1) := by decide +kernel
theorem dX1_setEnd_5 : decode cX1_setEnd 5 = .ok (.iload_n 2, 1) := by decide +kernel
theorem dX1_setEnd_6 : decode cX1_setEnd 6 = .ok (.iastore, 1) := by decide +kernel
theorem dX1_setEnd_7 : decode cX1_setEnd 7 = .ok (.aload_n 0, 1) := by decide +kernel
theorem dX1_setEnd_8 : decode cX1_setEnd 8 = .ok (.iload_n 1, 1) := by decide +kernel
theorem dX1_setEnd_9 : decode cX1_setEnd 9 = .ok (.invokevirtual 41, 3) := by decide +kernel
theorem dX1_setEnd_12 : decode cX1_setEnd 12 = .ok (.return_, 1) := by decide +kernel
theorem dX1_nextBox_0 : decode cX1_nextBox 0 = .ok (.aload_n 0, 1) := by decide +kernel
theorem dX1_nextBox_1 : decode cX1_nextBox 1 = .ok (.getfield 27, 3) := by decide +kernel
theorem dX1_nextBox_4 : decode cX1_nextBox 4 = .ok (.iload_n 1, 1) := by decide +kernel
theorem dX1_nextBox_5 : decode cX1_nextBox 5 = .ok (.iload_n 2, 1) := by decide +kernel
theorem dX1_nextBox_6 : decode cX1_nextBox 6 = .ok (.invokestatic 45, 3) := by decide +kernel
theorem dX1_nextBox_9 : decode cX1_nextBox 9 = .ok (.iaload, 1) := by decide +kernel
theorem dX1_nextBox_10 : decode cX1_nextBox 10 = .ok (.istore_n 3, 1) := by decide +kernel
theorem dX1_nextBox_11 : decode cX1_nextBox 11 = .ok (.iload_n 3, 1) := by decide +kernel
theorem dX1_nextBox_12 : decode cX1_nextBox 12 = .ok (.iconst (-1), 1) := by decide +kernel
theorem dX1_nextBox_13 : decode cX1_nextBox 13 = .ok (.if_icmp .ne 8, 3) := by decide +kernel
theorem dX1_nextBox_16 : decode cX1_nextBox 16 = .ok (.bipush (-9), 2) := by decide +kernel
theorem dX1_nextBox_18 : decode cX1_nextBox 18 = .ok (.goto 11, 3) := by decide +kernel
theorem dX1_nextBox_21 : decode cX1_nextBox 21 = .ok (.aload_n 0, 1) := by decide +kernel
theorem dX1_nextBox_22 : decode cX1_nextBox 22 = .ok (.getfield 9, 3) := by decide +kernel
theorem dX1_nextBox_25 : decode cX1_nextBox 25 = .ok (.iload_n 3, 1) := by decide +kernel
theorem dX1_nextBox_26 : decode cX1_nextBox 26 = .ok (.iconst 1, 1) := by decide +kernel
theorem dX1_nextBox_27 : decode cX1_nextBox 27 = .ok (.ixor, 1) := by decide +kernel
theorem dX1_nextBox_28 : decode cX1_nextBox 28 = .ok (.iaload, 1) := by decide +kernel
theorem dX1_nextBox_29 : decode cX1_nextBox 29 = .ok (.ireturn, 1) := by decide +kernel
theorem dX1_isUpSide_0 : decode cX1_isUpSide 0 = .ok (.aload_n 0, 1) := by decide +kernel
theorem dX1_isUpSide_1 : decode cX1_isUpSide 1 = .ok (.getfield 18, 3) := by decide +kernel
theorem dX1_isUpSide_4 : decode cX1_isUpSide 4 = .ok (.iload_n 1, 1) := by decide +kernel
theorem dX1_isUpSide_5 : decode cX1_isUpSide 5 = .ok (.iconst 1, 1) := by decide +kernel
theorem dX1_isUpSide_6 : decode cX1_isUpSide 6 = .ok (.ishr, 1) := by decide +kernel
theorem dX1_isUpSide_7 : decode cX1_isUpSide 7 = .ok (.iaload, 1) := by decide +kernel
theorem dX1_isUpSide_8 : decode cX1_isUpSide 8 = .ok (.iconst 1, 1) := by decide +kernel
theorem dX1_isUpSide_9 : decode cX1_isUpSide 9 = .ok (.if_icmp .ne 7, 3) := by decide +kernel
theorem dX1_isUpSide_12 : decode cX1_isUpSide 12 = .ok (.iconst 1, 1) := by decide +kernel
theorem dX1_isUpSide_13 : decode cX1_isUpSide 13 = .ok (.goto 4, 3) := by decide +kernel
theorem dX1_isUpSide_16 : decode cX1_isUpSide 16 = .ok (.iconst 0, 1) := by decide +kernel
theorem dX1_isUpSide_17 : decode cX1_isUpSide 17 = .ok (.ireturn, 1) := by decide +kernel
theorem dX1_linksUp_0 : decode cX1_linksUp 0 = .ok (.iconst 0, 1) := by decide +kernel
theorem dX1_linksUp_1 : decode cX1_linksUp 1 = .ok (.istore_n 1, 1) := by decide +kernel
theorem dX1_linksUp_2 : decode cX1_linksUp 2 = .ok (.iconst 0, 1) := by decide +kernel
theorem dX1_linksUp_3 : decode cX1_linksUp 3 = .ok (.istore_n 2, 1) := by decide +kernel
theorem dX1_linksUp_4 : decode cX1_linksUp 4 = .ok (.iload_n 2, 1) := by decide +kernel
theorem dX1_linksUp_5 : decode cX1_linksUp 5 = .ok (.aload_n 0, 1) := by decide +kernel
theorem dX1_linksUp_6 : decode cX1_linksUp 6 = .ok (.getfield 30, 3) := by decide +kernel
theorem dX1_linksUp_9 : decode cX1_linksUp 9 = .ok (.if_icmp .ge 18, 3) := by decide +kernel
theorem dX1_linksUp_12 : decode cX1_linksUp 12 = .ok (.iload_n 1, 1) := by decide +kernel
theorem dX1_linksUp_13 : decode cX1_linksUp 13 = .ok (.aload_n 0, 1) := by decide +kernel
theorem dX1_linksUp_14 : decode cX1_linksUp 14 = .ok (.getfield 18, 3) := by decide +kernel
theorem dX1_linksUp_17 : decode cX1_linksUp 17 = .ok (.iload_n 2, 1) := by decide +kernel
theorem dX1_linksUp_18 : decode cX1_linksUp 18 = .ok (.iaload, 1) := by decide +kernel
theorem dX1_linksUp_19 : decode cX1_linksUp 19 = .ok (.iadd, 1) := by decide +kernel
theorem dX1_linksUp_20 : decode cX1_linksUp 20 = .ok (.istore_n 1, 1) := by decide +kernel
theorem dX1_linksUp_21 : decode cX1_linksUp 21 = .ok (.iinc 2 1, 3) := by decide +kernel
theorem dX1_linksUp_24 : decode cX1_linksUp 24 = .ok (.goto (-20), 3) := by decide +kernel
theorem dX1_linksUp_27 : decode cX1_linksUp 27 = .ok (.iload_n 1, 1) := by decide +kernel
theorem dX1_linksUp_28 : decode cX1_linksUp 28 = .ok (.ireturn, 1) := by decide +kernel
theorem dX1_classesWithEnd_0 : decode cX1_classesWithEnd 0 = .ok (.iconst 0, 1) := by decide +kernel
theorem dX1_classesWithEnd_1 : decode cX1_classesWithEnd 1 = .ok (.istore_n 1, 1) := by decide +kernel
theorem dX1_classesWithEnd_2 : decode cX1_classesWithEnd 2 = .ok (.iconst 0, 1) := by decide +kernel
theorem dX1_classesWithEnd_3 : decode cX1_classesWithEnd 3 = .ok (.istore_n 2, 1) := by decide +kernel
theorem dX1_classesWithEnd_4 : decode cX1_classesWithEnd 4 = .ok (.iload_n 2, 1) := by decide +kernel
theorem dX1_classesWithEnd_5 : decode cX1_classesWithEnd 5 = .ok (.iconst 4, 1) := by decide +kernel
theorem dX1_classesWithEnd_6 : decode cX1_classesWithEnd 6 = .ok (.if_icmp .ge 23, 3) := by decide +kernel
theorem dX1_classesWithEnd_9 : decode cX1_classesWithEnd 9 = .ok (.aload_n 0, 1) := by decide +kernel
theorem dX1_classesWithEnd_10 : decode cX1_classesWithEnd 10 = .ok (.getfield 21, 3) := by decide +kernel
theorem dX1_classesWithEnd_13 : decode cX1_classesWithEnd 13 = .ok (.iload_n 2, 1) := by decide +kernel
theorem dX1_classesWithEnd_14 : decode cX1_classesWithEnd 14 = .ok (.iaload, 1) := by decide +kernel
theorem dX1_classesWithEnd_15 : decode cX1_classesWithEnd 15 = .ok (.bipush (-9), 2) := by decide +kernel
theorem dX1_classesWithEnd_17 : decode cX1_classesWithEnd 17 = .ok (.if_icmp .eq 6, 3) := by decide +kernel
theorem dX1_classesWithEnd_20 : decode cX1_classesWithEnd 20 = .ok (.iinc 1 1, 3) := by decide +kernel
theorem dX1_classesWithEnd_23 : decode cX1_classesWithEnd 23 = .ok (.iinc 2 1, 3) := by decide +kernel
theorem dX1_classesWithEnd_26 : decode cX1_classesWithEnd 26 = .ok (.goto (-22), 3) := by decide +kernel
theorem dX1_classesWithEnd_29 : decode cX1_classesWithEnd 29 = .ok (.iload_n 1, 1) := by decide +kernel
theorem dX1_classesWithEnd_30 : decode cX1_classesWithEnd 30 = .ok (.ireturn, 1) := by decide +kernel
theorem dX1_findWays_0 : decode cX1_findWays 0 = .ok (.iconst 0, 1) := by decide +kernel
theorem dX1_findWays_1 : decode cX1_findWays 1 = .ok (.istore_n 1, 1) := by decide +kernel
theorem dX1_findWays_2 : decode cX1_findWays 2 = .ok (.iload_n 1, 1) := by decide +kernel
theorem dX1_findWays_3 : decode cX1_findWays 3 = .ok (.iconst 4, 1) := by decide +kernel
theorem dX1_findWays_4 : decode cX1_findWays 4 = .ok (.if_icmp .ge 14, 3) := by decide +kernel
theorem dX1_findWays_7 : decode cX1_findWays 7 = .ok (.aload_n 0, 1) := by decide +kernel
theorem dX1_findWays_8 : decode cX1_findWays 8 = .ok (.iload_n 1, 1) := by decide +kernel
theorem dX1_findWays_9 : decode cX1_findWays 9 = .ok (.invokevirtual 41, 3) := by decide +kernel
theorem dX1_findWays_12 : decode cX1_findWays 12 = .ok (.iinc 1 1, 3) := by decide +kernel
theorem dX1_findWays_15 : decode cX1_findWays 15 = .ok (.goto (-13), 3) := by decide +kernel
theorem dX1_findWays_18 : decode cX1_findWays 18 = .ok (.return_, 1) := by decide +kernel
theorem dX1_findWaysOf_0 : decode cX1_findWaysOf 0 = .ok (.iconst 0, 1) := by decide +kernel
theorem dX1_findWaysOf_1 : decode cX1_findWaysOf 1 = .ok (.istore_n 2, 1) := by decide +kernel
theorem dX1_findWaysOf_2 : decode cX1_findWaysOf 2 = .ok (.iload_n 2, 1) := by decide +kernel
theorem dX1_findWaysOf_3 : decode cX1_findWaysOf 3 = .ok (.bipush 7, 2) := by decide +kernel
theorem dX1_findWaysOf_5 : decode cX1_findWaysOf 5 = .ok (.if_icmp .ge 35, 3) := by decide +kernel
theorem dX1_findWaysOf_8 : decode cX1_findWaysOf 8 = .ok (.aload_n 0, 1) := by decide +kernel
theorem dX1_findWaysOf_9 : decode cX1_findWaysOf 9 = .ok (.getfield 24, 3) := by decide +kernel
theorem dX1_findWaysOf_12 : decode cX1_findWaysOf 12 = .ok (.iload_n 2, 1) := by decide +kernel
theorem dX1_findWaysOf_13 : decode cX1_findWaysOf 13 = .ok (.iload_n 1, 1) := by decide +kernel
theorem dX1_findWaysOf_14 : decode cX1_findWaysOf 14 = .ok (.invokestatic 45, 3) := by decide +kernel
theorem dX1_findWaysOf_17 : decode cX1_findWaysOf 17 = .ok (.iload_n 2, 1) := by decide +kernel
theorem dX1_findWaysOf_18 : decode cX1_findWaysOf 18 = .ok (.aload_n 0, 1) := by decide +kernel
theorem dX1_findWaysOf_19 : decode cX1_findWaysOf 19 = .ok (.getfield 21, 3) := by decide +kernel
theorem dX1_findWaysOf_22 : decode cX1_findWaysOf 22 = .ok (.iload_n 1, 1) := by decide +kernel
theorem dX1_findWaysOf_23 : decode cX1_findWaysOf 23 = .ok (.iaload, 1) := by decide +kernel
theorem dX1_findWaysOf_24 : decode cX1_findWaysOf 24 = .ok (.if_icmp .ne 7, 3) := by decide +kernel
theorem dX1_findWaysOf_27 : decode cX1_findWaysOf 27 = .ok (.iconst 0, 1) := by decide +kernel
theorem dX1_findWaysOf_28 : decode cX1_findWaysOf 28 = .ok (.goto 5, 3) := by decide +kernel
theorem dX1_findWaysOf_31 : decode cX1_findWaysOf 31 = .ok (.bipush (-9), 2) := by decide +kernel
theorem dX1_findWaysOf_33 : decode cX1_findWaysOf 33 = .ok (.iastore, 1) := by decide +kernel
theorem dX1_findWaysOf_34 : decode cX1_findWaysOf 34 = .ok (.iinc 2 1, 3) := by decide +kernel
theorem dX1_findWaysOf_37 : decode cX1_findWaysOf 37 = .ok (.goto (-35), 3) := by decide +kernel
theorem dX1_findWaysOf_40 : decode cX1_findWaysOf 40 = .ok (.aload_n 0, 1) := by decide +kernel
theorem dX1_findWaysOf_41 : decode cX1_findWaysOf 41 = .ok (.getfield 21, 3) := by decide +kernel
theorem dX1_findWaysOf_44 : decode cX1_findWaysOf 44 = .ok (.iload_n 1, 1) := by decide +kernel
theorem dX1_findWaysOf_45 : decode cX1_findWaysOf 45 = .ok (.iaload, 1) := by decide +kernel
theorem dX1_findWaysOf_46 : decode cX1_findWaysOf 46 = .ok (.bipush (-9), 2) := by decide +kernel
theorem dX1_findWaysOf_48 : decode cX1_findWaysOf 48 = .ok (.if_icmp .eq 7, 3) := by decide +kernel
theorem dX1_findWaysOf_51 : decode cX1_findWaysOf 51 = .ok (.iconst 1, 1) := by decide +kernel
theorem dX1_findWaysOf_52 : decode cX1_findWaysOf 52 = .ok (.goto 4, 3) := by decide +kernel
theorem dX1_findWaysOf_55 : decode cX1_findWaysOf 55 = .ok (.iconst 0, 1) := by decide +kernel
theorem dX1_findWaysOf_56 : decode cX1_findWaysOf 56 = .ok (.istore_n 2, 1) := by decide +kernel
theorem dX1_findWaysOf_57 : decode cX1_findWaysOf 57 = .ok (.iconst 0, 1) := by decide +kernel
theorem dX1_findWaysOf_58 : decode cX1_findWaysOf 58 = .ok (.istore_n 3, 1) := by decide +kernel
theorem dX1_findWaysOf_59 : decode cX1_findWaysOf 59 = .ok (.iload_n 2, 1) := by decide +kernel
theorem dX1_findWaysOf_60 : decode cX1_findWaysOf 60 = .ok (.ifCond .eq 21, 3) := by decide +kernel
theorem dX1_findWaysOf_63 : decode cX1_findWaysOf 63 = .ok (.iload_n 3, 1) := by decide +kernel
theorem dX1_findWaysOf_64 : decode cX1_findWaysOf 64 = .ok (.bipush 7, 2) := by decide +kernel
theorem dX1_findWaysOf_66 : decode cX1_findWaysOf 66 = .ok (.if_icmp .ge 15, 3) := by decide +kernel
theorem dX1_findWaysOf_69 : decode cX1_findWaysOf 69 = .ok (.aload_n 0, 1) := by decide +kernel
theorem dX1_findWaysOf_70 : decode cX1_findWaysOf 70 = .ok (.iload_n 1, 1) := by decide +kernel
theorem dX1_findWaysOf_71 : decode cX1_findWaysOf 71 = .ok (.invokevirtual 48, 3) := by decide +kernel
theorem dX1_findWaysOf_74 : decode cX1_findWaysOf 74 = .ok (.istore_n 2, 1) := by decide +kernel
theorem dX1_findWaysOf_75 : decode cX1_findWaysOf 75 = .ok (.iinc 3 1, 3) := by decide +kernel
theorem dX1_findWaysOf_78 : decode cX1_findWaysOf 78 = .ok (.goto (-19), 3) := by decide +kernel
theorem dX1_findWaysOf_81 : decode cX1_findWaysOf 81 = .ok (.iconst 0, 1) := by decide +kernel
theorem dX1_findWaysOf_82 : decode cX1_findWaysOf 82 = .ok (.istore_n 3, 1) := by decide +kernel
theorem dX1_findWaysOf_83 : decode cX1_findWaysOf 83 = .ok (.iload_n 3, 1) := by decide +kernel
theorem dX1_findWaysOf_84 : decode cX1_findWaysOf 84 = .ok (.bipush 7, 2) := by decide +kernel
theorem dX1_findWaysOf_86 : decode cX1_findWaysOf 86 = .ok (.if_icmp .ge 25, 3) := by decide +kernel
theorem dX1_findWaysOf_89 : decode cX1_findWaysOf 89 = .ok (.aload_n 0, 1) := by decide +kernel
theorem dX1_findWaysOf_90 : decode cX1_findWaysOf 90 = .ok (.getfield 27, 3) := by decide +kernel
theorem dX1_findWaysOf_93 : decode cX1_findWaysOf 93 = .ok (.iload_n 3, 1) := by decide +kernel
theorem dX1_findWaysOf_94 : decode cX1_findWaysOf 94 = .ok (.iload_n 1, 1) := by decide +kernel
theorem dX1_findWaysOf_95 : decode cX1_findWaysOf 95 = .ok (.invokestatic 45, 3) := by decide +kernel
theorem dX1_findWaysOf_98 : decode cX1_findWaysOf 98 = .ok (.aload_n 0, 1) := by decide +kernel
theorem dX1_findWaysOf_99 : decode cX1_findWaysOf 99 = .ok (.iload_n 3, 1) := by decide +kernel
theorem dX1_findWaysOf_100 : decode cX1_findWaysOf 100 = .ok (.iload_n 1, 1) := by decide +kernel
theorem dX1_findWaysOf_101 : decode cX1_findWaysOf 101 = .ok (.invokevirtual 52, 3) := by decide +kernel
theorem dX1_findWaysOf_104 : decode cX1_findWaysOf 104 = .ok (.iastore, 1) := by decide +kernel
theorem dX1_findWaysOf_105 : decode cX1_findWaysOf 105 = .ok (.iinc 3 1, 3) := by decide +kernel
theorem dX1_findWaysOf_108 : decode cX1_findWaysOf 108 = .ok (.goto (-25), 3) := by decide +kernel
theorem dX1_findWaysOf_111 : decode cX1_findWaysOf 111 = .ok (.return_, 1) := by decide +kernel
theorem dX1_shorten_0 : decode cX1_shorten 0 = .ok (.iconst 0, 1) := by decide +kernel
theorem dX1_shorten_1 : decode cX1_shorten 1 = .ok (.istore_n 2, 1) := by decide +kernel
theorem dX1_shorten_2 : decode cX1_shorten 2 = .ok (.iconst 0, 1) := by decide +kernel
theorem dX1_shorten_3 : decode cX1_shorten 3 = .ok (.istore_n 3, 1) := by decide +kernel
theorem dX1_shorten_4 : decode cX1_shorten 4 = .ok (.iload_n 3, 1) := by decide +kernel
theorem dX1_shorten_5 : decode cX1_shorten 5 = .ok (.iconst 2, 1) := by decide +kernel
theorem dX1_shorten_6 : decode cX1_shorten 6 = .ok (.aload_n 0, 1) := by decide +kernel
theorem dX1_shorten_7 : decode cX1_shorten 7 = .ok (.getfield 30, 3) := by decide +kernel
theorem dX1_shorten_10 : decode cX1_shorten 10 = .ok (.imul, 1) := by decide +kernel
theorem dX1_shorten_11 : decode cX1_shorten 11 = .ok (.if_icmp .ge 103, 3) := by decide +kernel
theorem dX1_shorten_14 : decode cX1_shorten 14 = .ok (.aload_n 0, 1) := by decide +kernel
theorem dX1_shorten_15 : decode cX1_shorten 15 = .ok (.getfield 24, 3) := by decide +kernel
theorem dX1_shorten_18 : decode cX1_shorten 18 = .ok (.aload_n 0, 1) := by decide +kernel
theorem dX1_shorten_19 : decode cX1_shorten 19 = .ok (.getfield 9, 3) := by decide +kernel
theorem dX1_shorten_22 : decode cX1_shorten 22 = .ok (.iload_n 3, 1) := by decide +kernel
theorem dX1_shorten_23 : decode cX1_shorten 23 = .ok (.iconst 1, 1) := by decide +kernel
theorem dX1_shorten_24 : decode cX1_shorten 24 = .ok (.ixor, 1) := by decide +kernel
theorem dX1_shorten_25 : decode cX1_shorten 25 = .ok (.iaload, 1) := by decide +kernel
theorem dX1_shorten_26 : decode cX1_shorten 26 = .ok (.iload_n 1, 1) := by decide +kernel
theorem dX1_shorten_27 : decode cX1_shorten 27 = .ok (.invokestatic 45, 3) := by decide +kernel
theorem dX1_shorten_30 : decode cX1_shorten 30 = .ok (.iaload, 1) := by decide +kernel
theorem dX1_shorten_31 : decode cX1_shorten 31 = .ok (.istore 4, 2) := by decide +kernel
theorem dX1_shorten_33 : decode cX1_shorten 33 = .ok (.aload_n 0, 1) := by decide +kernel
theorem dX1_shorten_34 : decode cX1_shorten 34 = .ok (.iload_n 3, 1) := by decide +kernel
theorem dX1_shorten_35 : decode cX1_shorten 35 = .ok (.invokevirtual 55, 3) := by decide +kernel
theorem dX1_shorten_38 : decode cX1_shorten 38 = .ok (.ifCond .eq 70, 3) := by decide +kernel
theorem dX1_shorten_41 : decode cX1_shorten 41 = .ok (.iload 4, 2) := by decide +kernel
theorem dX1_shorten_43 : decode cX1_shorten 43 = .ok (.bipush (-9), 2) := by decide +kernel
theorem dX1_shorten_45 : decode cX1_shorten 45 = .ok (.if_icmp .eq 63, 3) := by decide +kernel
theorem dX1_shorten_48 : decode cX1_shorten 48 = .ok (.aload_n 0, 1) := by decide +kernel
theorem dX1_shorten_49 : decode cX1_shorten 49 = .ok (.getfield 9, 3) := by decide +kernel
theorem dX1_shorten_52 : decode cX1_shorten 52 = .ok (.iload_n 3, 1) := by decide +kernel
theorem dX1_shorten_53 : decode cX1_shorten 53 = .ok (.iaload, 1) := by decide +kernel
theorem dX1_shorten_54 : decode cX1_shorten 54 = .ok (.iload_n 1, 1) := by decide +kernel
theorem dX1_shorten_55 : decode cX1_shorten 55 = .ok (.invokestatic 45, 3) := by decide +kernel
theorem dX1_shorten_58 : decode cX1_shorten 58 = .ok (.istore 5, 2) := by decide +kernel
theorem dX1_shorten_60 : decode cX1_shorten 60 = .ok (.iload 4, 2) := by decide +kernel
theorem dX1_shorten_62 : decode cX1_shorten 62 = .ok (.aload_n 0, 1) := by decide +kernel
theorem dX1_shorten_63 : decode cX1_shorten 63 = .ok (.getfield 15, 3) := by decide +kernel
theorem dX1_shorten_66 : decode cX1_shorten 66 = .ok (.iload_n 3, 1) := by decide +kernel
theorem dX1_shorten_67 : decode cX1_shorten 67 = .ok (.iconst 1, 1) := by decide +kernel
theorem dX1_shorten_68 : decode cX1_shorten 68 = .ok (.ishr, 1) := by decide +kernel
theorem dX1_shorten_69 : decode cX1_shorten 69 = .ok (.iaload, 1) := by decide +kernel
theorem dX1_shorten_70 : decode cX1_shorten 70 = .ok (.iadd, 1) := by decide +kernel
theorem dX1_shorten_71 : decode cX1_shorten 71 = .ok (.istore 6, 2) := by decide +kernel
theorem dX1_shorten_73 : decode cX1_shorten 73 = .ok (.aload_n 0, 1) := by decide +kernel
theorem dX1_shorten_74 : decode cX1_shorten 74 = .ok (.getfield 24, 3) := by decide +kernel
theorem dX1_shorten_77 : decode cX1_shorten 77 = .ok (.iload 5, 2) := by decide +kernel
theorem dX1_shorten_79 : decode cX1_shorten 79 = .ok (.iaload, 1) := by decide +kernel
theorem dX1_shorten_80 : decode cX1_shorten 80 = .ok (.bipush (-9), 2) := by decide +kernel
end
section
theorem dX1_shorten_82 : decode cX1_shorten 82 = .ok (.if_icmp .eq 15, 3) := by decide +kernel
theorem dX1_shorten_85 : decode cX1_shorten 85 = .ok (.iload 6, 2) := by decide +kernel
theorem dX1_shorten_87 : decode cX1_shorten 87 = .ok (.aload_n 0, 1) := by decide +kernel
theorem dX1_shorten_88 : decode cX1_shorten 88 = .ok (.getfield 24, 3) := by decide +kernel
theorem dX1_shorten_91 : decode cX1_shorten 91 = .ok (.iload 5, 2) := by decide +kernel
theorem dX1_shorten_93 : decode cX1_shorten 93 = .ok (.iaload, 1) := by decide +kernel
theorem dX1_shorten_94 : decode cX1_shorten 94 = .ok (.if_icmp .ge 14, 3) := by decide +kernel
theorem dX1_shorten_97 : decode cX1_shorten 97 = .ok (.aload_n 0, 1) := by decide +kernel
theorem dX1_shorten_98 : decode cX1_shorten 98 = .ok (.getfield 24, 3) := by decide +kernel
theorem dX1_shorten_101 : decode cX1_shorten 101 = .ok (.iload 5, 2) := by decide +kernel
theorem dX1_shorten_103 : decode cX1_shorten 103 = .ok (.iload 6, 2) := by decide +kernel
theorem dX1_shorten_105 : decode cX1_shorten 105 = .ok (.iastore, 1) := by decide +kernel
theorem dX1_shorten_106 : decode cX1_shorten 106 = .ok (.iconst 1, 1) := by decide +kernel
theorem dX1_shorten_107 : decode cX1_shorten 107 = .ok (.istore_n 2, 1) := by decide +kernel
theorem dX1_shorten_108 : decode cX1_shorten 108 = .ok (.iinc 3 1, 3) := by decide +kernel
theorem dX1_shorten_111 : decode cX1_shorten 111 = .ok (.goto (-107), 3) := by decide +kernel
theorem dX1_shorten_114 : decode cX1_shorten 114 = .ok (.iload_n 2, 1) := by decide +kernel
theorem dX1_shorten_115 : decode cX1_shorten 115 = .ok (.ireturn, 1) := by decide +kernel
theorem dX1_findNextSide_0 : decode cX1_findNextSide 0 = .ok (.iload_n 1, 1) := by decide +kernel
theorem dX1_findNextSide_1 : decode cX1_findNextSide 1 = .ok (.aload_n 0, 1) := by decide +kernel
theorem dX1_findNextSide_2 : decode cX1_findNextSide 2 = .ok (.getfield 21, 3) := by decide +kernel
theorem dX1_findNextSide_5 : decode cX1_findNextSide 5 = .ok (.iload_n 2, 1) := by decide +kernel
theorem dX1_findNextSide_6 : decode cX1_findNextSide 6 = .ok (.iaload, 1) := by decide +kernel
theorem dX1_findNextSide_7 : decode cX1_findNextSide 7 = .ok (.if_icmp .eq 18, 3) := by decide +kernel
theorem dX1_findNextSide_10 : decode cX1_findNextSide 10 = .ok (.aload_n 0, 1) := by decide +kernel
theorem dX1_findNextSide_11 : decode cX1_findNextSide 11 = .ok (.getfield 24, 3) := by decide +kernel
theorem dX1_findNextSide_14 : decode cX1_findNextSide 14 = .ok (.iload_n 1, 1) := by decide +kernel
theorem dX1_findNextSide_15 : decode cX1_findNextSide 15 = .ok (.iload_n 2, 1) := by decide +kernel
theorem dX1_findNextSide_16 : decode cX1_findNextSide 16 = .ok (.invokestatic 45, 3) := by decide +kernel
theorem dX1_findNextSide_19 : decode cX1_findNextSide 19 = .ok (.iaload, 1) := by decide +kernel
theorem dX1_findNextSide_20 : decode cX1_findNextSide 20 = .ok (.bipush (-9), 2) := by decide +kernel
theorem dX1_findNextSide_22 : decode cX1_findNextSide 22 = .ok (.if_icmp .ne 5, 3) := by decide +kernel
theorem dX1_findNextSide_25 : decode cX1_findNextSide 25 = .ok (.iconst (-1), 1) := by decide +kernel
theorem dX1_findNextSide_26 : decode cX1_findNextSide 26 = .ok (.ireturn, 1) := by decide +kernel
theorem dX1_findNextSide_27 : decode cX1_findNextSide 27 = .ok (.iconst (-1), 1) := by decide +kernel
theorem dX1_findNextSide_28 : decode cX1_findNextSide 28 = .ok (.istore_n 3, 1) := by decide +kernel
theorem dX1_findNextSide_29 : decode cX1_findNextSide 29 = .ok (.iconst 0, 1) := by decide +kernel
theorem dX1_findNextSide_30 : decode cX1_findNextSide 30 = .ok (.istore 4, 2) := by decide +kernel
theorem dX1_findNextSide_32 : decode cX1_findNextSide 32 = .ok (.iload 4, 2) := by decide +kernel
theorem dX1_findNextSide_34 : decode cX1_findNextSide 34 = .ok (.iconst 2, 1) := by decide +kernel
theorem dX1_findNextSide_35 : decode cX1_findNextSide 35 = .ok (.aload_n 0, 1) := by decide +kernel
theorem dX1_findNextSide_36 : decode cX1_findNextSide 36 = .ok (.getfield 30, 3) := by decide +kernel
theorem dX1_findNextSide_39 : decode cX1_findNextSide 39 = .ok (.imul, 1) := by decide +kernel
theorem dX1_findNextSide_40 : decode cX1_findNextSide 40 = .ok (.if_icmp .ge 58, 3) := by decide +kernel
theorem dX1_findNextSide_43 : decode cX1_findNextSide 43 = .ok (.aload_n 0, 1) := by decide +kernel
theorem dX1_findNextSide_44 : decode cX1_findNextSide 44 = .ok (.getfield 9, 3) := by decide +kernel
theorem dX1_findNextSide_47 : decode cX1_findNextSide 47 = .ok (.iload 4, 2) := by decide +kernel
theorem dX1_findNextSide_49 : decode cX1_findNextSide 49 = .ok (.iaload, 1) := by decide +kernel
theorem dX1_findNextSide_50 : decode cX1_findNextSide 50 = .ok (.iload_n 1, 1) := by decide +kernel
theorem dX1_findNextSide_51 : decode cX1_findNextSide 51 = .ok (.if_icmp .ne 41, 3) := by decide +kernel
theorem dX1_findNextSide_54 : decode cX1_findNextSide 54 = .ok (.aload_n 0, 1) := by decide +kernel
theorem dX1_findNextSide_55 : decode cX1_findNextSide 55 = .ok (.iload 4, 2) := by decide +kernel
theorem dX1_findNextSide_57 : decode cX1_findNextSide 57 = .ok (.iload_n 2, 1) := by decide +kernel
theorem dX1_findNextSide_58 : decode cX1_findNextSide 58 = .ok (.invokevirtual 58, 3) := by decide +kernel
theorem dX1_findNextSide_61 : decode cX1_findNextSide 61 = .ok (.ifCond .eq 31, 3) := by decide +kernel
theorem dX1_findNextSide_64 : decode cX1_findNextSide 64 = .ok (.iload_n 3, 1) := by decide +kernel
theorem dX1_findNextSide_65 : decode cX1_findNextSide 65 = .ok (.iconst (-1), 1) := by decide +kernel
theorem dX1_findNextSide_66 : decode cX1_findNextSide 66 = .ok (.if_icmp .eq 23, 3) := by decide +kernel
theorem dX1_findNextSide_69 : decode cX1_findNextSide 69 = .ok (.aload_n 0, 1) := by decide +kernel
theorem dX1_findNextSide_70 : decode cX1_findNextSide 70 = .ok (.getfield 9, 3) := by decide +kernel
theorem dX1_findNextSide_73 : decode cX1_findNextSide 73 = .ok (.iload 4, 2) := by decide +kernel
theorem dX1_findNextSide_75 : decode cX1_findNextSide 75 = .ok (.iconst 1, 1) := by decide +kernel
theorem dX1_findNextSide_76 : decode cX1_findNextSide 76 = .ok (.ixor, 1) := by decide +kernel
theorem dX1_findNextSide_77 : decode cX1_findNextSide 77 = .ok (.iaload, 1) := by decide +kernel
theorem dX1_findNextSide_78 : decode cX1_findNextSide 78 = .ok (.aload_n 0, 1) := by decide +kernel
theorem dX1_findNextSide_79 : decode cX1_findNextSide 79 = .ok (.getfield 9, 3) := by decide +kernel
theorem dX1_findNextSide_82 : decode cX1_findNextSide 82 = .ok (.iload_n 3, 1) := by decide +kernel
theorem dX1_findNextSide_83 : decode cX1_findNextSide 83 = .ok (.iconst 1, 1) := by decide +kernel
theorem dX1_findNextSide_84 : decode cX1_findNextSide 84 = .ok (.ixor, 1) := by decide +kernel
theorem dX1_findNextSide_85 : decode cX1_findNextSide 85 = .ok (.iaload, 1) := by decide +kernel
theorem dX1_findNextSide_86 : decode cX1_findNextSide 86 = .ok (.if_icmp .ge 6, 3) := by decide +kernel
theorem dX1_findNextSide_89 : decode cX1_findNextSide 89 = .ok (.iload 4, 2) := by decide +kernel
theorem dX1_findNextSide_91 : decode cX1_findNextSide 91 = .ok (.istore_n 3, 1) := by decide +kernel
theorem dX1_findNextSide_92 : decode cX1_findNextSide 92 = .ok (.iinc 4 1, 3) := by decide +kernel
theorem dX1_findNextSide_95 : decode cX1_findNextSide 95 = .ok (.goto (-63), 3) := by decide +kernel
theorem dX1_findNextSide_98 : decode cX1_findNextSide 98 = .ok (.iload_n 3, 1) := by decide +kernel
theorem dX1_findNextSide_99 : decode cX1_findNextSide 99 = .ok (.ireturn, 1) := by decide +kernel
theorem dX1_leadsOn_0 : decode cX1_leadsOn 0 = .ok (.aload_n 0, 1) := by decide +kernel
theorem dX1_leadsOn_1 : decode cX1_leadsOn 1 = .ok (.getfield 24, 3) := by decide +kernel
theorem dX1_leadsOn_4 : decode cX1_leadsOn 4 = .ok (.aload_n 0, 1) := by decide +kernel
theorem dX1_leadsOn_5 : decode cX1_leadsOn 5 = .ok (.getfield 9, 3) := by decide +kernel
theorem dX1_leadsOn_8 : decode cX1_leadsOn 8 = .ok (.iload_n 1, 1) := by decide +kernel
theorem dX1_leadsOn_9 : decode cX1_leadsOn 9 = .ok (.iconst 1, 1) := by decide +kernel
theorem dX1_leadsOn_10 : decode cX1_leadsOn 10 = .ok (.ixor, 1) := by decide +kernel
theorem dX1_leadsOn_11 : decode cX1_leadsOn 11 = .ok (.iaload, 1) := by decide +kernel
theorem dX1_leadsOn_12 : decode cX1_leadsOn 12 = .ok (.iload_n 2, 1) := by decide +kernel
theorem dX1_leadsOn_13 : decode cX1_leadsOn 13 = .ok (.invokestatic 45, 3) := by decide +kernel
theorem dX1_leadsOn_16 : decode cX1_leadsOn 16 = .ok (.iaload, 1) := by decide +kernel
theorem dX1_leadsOn_17 : decode cX1_leadsOn 17 = .ok (.istore_n 3, 1) := by decide +kernel
theorem dX1_leadsOn_18 : decode cX1_leadsOn 18 = .ok (.aload_n 0, 1) := by decide +kernel
theorem dX1_leadsOn_19 : decode cX1_leadsOn 19 = .ok (.iload_n 1, 1) := by decide +kernel
theorem dX1_leadsOn_20 : decode cX1_leadsOn 20 = .ok (.invokevirtual 55, 3) := by decide +kernel
theorem dX1_leadsOn_23 : decode cX1_leadsOn 23 = .ok (.ifCond .eq 41, 3) := by decide +kernel
theorem dX1_leadsOn_26 : decode cX1_leadsOn 26 = .ok (.iload_n 3, 1) := by decide +kernel
theorem dX1_leadsOn_27 : decode cX1_leadsOn 27 = .ok (.bipush (-9), 2) := by decide +kernel
theorem dX1_leadsOn_29 : decode cX1_leadsOn 29 = .ok (.if_icmp .eq 35, 3) := by decide +kernel
theorem dX1_leadsOn_32 : decode cX1_leadsOn 32 = .ok (.iload_n 3, 1) := by decide +kernel
theorem dX1_leadsOn_33 : decode cX1_leadsOn 33 = .ok (.aload_n 0, 1) := by decide +kernel
theorem dX1_leadsOn_34 : decode cX1_leadsOn 34 = .ok (.getfield 15, 3) := by decide +kernel
theorem dX1_leadsOn_37 : decode cX1_leadsOn 37 = .ok (.iload_n 1, 1) := by decide +kernel
theorem dX1_leadsOn_38 : decode cX1_leadsOn 38 = .ok (.iconst 1, 1) := by decide +kernel
theorem dX1_leadsOn_39 : decode cX1_leadsOn 39 = .ok (.ishr, 1) := by decide +kernel
theorem dX1_leadsOn_40 : decode cX1_leadsOn 40 = .ok (.iaload, 1) := by decide +kernel
theorem dX1_leadsOn_41 : decode cX1_leadsOn 41 = .ok (.iadd, 1) := by decide +kernel
theorem dX1_leadsOn_42 : decode cX1_leadsOn 42 = .ok (.aload_n 0, 1) := by decide +kernel
theorem dX1_leadsOn_43 : decode cX1_leadsOn 43 = .ok (.getfield 24, 3) := by decide +kernel
theorem dX1_leadsOn_46 : decode cX1_leadsOn 46 = .ok (.aload_n 0, 1) := by decide +kernel
theorem dX1_leadsOn_47 : decode cX1_leadsOn 47 = .ok (.getfield 9, 3) := by decide +kernel
theorem dX1_leadsOn_50 : decode cX1_leadsOn 50 = .ok (.iload_n 1, 1) := by decide +kernel
theorem dX1_leadsOn_51 : decode cX1_leadsOn 51 = .ok (.iaload, 1) := by decide +kernel
theorem dX1_leadsOn_52 : decode cX1_leadsOn 52 = .ok (.iload_n 2, 1) := by decide +kernel
theorem dX1_leadsOn_53 : decode cX1_leadsOn 53 = .ok (.invokestatic 45, 3) := by decide +kernel
theorem dX1_leadsOn_56 : decode cX1_leadsOn 56 = .ok (.iaload, 1) := by decide +kernel
theorem dX1_leadsOn_57 : decode cX1_leadsOn 57 = .ok (.if_icmp .ne 7, 3) := by decide +kernel
theorem dX1_leadsOn_60 : decode cX1_leadsOn 60 = .ok (.iconst 1, 1) := by decide +kernel
theorem dX1_leadsOn_61 : decode cX1_leadsOn 61 = .ok (.goto 4, 3) := by decide +kernel
theorem dX1_leadsOn_64 : decode cX1_leadsOn 64 = .ok (.iconst 0, 1) := by decide +kernel
theorem dX1_leadsOn_65 : decode cX1_leadsOn 65 = .ok (.ireturn, 1) := by decide +kernel
theorem dX2_init_0 : decode cX2_init 0 = .ok (.aload_n 0, 1) := by decide +kernel
theorem dX2_init_1 : decode cX2_init 1 = .ok (.invokespecial 3, 3) := by decide +kernel
theorem dX2_init_4 : decode cX2_init 4 = .ok (.aload_n 0, 1) := by decide +kernel
theorem dX2_init_5 : decode cX2_init 5 = .ok (.bipush 15, 2) := by decide +kernel
theorem dX2_init_7 : decode cX2_init 7 = .ok (.newarray .int, 2) := by decide +kernel
theorem dX2_init_9 : decode cX2_init 9 = .ok (.putfield 9, 3) := by decide +kernel
theorem dX2_init_12 : decode cX2_init 12 = .ok (.aload_n 0, 1) := by decide +kernel
theorem dX2_init_13 : decode cX2_init 13 = .ok (.bipush 15, 2) := by decide +kernel
theorem dX2_init_15 : decode cX2_init 15 = .ok (.newarray .int, 2) := by decide +kernel
theorem dX2_init_17 : decode cX2_init 17 = .ok (.putfield 15, 3) := by decide +kernel
theorem dX2_init_20 : decode cX2_init 20 = .ok (.aload_n 0, 1) := by decide +kernel
theorem dX2_init_21 : decode cX2_init 21 = .ok (.aload_n 1, 1) := by decide +kernel
theorem dX2_init_22 : decode cX2_init 22 = .ok (.putfield 18, 3) := by decide +kernel
theorem dX2_init_25 : decode cX2_init 25 = .ok (.aload_n 0, 1) := by decide +kernel
theorem dX2_init_26 : decode cX2_init 26 = .ok (.aload_n 2, 1) := by decide +kernel
theorem dX2_init_27 : decode cX2_init 27 = .ok (.putfield 22, 3) := by decide +kernel
theorem dX2_init_30 : decode cX2_init 30 = .ok (.return_, 1) := by decide +kernel
theorem dX2_walk_0 : decode cX2_walk 0 = .ok (.iload_n 1, 1) := by decide +kernel
theorem dX2_walk_1 : decode cX2_walk 1 = .ok (.istore_n 3, 1) := by decide +kernel
theorem dX2_walk_2 : decode cX2_walk 2 = .ok (.iconst 0, 1) := by decide +kernel
theorem dX2_walk_3 : decode cX2_walk 3 = .ok (.istore 4, 2) := by decide +kernel
theorem dX2_walk_5 : decode cX2_walk 5 = .ok (.iconst (-1), 1) := by decide +kernel
theorem dX2_walk_6 : decode cX2_walk 6 = .ok (.istore 5, 2) := by decide +kernel
theorem dX2_walk_8 : decode cX2_walk 8 = .ok (.iconst 0, 1) := by decide +kernel
theorem dX2_walk_9 : decode cX2_walk 9 = .ok (.istore 6, 2) := by decide +kernel
theorem dX2_walk_11 : decode cX2_walk 11 = .ok (.iload 6, 2) := by decide +kernel
theorem dX2_walk_13 : decode cX2_walk 13 = .ok (.bipush 14, 2) := by decide +kernel
theorem dX2_walk_15 : decode cX2_walk 15 = .ok (.if_icmp .gt 166, 3) := by decide +kernel
theorem dX2_walk_18 : decode cX2_walk 18 = .ok (.aload_n 0, 1) := by decide +kernel
theorem dX2_walk_19 : decode cX2_walk 19 = .ok (.getfield 9, 3) := by decide +kernel
theorem dX2_walk_22 : decode cX2_walk 22 = .ok (.iload 6, 2) := by decide +kernel
theorem dX2_walk_24 : decode cX2_walk 24 = .ok (.iload_n 3, 1) := by decide +kernel
theorem dX2_walk_25 : decode cX2_walk 25 = .ok (.iastore, 1) := by decide +kernel
theorem dX2_walk_26 : decode cX2_walk 26 = .ok (.aload_n 0, 1) := by decide +kernel
theorem dX2_walk_27 : decode cX2_walk 27 = .ok (.getfield 15, 3) := by decide +kernel
theorem dX2_walk_30 : decode cX2_walk 30 = .ok (.iload 6, 2) := by decide +kernel
theorem dX2_walk_32 : decode cX2_walk 32 = .ok (.iload 4, 2) := by decide +kernel
theorem dX2_walk_34 : decode cX2_walk 34 = .ok (.iastore, 1) := by decide +kernel
theorem dX2_walk_35 : decode cX2_walk 35 = .ok (.aload_n 0, 1) := by decide +kernel
theorem dX2_walk_36 : decode cX2_walk 36 = .ok (.iload 6, 2) := by decide +kernel
theorem dX2_walk_38 : decode cX2_walk 38 = .ok (.iconst 1, 1) := by decide +kernel
theorem dX2_walk_39 : decode cX2_walk 39 = .ok (.iadd, 1) := by decide +kernel
theorem dX2_walk_40 : decode cX2_walk 40 = .ok (.putfield 26, 3) := by decide +kernel
theorem dX2_walk_43 : decode cX2_walk 43 = .ok (.iload 4, 2) := by decide +kernel
theorem dX2_walk_45 : decode cX2_walk 45 = .ok (.ifCond .ne 7, 3) := by decide +kernel
theorem dX2_walk_48 : decode cX2_walk 48 = .ok (.iload_n 2, 1) := by decide +kernel
theorem dX2_walk_49 : decode cX2_walk 49 = .ok (.goto 15, 3) := by decide +kernel
theorem dX2_walk_52 : decode cX2_walk 52 = .ok (.aload_n 0, 1) := by decide +kernel
theorem dX2_walk_53 : decode cX2_walk 53 = .ok (.getfield 22, 3) := by decide +kernel
theorem dX2_walk_56 : decode cX2_walk 56 = .ok (.iload_n 3, 1) := by decide +kernel
theorem dX2_walk_57 : decode cX2_walk 57 = .ok (.iload 5, 2) := by decide +kernel
theorem dX2_walk_59 : decode cX2_walk 59 = .ok (.iload 4, 2) := by decide +kernel
theorem dX2_walk_61 : decode cX2_walk 61 = .ok (.invokevirtual 30, 3) := by decide +kernel
theorem dX2_walk_64 : decode cX2_walk 64 = .ok (.istore 7, 2) := by decide +kernel
theorem dX2_walk_66 : decode cX2_walk 66 = .ok (.iload 7, 2) := by decide +kernel
theorem dX2_walk_68 : decode cX2_walk 68 = .ok (.iconst (-1), 1) := by decide +kernel
theorem dX2_walk_69 : decode cX2_walk 69 = .ok (.if_icmp .ne 5, 3) := by decide +kernel
theorem dX2_walk_72 : decode cX2_walk 72 = .ok (.iconst 2, 1) := by decide +kernel
theorem dX2_walk_73 : decode cX2_walk 73 = .ok (.ireturn, 1) := by decide +kernel
theorem dX2_walk_74 : decode cX2_walk 74 = .ok (.aload_n 0, 1) := by decide +kernel
theorem dX2_walk_75 : decode cX2_walk 75 = .ok (.getfield 18, 3) := by decide +kernel
theorem dX2_walk_78 : decode cX2_walk 78 = .ok (.getfield 36, 3) := by decide +kernel
theorem dX2_walk_81 : decode cX2_walk 81 = .ok (.iload 7, 2) := by decide +kernel
theorem dX2_walk_83 : decode cX2_walk 83 = .ok (.iaload, 1) := by decide +kernel
theorem dX2_walk_84 : decode cX2_walk 84 = .ok (.iload_n 3, 1) := by decide +kernel
theorem dX2_walk_85 : decode cX2_walk 85 = .ok (.if_icmp .ne 5, 3) := by decide +kernel
theorem dX2_walk_88 : decode cX2_walk 88 = .ok (.iconst 0, 1) := by decide +kernel
theorem dX2_walk_89 : decode cX2_walk 89 = .ok (.ireturn, 1) := by decide +kernel
theorem dX2_walk_90 : decode cX2_walk 90 = .ok (.aload_n 0, 1) := by decide +kernel
theorem dX2_walk_91 : decode cX2_walk 91 = .ok (.getfield 18, 3) := by decide +kernel
theorem dX2_walk_94 : decode cX2_walk 94 = .ok (.getfield 41, 3) := by decide +kernel
theorem dX2_walk_97 : decode cX2_walk 97 = .ok (.iload_n 3, 1) := by decide +kernel
theorem dX2_walk_98 : decode cX2_walk 98 = .ok (.iload 7, 2) := by decide +kernel
theorem dX2_walk_100 : decode cX2_walk 100 = .ok (.invokestatic 44, 3) := by decide +kernel
theorem dX2_walk_103 : decode cX2_walk 103 = .ok (.iaload, 1) := by decide +kernel
theorem dX2_walk_104 : decode cX2_walk 104 = .ok (.istore 8, 2) := by decide +kernel
theorem dX2_walk_106 : decode cX2_walk 106 = .ok (.iload 8, 2) := by decide +kernel
theorem dX2_walk_108 : decode cX2_walk 108 = .ok (.iconst (-1), 1) := by decide +kernel
theorem dX2_walk_109 : decode cX2_walk 109 = .ok (.if_icmp .ne 5, 3) := by decide +kernel
theorem dX2_walk_112 : decode cX2_walk 112 = .ok (.iconst 1, 1) := by decide +kernel
theorem dX2_walk_113 : decode cX2_walk 113 = .ok (.ireturn, 1) := by decide +kernel
theorem dX2_walk_114 : decode cX2_walk 114 = .ok (.aload_n 0, 1) := by decide +kernel
theorem dX2_walk_115 : decode cX2_walk 115 = .ok (.getfield 22, 3) := by decide +kernel
theorem dX2_walk_118 : decode cX2_walk 118 = .ok (.iload_n 3, 1) := by decide +kernel
theorem dX2_walk_119 : decode cX2_walk 119 = .ok (.iload 7, 2) := by decide +kernel
theorem dX2_walk_121 : decode cX2_walk 121 = .ok (.invokevirtual 48, 3) := by decide +kernel
theorem dX2_walk_124 : decode cX2_walk 124 = .ok (.istore 9, 2) := by decide +kernel
theorem dX2_walk_126 : decode cX2_walk 126 = .ok (.iload 9, 2) := by decide +kernel
theorem dX2_walk_128 : decode cX2_walk 128 = .ok (.ifCond .ne 10, 3) := by decide +kernel
theorem dX2_walk_131 : decode cX2_walk 131 = .ok (.iload 4, 2) := by decide +kernel
theorem dX2_walk_133 : decode cX2_walk 133 = .ok (.ifCond .eq 5, 3) := by decide +kernel
theorem dX2_walk_136 : decode cX2_walk 136 = .ok (.iconst 3, 1) := by decide +kernel
theorem dX2_walk_137 : decode cX2_walk 137 = .ok (.ireturn, 1) := by decide +kernel
theorem dX2_walk_138 : decode cX2_walk 138 = .ok (.iload 9, 2) := by decide +kernel
theorem dX2_walk_140 : decode cX2_walk 140 = .ok (.invokestatic 51, 3) := by decide +kernel
theorem dX2_walk_143 : decode cX2_walk 143 = .ok (.iconst 3, 1) := by decide +kernel
theorem dX2_walk_144 : decode cX2_walk 144 = .ok (.if_icmp .ne 7, 3) := by decide +kernel
theorem dX2_walk_147 : decode cX2_walk 147 = .ok (.iconst 0, 1) := by decide +kernel
theorem dX2_walk_148 : decode cX2_walk 148 = .ok (.goto 8, 3) := by decide +kernel
theorem dX2_walk_151 : decode cX2_walk 151 = .ok (.iload 9, 2) := by decide +kernel
theorem dX2_walk_153 : decode cX2_walk 153 = .ok (.invokestatic 51, 3) := by decide +kernel
theorem dX2_walk_156 : decode cX2_walk 156 = .ok (.istore 4, 2) := by decide +kernel
theorem dX2_walk_158 : decode cX2_walk 158 = .ok (.iload 8, 2) := by decide +kernel
theorem dX2_walk_160 : decode cX2_walk 160 = .ok (.iconst 1, 1) := by decide +kernel
theorem dX2_walk_161 : decode cX2_walk 161 = .ok (.ixor, 1) := by decide +kernel
theorem dX2_walk_162 : decode cX2_walk 162 = .ok (.istore 5, 2) := by decide +kernel
theorem dX2_walk_164 : decode cX2_walk 164 = .ok (.aload_n 0, 1) := by decide +kernel
theorem dX2_walk_165 : decode cX2_walk 165 = .ok (.getfield 18, 3) := by decide +kernel
theorem dX2_walk_168 : decode cX2_walk 168 = .ok (.getfield 55, 3) := by decide +kernel
theorem dX2_walk_171 : decode cX2_walk 171 = .ok (.iload 5, 2) := by decide +kernel
theorem dX2_walk_173 : decode cX2_walk 173 = .ok (.iaload, 1) := by decide +kernel
theorem dX2_walk_174 : decode cX2_walk 174 = .ok (.istore_n 3, 1) := by decide +kernel
theorem dX2_walk_175 : decode cX2_walk 175 = .ok (.iinc 6 1, 3) := by decide +kernel
theorem dX2_walk_178 : decode cX2_walk 178 = .ok (.goto (-167), 3) := by decide +kernel
theorem dX2_walk_181 : decode cX2_walk 181 = .ok (.iconst 4, 1) := by decide +kernel
theorem dX2_walk_182 : decode cX2_walk 182 = .ok (.ireturn, 1) := by decide +kernel
theorem dX2_labelledBetween_0 : decode cX2_labelledBetween 0 = .ok (.iconst 1, 1) := by decide +kernel
theorem dX2_labelledBetween_1 : decode cX2_labelledBetween 1 = .ok (.istore_n 1, 1) := by decide +kernel
theorem dX2_labelledBetween_2 : decode cX2_labelledBetween 2 = .ok (.iload_n 1, 1) := by decide +kernel
theorem dX2_labelledBetween_3 : decode cX2_labelledBetween 3 = .ok (.aload_n 0, 1) := by decide +kernel
theorem dX2_labelledBetween_4 : decode cX2_labelledBetween 4 = .ok (.getfield 26, 3) := by decide +kernel
theorem dX2_labelledBetween_7 : decode cX2_labelledBetween 7 = .ok (.iconst 1, 1) := by decide +kernel
theorem dX2_labelledBetween_8 : decode cX2_labelledBetween 8 = .ok (.isub, 1) := by decide +kernel
theorem dX2_labelledBetween_9 : decode cX2_labelledBetween 9 = .ok (.if_icmp .ge 20, 3) := by decide +kernel
theorem dX2_labelledBetween_12 : decode cX2_labelledBetween 12 = .ok (.aload_n 0, 1) := by decide +kernel
theorem dX2_labelledBetween_13 : decode cX2_labelledBetween 13 = .ok (.getfield 15, 3) := by decide +kernel
theorem dX2_labelledBetween_16 : decode cX2_labelledBetween 16 = .ok (.iload_n 1, 1) := by decide +kernel
theorem dX2_labelledBetween_17 : decode cX2_labelledBetween 17 = .ok (.iaload, 1) := by decide +kernel
theorem dX2_labelledBetween_18 : decode cX2_labelledBetween 18 = .ok (.ifCond .ne 5, 3) := by decide +kernel
theorem dX2_labelledBetween_21 : decode cX2_labelledBetween 21 = .ok (.iconst 0, 1) := by decide +kernel
theorem dX2_labelledBetween_22 : decode cX2_labelledBetween 22 = .ok (.ireturn, 1) := by decide +kernel
theorem dX2_labelledBetween_23 : decode cX2_labelledBetween 23 = .ok (.iinc 1 1, 3) := by decide +kernel
theorem dX2_labelledBetween_26 : decode cX2_labelledBetween 26 = .ok (.goto (-24), 3) := by decide +kernel
theorem dX2_labelledBetween_29 : decode cX2_labelledBetween 29 = .ok (.iconst 1, 1) := by decide +kernel
theorem dX2_labelledBetween_30 : decode cX2_labelledBetween 30 = .ok (.ireturn, 1) := by decide +kernel
theorem dX3_init_0 : decode cX3_init 0 = .ok (.aload_n 0, 1) := by decide +kernel
theorem dX3_init_1 : decode cX3_init 1 = .ok (.invokespecial 3, 3) := by decide +kernel
theorem dX3_init_4 : decode cX3_init 4 = .ok (.aload_n 0, 1) := by decide +kernel
theorem dX3_init_5 : decode cX3_init 5 = .ok (.new 9, 3) := by decide +kernel
theorem dX3_init_8 : decode cX3_init 8 = .ok (.dup, 1) := by decide +kernel
theorem dX3_init_9 : decode cX3_init 9 = .ok (.invokespecial 11, 3) := by decide +kernel
theorem dX3_init_12 : decode cX3_init 12 = .ok (.putfield 12, 3) := by decide +kernel
theorem dX3_init_15 : decode cX3_init 15 = .ok (.aload_n 0, 1) := by decide +kernel
theorem dX3_init_16 : decode cX3_init 16 = .ok (.new 16, 3) := by decide +kernel
theorem dX3_init_19 : decode cX3_init 19 = .ok (.dup, 1) := by decide +kernel
theorem dX3_init_20 : decode cX3_init 20 = .ok (.aload_n 0, 1) := by decide +kernel
theorem dX3_init_21 : decode cX3_init 21 = .ok (.getfield 12, 3) := by decide +kernel
theorem dX3_init_24 : decode cX3_init 24 = .ok (.invokespecial 18, 3) := by decide +kernel
theorem dX3_init_27 : decode cX3_init 27 = .ok (.putfield 21, 3) := by decide +kernel
theorem dX3_init_30 : decode cX3_init 30 = .ok (.aload_n 0, 1) := by decide +kernel
theorem dX3_init_31 : decode cX3_init 31 = .ok (.new 25, 3) := by decide +kernel
theorem dX3_init_34 : decode cX3_init 34 = .ok (.dup, 1) := by decide +kernel
theorem dX3_init_35 : decode cX3_init 35 = .ok (.aload_n 0, 1) := by decide +kernel
theorem dX3_init_36 : decode cX3_init 36 = .ok (.getfield 12, 3) := by decide +kernel
theorem dX3_init_39 : decode cX3_init 39 = .ok (.aload_n 0, 1) := by decide +kernel
theorem dX3_init_40 : decode cX3_init 40 = .ok (.getfield 21, 3) := by decide +kernel
theorem dX3_init_43 : decode cX3_init 43 = .ok (.invokespecial 27, 3) := by decide +kernel
theorem dX3_init_46 : decode cX3_init 46 = .ok (.putfield 30, 3) := by decide +kernel
theorem dX3_init_49 : decode cX3_init 49 = .ok (.aload_n 0, 1) := by decide +kernel
theorem dX3_init_50 : decode cX3_init 50 = .ok (.new 25, 3) := by decide +kernel
theorem dX3_init_53 : decode cX3_init 53 = .ok (.dup, 1) := by decide +kernel
theorem dX3_init_54 : decode cX3_init 54 = .ok (.aload_n 0, 1) := by decide +kernel
theorem dX3_init_55 : decode cX3_init 55 = .ok (.getfield 12, 3) := by decide +kernel
theorem dX3_init_58 : decode cX3_init 58 = .ok (.aload_n 0, 1) := by decide +kernel
theorem dX3_init_59 : decode cX3_init 59 = .ok (.getfield 21, 3) := by decide +kernel
theorem dX3_init_62 : decode cX3_init 62 = .ok (.invokespecial 27, 3) := by decide +kernel
theorem dX3_init_65 : decode cX3_init 65 = .ok (.putfield 34, 3) := by decide +kernel
theorem dX3_init_68 : decode cX3_init 68 = .ok (.return_, 1) := by decide +kernel
theorem dX3_link_0 : decode cX3_link 0 = .ok (.iload_n 1, 1) := by decide +kernel
theorem dX3_link_1 : decode cX3_link 1 = .ok (.invokestatic 37, 3) := by decide +kernel
theorem dX3_link_4 : decode cX3_link 4 = .ok (.ifCond .eq 10, 3) := by decide +kernel
theorem dX3_link_7 : decode cX3_link 7 = .ok (.iload_n 2, 1) := by decide +kernel
theorem dX3_link_8 : decode cX3_link 8 = .ok (.invokestatic 37, 3) := by decide +kernel
theorem dX3_link_11 : decode cX3_link 11 = .ok (.ifCond .ne 5, 3) := by decide +kernel
theorem dX3_link_14 : decode cX3_link 14 = .ok (.iconst (-1), 1) := by decide +kernel
theorem dX3_link_15 : decode cX3_link 15 = .ok (.ireturn, 1) := by decide +kernel
theorem dX3_link_16 : decode cX3_link 16 = .ok (.iload_n 3, 1) := by decide +kernel
theorem dX3_link_17 : decode cX3_link 17 = .ok (.invokestatic 41, 3) := by decide +kernel
theorem dX3_link_20 : decode cX3_link 20 = .ok (.ifCond .ne 6, 3) := by decide +kernel
theorem dX3_link_23 : decode cX3_link 23 = .ok (.bipush (-2), 2) := by decide +kernel
theorem dX3_link_25 : decode cX3_link 25 = .ok (.ireturn, 1) := by decide +kernel
theorem dX3_link_26 : decode cX3_link 26 = .ok (.iload_n 1, 1) := by decide +kernel
theorem dX3_link_27 : decode cX3_link 27 = .ok (.iload_n 2, 1) := by decide +kernel
theorem dX3_link_28 : decode cX3_link 28 = .ok (.if_icmp .eq 15, 3) := by decide +kernel
theorem dX3_link_31 : decode cX3_link 31 = .ok (.aload_n 0, 1) := by decide +kernel
theorem dX3_link_32 : decode cX3_link 32 = .ok (.getfield 12, 3) := by decide +kernel
theorem dX3_link_35 : decode cX3_link 35 = .ok (.iload_n 1, 1) := by decide +kernel
theorem dX3_link_36 : decode cX3_link 36 = .ok (.iload_n 2, 1) := by decide +kernel
theorem dX3_link_37 : decode cX3_link 37 = .ok (.invokevirtual 44, 3) := by decide +kernel
theorem dX3_link_40 : decode cX3_link 40 = .ok (.ifCond .eq 6, 3) := by decide +kernel
theorem dX3_link_43 : decode cX3_link 43 = .ok (.bipush (-3), 2) := by decide +kernel
theorem dX3_link_45 : decode cX3_link 45 = .ok (.ireturn, 1) := by decide +kernel
theorem dX3_link_46 : decode cX3_link 46 = .ok (.aload_n 0, 1) := by decide +kernel
theorem dX3_link_47 : decode cX3_link 47 = .ok (.getfield 12, 3) := by decide +kernel
theorem dX3_link_50 : decode cX3_link 50 = .ok (.getfield 48, 3) := by decide +kernel
theorem dX3_link_53 : decode cX3_link 53 = .ok (.bipush 12, 2) := by decide +kernel
theorem dX3_link_55 : decode cX3_link 55 = .ok (.if_icmp .lt 6, 3) := by decide +kernel
theorem dX3_link_58 : decode cX3_link 58 = .ok (.bipush (-4), 2) := by decide +kernel
theorem dX3_link_60 : decode cX3_link 60 = .ok (.ireturn, 1) := by decide +kernel
theorem dX3_link_61 : decode cX3_link 61 = .ok (.aload_n 0, 1) := by decide +kernel
theorem dX3_link_62 : decode cX3_link 62 = .ok (.getfield 12, 3) := by decide +kernel
theorem dX3_link_65 : decode cX3_link 65 = .ok (.iload_n 1, 1) := by decide +kernel
theorem dX3_link_66 : decode cX3_link 66 = .ok (.iload_n 2, 1) := by decide +kernel
theorem dX3_link_67 : decode cX3_link 67 = .ok (.invokestatic 52, 3) := by decide +kernel
theorem dX3_link_70 : decode cX3_link 70 = .ok (.iload_n 1, 1) := by decide +kernel
theorem dX3_link_71 : decode cX3_link 71 = .ok (.iload_n 2, 1) := by decide +kernel
theorem dX3_link_72 : decode cX3_link 72 = .ok (.invokestatic 58, 3) := by decide +kernel
theorem dX3_link_75 : decode cX3_link 75 = .ok (.iload_n 3, 1) := by decide +kernel
theorem dX3_link_76 : decode cX3_link 76 = .ok (.invokevirtual 61, 3) := by decide +kernel
theorem dX3_link_79 : decode cX3_link 79 = .ok (.ireturn, 1) := by decide +kernel
theorem dX3_cost_0 : decode cX3_cost 0 = .ok (.aload_n 0, 1) := by decide +kernel
theorem dX3_cost_1 : decode cX3_cost 1 = .ok (.getfield 12, 3) := by decide +kernel
theorem dX3_cost_4 : decode cX3_cost 4 = .ok (.iload_n 1, 1) := by decide +kernel
theorem dX3_cost_5 : decode cX3_cost 5 = .ok (.invokevirtual 65, 3) := by decide +kernel
theorem dX3_cost_8 : decode cX3_cost 8 = .ok (.ifCond .ne 5, 3) := by decide +kernel
theorem dX3_cost_11 : decode cX3_cost 11 = .ok (.iconst (-1), 1) := by decide +kernel
theorem dX3_cost_12 : decode cX3_cost 12 = .ok (.ireturn, 1) := by decide +kernel
theorem dX3_cost_13 : decode cX3_cost 13 = .ok (.iload_n 2, 1) := by decide +kernel
theorem dX3_cost_14 : decode cX3_cost 14 = .ok (.invokestatic 41, 3) := by decide +kernel
theorem dX3_cost_17 : decode cX3_cost 17 = .ok (.ifCond .ne 6, 3) := by decide +kernel
theorem dX3_cost_20 : decode cX3_cost 20 = .ok (.bipush (-2), 2) := by decide +kernel
theorem dX3_cost_22 : decode cX3_cost 22 = .ok (.ireturn, 1) := by decide +kernel
theorem dX3_cost_23 : decode cX3_cost 23 = .ok (.aload_n 0, 1) := by decide +kernel
theorem dX3_cost_24 : decode cX3_cost 24 = .ok (.getfield 12, 3) := by decide +kernel
theorem dX3_cost_27 : decode cX3_cost 27 = .ok (.getfield 68, 3) := by decide +kernel
theorem dX3_cost_30 : decode cX3_cost 30 = .ok (.iload_n 1, 1) := by decide +kernel
theorem dX3_cost_31 : decode cX3_cost 31 = .ok (.iaload, 1) := by decide +kernel
theorem dX3_cost_32 : decode cX3_cost 32 = .ok (.istore_n 3, 1) := by decide +kernel
theorem dX3_cost_33 : decode cX3_cost 33 = .ok (.aload_n 0, 1) := by decide +kernel
theorem dX3_cost_34 : decode cX3_cost 34 = .ok (.getfield 12, 3) := by decide +kernel
theorem dX3_cost_37 : decode cX3_cost 37 = .ok (.iload_n 1, 1) := by decide +kernel
theorem dX3_cost_38 : decode cX3_cost 38 = .ok (.iload_n 2, 1) := by decide +kernel
theorem dX3_cost_39 : decode cX3_cost 39 = .ok (.invokevirtual 72, 3) := by decide +kernel
theorem dX3_cost_42 : decode cX3_cost 42 = .ok (.iload_n 3, 1) := by decide +kernel
theorem dX3_cost_43 : decode cX3_cost 43 = .ok (.ireturn, 1) := by decide +kernel
theorem dX3_up_0 : decode cX3_up 0 = .ok (.aload_n 0, 1) := by decide +kernel
theorem dX3_up_1 : decode cX3_up 1 = .ok (.getfield 12, 3) := by decide +kernel
theorem dX3_up_4 : decode cX3_up 4 = .ok (.iload_n 1, 1) := by decide +kernel
theorem dX3_up_5 : decode cX3_up 5 = .ok (.invokevirtual 65, 3) := by decide +kernel
theorem dX3_up_8 : decode cX3_up 8 = .ok (.ifCond .ne 5, 3) := by decide +kernel
theorem dX3_up_11 : decode cX3_up 11 = .ok (.iconst (-1), 1) := by decide +kernel
theorem dX3_up_12 : decode cX3_up 12 = .ok (.ireturn, 1) := by decide +kernel
theorem dX3_up_13 : decode cX3_up 13 = .ok (.iload_n 2, 1) := by decide +kernel
theorem dX3_up_14 : decode cX3_up 14 = .ok (.invokestatic 76, 3) := by decide +kernel
theorem dX3_up_17 : decode cX3_up 17 = .ok (.ifCond .ne 6, 3) := by decide +kernel
theorem dX3_up_20 : decode cX3_up 20 = .ok (.bipush (-2), 2) := by decide +kernel
theorem dX3_up_22 : decode cX3_up 22 = .ok (.ireturn, 1) := by decide +kernel
theorem dX3_up_23 : decode cX3_up 23 = .ok (.aload_n 0, 1) := by decide +kernel
theorem dX3_up_24 : decode cX3_up 24 = .ok (.getfield 12, 3) := by decide +kernel
theorem dX3_up_27 : decode cX3_up 27 = .ok (.getfield 79, 3) := by decide +kernel
theorem dX3_up_30 : decode cX3_up 30 = .ok (.iload_n 1, 1) := by decide +kernel
theorem dX3_up_31 : decode cX3_up 31 = .ok (.iaload, 1) := by decide +kernel
theorem dX3_up_32 : decode cX3_up 32 = .ok (.istore_n 3, 1) := by decide +kernel
theorem dX3_up_33 : decode cX3_up 33 = .ok (.aload_n 0, 1) := by decide +kernel
theorem dX3_up_34 : decode cX3_up 34 = .ok (.getfield 12, 3) := by decide +kernel
theorem dX3_up_37 : decode cX3_up 37 = .ok (.iload_n 1, 1) := by decide +kernel
theorem dX3_up_38 : decode cX3_up 38 = .ok (.iload_n 2, 1) := by decide +kernel
theorem dX3_up_39 : decode cX3_up 39 = .ok (.invokevirtual 82, 3) := by decide +kernel
theorem dX3_up_42 : decode cX3_up 42 = .ok (.iload_n 2, 1) := by decide +kernel
theorem dX3_up_43 : decode cX3_up 43 = .ok (.ifCond .ne 11, 3) := by decide +kernel
theorem dX3_up_46 : decode cX3_up 46 = .ok (.aload_n 0, 1) := by decide +kernel
theorem dX3_up_47 : decode cX3_up 47 = .ok (.getfield 21, 3) := by decide +kernel
theorem dX3_up_50 : decode cX3_up 50 = .ok (.iload_n 1, 1) := by decide +kernel
theorem dX3_up_51 : decode cX3_up 51 = .ok (.invokevirtual 85, 3) := by decide +kernel
theorem dX3_up_54 : decode cX3_up 54 = .ok (.iload_n 3, 1) := by decide +kernel
theorem dX3_up_55 : decode cX3_up 55 = .ok (.ireturn, 1) := by decide +kernel
theorem dX3_end_0 : decode cX3_end 0 = .ok (.iload_n 1, 1) := by decide +kernel
theorem dX3_end_1 : decode cX3_end 1 = .ok (.invokestatic 89, 3) := by decide +kernel
theorem dX3_end_4 : decode cX3_end 4 = .ok (.ifCond .ne 5, 3) := by decide +kernel
theorem dX3_end_7 : decode cX3_end 7 = .ok (.iconst (-1), 1) := by decide +kernel
theorem dX3_end_8 : decode cX3_end 8 = .ok (.ireturn, 1) := by decide +kernel
theorem dX3_end_9 : decode cX3_end 9 = .ok (.iload_n 2, 1) := by decide +kernel
theorem dX3_end_10 : decode cX3_end 10 = .ok (.invokestatic 37, 3) := by decide +kernel
theorem dX3_end_13 : decode cX3_end 13 = .ok (.ifCond .ne 12, 3) := by decide +kernel
theorem dX3_end_16 : decode cX3_end 16 = .ok (.iload_n 2, 1) := by decide +kernel
theorem dX3_end_17 : decode cX3_end 17 = .ok (.bipush (-9), 2) := by decide +kernel
theorem dX3_end_19 : decode cX3_end 19 = .ok (.if_icmp .eq 6, 3) := by decide +kernel
theorem dX3_end_22 : decode cX3_end 22 = .ok (.bipush (-2), 2) := by decide +kernel
theorem dX3_end_24 : decode cX3_end 24 = .ok (.ireturn, 1) := by decide +kernel
theorem dX3_end_25 : decode cX3_end 25 = .ok (.aload_n 0, 1) := by decide +kernel
theorem dX3_end_26 : decode cX3_end 26 = .ok (.getfield 12, 3) := by decide +kernel
theorem dX3_end_29 : decode cX3_end 29 = .ok (.getfield 92, 3) := by decide +kernel
theorem dX3_end_32 : decode cX3_end 32 = .ok (.iload_n 1, 1) := by decide +kernel
theorem dX3_end_33 : decode cX3_end 33 = .ok (.iaload, 1) := by decide +kernel
theorem dX3_end_34 : decode cX3_end 34 = .ok (.istore_n 3, 1) := by decide +kernel
theorem dX3_end_35 : decode cX3_end 35 = .ok (.aload_n 0, 1) := by decide +kernel
theorem dX3_end_36 : decode cX3_end 36 = .ok (.getfield 12, 3) := by decide +kernel
theorem dX3_end_39 : decode cX3_end 39 = .ok (.iload_n 1, 1) := by decide +kernel
theorem dX3_end_40 : decode cX3_end 40 = .ok (.iload_n 2, 1) := by decide +kernel
theorem dX3_end_41 : decode cX3_end 41 = .ok (.invokevirtual 95, 3) := by decide +kernel
theorem dX3_end_44 : decode cX3_end 44 = .ok (.iload_n 3, 1) := by decide +kernel
theorem dX3_end_45 : decode cX3_end 45 = .ok (.ireturn, 1) := by decide +kernel
theorem dX3_ofLink_0 : decode cX3_ofLink 0 = .ok (.aload_n 0, 1) := by decide +kernel
theorem dX3_ofLink_1 : decode cX3_ofLink 1 = .ok (.getfield 12, 3) := by decide +kernel
theorem dX3_ofLink_4 : decode cX3_ofLink 4 = .ok (.iload_n 1, 1) := by decide +kernel
theorem dX3_ofLink_5 : decode cX3_ofLink 5 = .ok (.invokevirtual 65, 3) := by decide +kernel
theorem dX3_ofLink_8 : decode cX3_ofLink 8 = .ok (.ifCond .ne 5, 3) := by decide +kernel
theorem dX3_ofLink_11 : decode cX3_ofLink 11 = .ok (.iconst (-1), 1) := by decide +kernel
theorem dX3_ofLink_12 : decode cX3_ofLink 12 = .ok (.ireturn, 1) := by decide +kernel
theorem dX3_ofLink_13 : decode cX3_ofLink 13 = .ok (.iload_n 2, 1) := by decide +kernel
theorem dX3_ofLink_14 : decode cX3_ofLink 14 = .ok (.tableswitch 76 0 3 #[30, 42, 56, 66], 30) := by decide +kernel
theorem dX3_ofLink_44 : decode cX3_ofLink 44 = .ok (.aload_n 0, 1) := by decide +kernel
theorem dX3_ofLink_45 : decode cX3_ofLink 45 = .ok (.getfield 12, 3) := by decide +kernel
theorem dX3_ofLink_48 : decode cX3_ofLink 48 = .ok (.getfield 98, 3) := by decide +kernel
theorem dX3_ofLink_51 : decode cX3_ofLink 51 = .ok (.iconst 2, 1) := by decide +kernel
theorem dX3_ofLink_52 : decode cX3_ofLink 52 = .ok (.iload_n 1, 1) := by decide +kernel
theorem dX3_ofLink_53 : decode cX3_ofLink 53 = .ok (.imul, 1) := by decide +kernel
theorem dX3_ofLink_54 : decode cX3_ofLink 54 = .ok (.iaload, 1) := by decide +kernel
theorem dX3_ofLink_55 : decode cX3_ofLink 55 = .ok (.ireturn, 1) := by decide +kernel
theorem dX3_ofLink_56 : decode cX3_ofLink 56 = .ok (.aload_n 0, 1) := by decide +kernel
theorem dX3_ofLink_57 : decode cX3_ofLink 57 = .ok (.getfield 12, 3) := by decide +kernel
theorem dX3_ofLink_60 : decode cX3_ofLink 60 = .ok (.getfield 98, 3) := by decide +kernel
theorem dX3_ofLink_63 : decode cX3_ofLink 63 = .ok (.iconst 2, 1) := by decide +kernel
theorem dX3_ofLink_64 : decode cX3_ofLink 64 = .ok (.iload_n 1, 1) := by decide +kernel
theorem dX3_ofLink_65 : decode cX3_ofLink 65 = .ok (.imul, 1) := by decide +kernel
theorem dX3_ofLink_66 : decode cX3_ofLink 66 = .ok (.iconst 1, 1) := by decide +kernel
theorem dX3_ofLink_67 : decode cX3_ofLink 67 = .ok (.iadd, 1) := by decide +kernel
theorem dX3_ofLink_68 : decode cX3_ofLink 68 = .ok (.iaload, 1) := by decide +kernel
theorem dX3_ofLink_69 : decode cX3_ofLink 69 = .ok (.ireturn, 1) := by decide +kernel
theorem dX3_ofLink_70 : decode cX3_ofLink 70 = .ok (.aload_n 0, 1) := by decide +kernel
theorem dX3_ofLink_71 : decode cX3_ofLink 71 = .ok (.getfield 12, 3) := by decide +kernel
theorem dX3_ofLink_74 : decode cX3_ofLink 74 = .ok (.getfield 68, 3) := by decide +kernel
theorem dX3_ofLink_77 : decode cX3_ofLink 77 = .ok (.iload_n 1, 1) := by decide +kernel
theorem dX3_ofLink_78 : decode cX3_ofLink 78 = .ok (.iaload, 1) := by decide +kernel
theorem dX3_ofLink_79 : decode cX3_ofLink 79 = .ok (.ireturn, 1) := by decide +kernel
theorem dX3_ofLink_80 : decode cX3_ofLink 80 = .ok (.aload_n 0, 1) := by decide +kernel
theorem dX3_ofLink_81 : decode cX3_ofLink 81 = .ok (.getfield 12, 3) := by decide +kernel
theorem dX3_ofLink_84 : decode cX3_ofLink 84 = .ok (.getfield 79, 3) := by decide +kernel
theorem dX3_ofLink_87 : decode cX3_ofLink 87 = .ok (.iload_n 1, 1) := by decide +kernel
theorem dX3_ofLink_88 : decode cX3_ofLink 88 = .ok (.iaload, 1) := by decide +kernel
theorem dX3_ofLink_89 : decode cX3_ofLink 89 = .ok (.ireturn, 1) := by decide +kernel
theorem dX3_ofLink_90 : decode cX3_ofLink 90 = .ok (.bipush (-2), 2) := by decide +kernel
theorem dX3_ofLink_92 : decode cX3_ofLink 92 = .ok (.ireturn, 1) := by decide +kernel
theorem dX3_next_0 : decode cX3_next 0 = .ok (.iload_n 1, 1) := by decide +kernel
theorem dX3_next_1 : decode cX3_next 1 = .ok (.invokestatic 37, 3) := by decide +kernel
theorem dX3_next_4 : decode cX3_next 4 = .ok (.ifCond .eq 10, 3) := by decide +kernel
theorem dX3_next_7 : decode cX3_next 7 = .ok (.iload_n 2, 1) := by decide +kernel
theorem dX3_next_8 : decode cX3_next 8 = .ok (.invokestatic 89, 3) := by decide +kernel
theorem dX3_next_11 : decode cX3_next 11 = .ok (.ifCond .ne 5, 3) := by decide +kernel
theorem dX3_next_14 : decode cX3_next 14 = .ok (.iconst (-1), 1) := by decide +kernel
theorem dX3_next_15 : decode cX3_next 15 = .ok (.ireturn, 1) := by decide +kernel
theorem dX3_next_16 : decode cX3_next 16 = .ok (.aload_n 0, 1) := by decide +kernel
theorem dX3_next_17 : decode cX3_next 17 = .ok (.getfield 12, 3) := by decide +kernel
theorem dX3_next_20 : decode cX3_next 20 = .ok (.iload_n 1, 1) := by decide +kernel
theorem dX3_next_21 : decode cX3_next 21 = .ok (.iload_n 2, 1) := by decide +kernel
theorem dX3_next_22 : decode cX3_next 22 = .ok (.invokevirtual 101, 3) := by decide +kernel
theorem dX3_next_25 : decode cX3_next 25 = .ok (.ireturn, 1) := by decide +kernel
theorem dX3_far_0 : decode cX3_far 0 = .ok (.iload_n 1, 1) := by decide +kernel
theorem dX3_far_1 : decode cX3_far 1 = .ok (.invokestatic 37, 3) := by decide +kernel
theorem dX3_far_4 : decode cX3_far 4 = .ok (.ifCond .eq 10, 3) := by decide +kernel
theorem dX3_far_7 : decode cX3_far 7 = .ok (.iload_n 2, 1) := by decide +kernel
theorem dX3_far_8 : decode cX3_far 8 = .ok (.invokestatic 89, 3) := by decide +kernel
theorem dX3_far_11 : decode cX3_far 11 = .ok (.ifCond .ne 5, 3) := by decide +kernel
theorem dX3_far_14 : decode cX3_far 14 = .ok (.iconst (-1), 1) := by decide +kernel
theorem dX3_far_15 : decode cX3_far 15 = .ok (.ireturn, 1) := by decide +kernel
theorem dX3_far_16 : decode cX3_far 16 = .ok (.aload_n 0, 1) := by decide +kernel
theorem dX3_far_17 : decode cX3_far 17 = .ok (.getfield 12, 3) := by decide +kernel
theorem dX3_far_20 : decode cX3_far 20 = .ok (.getfield 104, 3) := by decide +kernel
theorem dX3_far_23 : decode cX3_far 23 = .ok (.iload_n 1, 1) := by decide +kernel
theorem dX3_far_24 : decode cX3_far 24 = .ok (.iload_n 2, 1) := by decide +kernel
theorem dX3_far_25 : decode cX3_far 25 = .ok (.invokestatic 107, 3) := by decide +kernel
theorem dX3_far_28 : decode cX3_far 28 = .ok (.iaload, 1) := by decide +kernel
theorem dX3_far_29 : decode cX3_far 29 = .ok (.ireturn, 1) := by decide +kernel
theorem dX3_mode_0 : decode cX3_mode 0 = .ok (.iload_n 1, 1) := by decide +kernel
theorem dX3_mode_1 : decode cX3_mode 1 = .ok (.invokestatic 37, 3) := by decide +kernel
theorem dX3_mode_4 : decode cX3_mode 4 = .ok (.ifCond .ne 5, 3) := by decide +kernel
theorem dX3_mode_7 : decode cX3_mode 7 = .ok (.iconst (-1), 1) := by decide +kernel
theorem dX3_mode_8 : decode cX3_mode 8 = .ok (.ireturn, 1) := by decide +kernel
theorem dX3_mode_9 : decode cX3_mode 9 = .ok (.iload_n 2, 1) := by decide +kernel
theorem dX3_mode_10 : decode cX3_mode 10 = .ok (.ifCond .lt 15, 3) := by decide +kernel
theorem dX3_mode_13 : decode cX3_mode 13 = .ok (.iload_n 2, 1) := by decide +kernel
theorem dX3_mode_14 : decode cX3_mode 14 = .ok (.iconst 4, 1) := by decide +kernel
theorem dX3_mode_15 : decode cX3_mode 15 = .ok (.if_icmp .ge 10, 3) := by decide +kernel
theorem dX3_mode_18 : decode cX3_mode 18 = .ok (.iload_n 3, 1) := by decide +kernel
theorem dX3_mode_19 : decode cX3_mode 19 = .ok (.invokestatic 76, 3) := by decide +kernel
theorem dX3_mode_22 : decode cX3_mode 22 = .ok (.ifCond .ne 6, 3) := by decide +kernel
theorem dX3_mode_25 : decode cX3_mode 25 = .ok (.bipush (-2), 2) := by decide +kernel
theorem dX3_mode_27 : decode cX3_mode 27 = .ok (.ireturn, 1) := by decide +kernel
theorem dX3_mode_28 : decode cX3_mode 28 = .ok (.aload_n 0, 1) := by decide +kernel
theorem dX3_mode_29 : decode cX3_mode 29 = .ok (.getfield 21, 3) := by decide +kernel
theorem dX3_mode_32 : decode cX3_mode 32 = .ok (.iload_n 1, 1) := by decide +kernel
theorem dX3_mode_33 : decode cX3_mode 33 = .ok (.iload_n 2, 1) := by decide +kernel
theorem dX3_mode_34 : decode cX3_mode 34 = .ok (.iload_n 3, 1) := by decide +kernel
theorem dX3_mode_35 : decode cX3_mode 35 = .ok (.invokevirtual 110, 3) := by decide +kernel
theorem dX3_mode_38 : decode cX3_mode 38 = .ok (.ireturn, 1) := by decide +kernel
theorem dX3_setting_0 : decode cX3_setting 0 = .ok (.iload_n 1, 1) := by decide +kernel
theorem dX3_setting_1 : decode cX3_setting 1 = .ok (.ifCond .ne 28, 3) := by decide +kernel
theorem dX3_setting_4 : decode cX3_setting 4 = .ok (.iload_n 2, 1) := by decide +kernel
theorem dX3_setting_5 : decode cX3_setting 5 = .ok (.invokestatic 76, 3) := by decide +kernel
theorem dX3_setting_8 : decode cX3_setting 8 = .ok (.ifCond .eq 21, 3) := by decide +kernel
theorem dX3_setting_11 : decode cX3_setting 11 = .ok (.aload_n 0, 1) := by decide +kernel
theorem dX3_setting_12 : decode cX3_setting 12 = .ok (.getfield 21, 3) := by decide +kernel
theorem dX3_setting_15 : decode cX3_setting 15 = .ok (.getfield 113, 3) := by decide +kernel
theorem dX3_setting_18 : decode cX3_setting 18 = .ok (.istore_n 3, 1) := by decide +kernel
theorem dX3_setting_19 : decode cX3_setting 19 = .ok (.aload_n 0, 1) := by decide +kernel
theorem dX3_setting_20 : decode cX3_setting 20 = .ok (.getfield 21, 3) := by decide +kernel
theorem dX3_setting_23 : decode cX3_setting 23 = .ok (.iload_n 2, 1) := by decide +kernel
theorem dX3_setting_24 : decode cX3_setting 24 = .ok (.putfield 113, 3) := by decide +kernel
theorem dX3_setting_27 : decode cX3_setting 27 = .ok (.iload_n 3, 1) := by decide +kernel
theorem dX3_setting_28 : decode cX3_setting 28 = .ok (.ireturn, 1) := by decide +kernel
theorem dX3_setting_29 : decode cX3_setting 29 = .ok (.iload_n 1, 1) := by decide +kernel
theorem dX3_setting_30 : decode cX3_setting 30 = .ok (.iconst 1, 1) := by decide +kernel
theorem dX3_setting_31 : decode cX3_setting 31 = .ok (.if_icmp .ne 32, 3) := by decide +kernel
theorem dX3_setting_34 : decode cX3_setting 34 = .ok (.iload_n 2, 1) := by decide +kernel
theorem dX3_setting_35 : decode cX3_setting 35 = .ok (.iconst 1, 1) := by decide +kernel
theorem dX3_setting_36 : decode cX3_setting 36 = .ok (.if_icmp .lt 27, 3) := by decide +kernel
theorem dX3_setting_39 : decode cX3_setting 39 = .ok (.iload_n 2, 1) := by decide +kernel
theorem dX3_setting_40 : decode cX3_setting 40 = .ok (.bipush 9, 2) := by decide +kernel
theorem dX3_setting_42 : decode cX3_setting 42 = .ok (.if_icmp .gt 21, 3) := by decide +kernel
theorem dX3_setting_45 : decode cX3_setting 45 = .ok (.aload_n 0, 1) := by decide +kernel
theorem dX3_setting_46 : decode cX3_setting 46 = .ok (.getfield 21, 3) := by decide +kernel
theorem dX3_setting_49 : decode cX3_setting 49 = .ok (.getfield 116, 3) := by decide +kernel
theorem dX3_setting_52 : decode cX3_setting 52 = .ok (.istore_n 3, 1) := by decide +kernel
theorem dX3_setting_53 : decode cX3_setting 53 = .ok (.aload_n 0, 1) := by decide +kernel
theorem dX3_setting_54 : decode cX3_setting 54 = .ok (.getfield 21, 3) := by decide +kernel
theorem dX3_setting_57 : decode cX3_setting 57 = .ok (.iload_n 2, 1) := by decide +kernel
theorem dX3_setting_58 : decode cX3_setting 58 = .ok (.putfield 116, 3) := by decide +kernel
theorem dX3_setting_61 : decode cX3_setting 61 = .ok (.iload_n 3, 1) := by decide +kernel
theorem dX3_setting_62 : decode cX3_setting 62 = .ok (.ireturn, 1) := by decide +kernel
theorem dX3_setting_63 : decode cX3_setting 63 = .ok (.bipush (-2), 2) := by decide +kernel
theorem dX3_setting_65 : decode cX3_setting 65 = .ok (.ireturn, 1) := by decide +kernel
theorem dX3_ticks_0 : decode cX3_ticks 0 = .ok (.iload_n 1, 1) := by decide +kernel
theorem dX3_ticks_1 : decode cX3_ticks 1 = .ok (.ifCond .lt 9, 3) := by decide +kernel
theorem dX3_ticks_4 : decode cX3_ticks 4 = .ok (.iload_n 1, 1) := by decide +kernel
theorem dX3_ticks_5 : decode cX3_ticks 5 = .ok (.bipush 20, 2) := by decide +kernel
theorem dX3_ticks_7 : decode cX3_ticks 7 = .ok (.if_icmp .le 6, 3) := by decide +kernel
theorem dX3_ticks_10 : decode cX3_ticks 10 = .ok (.bipush (-2), 2) := by decide +kernel
theorem dX3_ticks_12 : decode cX3_ticks 12 = .ok (.ireturn, 1) := by decide +kernel
theorem dX3_ticks_13 : decode cX3_ticks 13 = .ok (.aload_n 0, 1) := by decide +kernel
theorem dX3_ticks_14 : decode cX3_ticks 14 = .ok (.getfield 21, 3) := by decide +kernel
theorem dX3_ticks_17 : decode cX3_ticks 17 = .ok (.iload_n 1, 1) := by decide +kernel
theorem dX3_ticks_18 : decode cX3_ticks 18 = .ok (.invokevirtual 119, 3) := by decide +kernel
theorem dX3_ticks_21 : decode cX3_ticks 21 = .ok (.ireturn, 1) := by decide +kernel
theorem dX3_handed_0 : decode cX3_handed 0 = .ok (.aload_n 0, 1) := by decide +kernel
theorem dX3_handed_1 : decode cX3_handed 1 = .ok (.iload_n 1, 1) := by decide +kernel
theorem dX3_handed_2 : decode cX3_handed 2 = .ok (.iload_n 2, 1) := by decide +kernel
theorem dX3_handed_3 : decode cX3_handed 3 = .ok (.invokevirtual 123, 3) := by decide +kernel
theorem dX3_handed_6 : decode cX3_handed 6 = .ok (.istore 5, 2) := by decide +kernel
theorem dX3_handed_8 : decode cX3_handed 8 = .ok (.iload 5, 2) := by decide +kernel
theorem dX3_handed_10 : decode cX3_handed 10 = .ok (.iconst (-1), 1) := by decide +kernel
theorem dX3_handed_11 : decode cX3_handed 11 = .ok (.if_icmp .eq 10, 3) := by decide +kernel
theorem dX3_handed_14 : decode cX3_handed 14 = .ok (.iload_n 3, 1) := by decide +kernel
theorem dX3_handed_15 : decode cX3_handed 15 = .ok (.invokestatic 89, 3) := by decide +kernel
theorem dX3_handed_18 : decode cX3_handed 18 = .ok (.ifCond .ne 5, 3) := by decide +kernel
theorem dX3_handed_21 : decode cX3_handed 21 = .ok (.iconst (-1), 1) := by decide +kernel
theorem dX3_handed_22 : decode cX3_handed 22 = .ok (.ireturn, 1) := by decide +kernel
theorem dX3_handed_23 : decode cX3_handed 23 = .ok (.aload_n 0, 1) := by decide +kernel
theorem dX3_handed_24 : decode cX3_handed 24 = .ok (.getfield 21, 3) := by decide +kernel
theorem dX3_handed_27 : decode cX3_handed 27 = .ok (.getfield 126, 3) := by decide +kernel
theorem dX3_handed_30 : decode cX3_handed 30 = .ok (.iload 5, 2) := by decide +kernel
theorem dX3_handed_32 : decode cX3_handed 32 = .ok (.iload_n 3, 1) := by decide +kernel
theorem dX3_handed_33 : decode cX3_handed 33 = .ok (.invokestatic 129, 3) := by decide +kernel
theorem dX3_handed_36 : decode cX3_handed 36 = .ok (.iaload, 1) := by decide +kernel
theorem dX3_handed_37 : decode cX3_handed 37 = .ok (.iload 4, 2) := by decide +kernel
theorem dX3_handed_39 : decode cX3_handed 39 = .ok (.invokestatic 132, 3) := by decide +kernel
theorem dX3_handed_42 : decode cX3_handed 42 = .ok (.ireturn, 1) := by decide +kernel
theorem dX3_kept_0 : decode cX3_kept 0 = .ok (.aload_n 0, 1) := by decide +kernel
theorem dX3_kept_1 : decode cX3_kept 1 = .ok (.iload_n 1, 1) := by decide +kernel
theorem dX3_kept_2 : decode cX3_kept 2 = .ok (.iload_n 2, 1) := by decide +kernel
theorem dX3_kept_3 : decode cX3_kept 3 = .ok (.invokevirtual 123, 3) := by decide +kernel
theorem dX3_kept_6 : decode cX3_kept 6 = .ok (.istore 5, 2) := by decide +kernel
theorem dX3_kept_8 : decode cX3_kept 8 = .ok (.iload 5, 2) := by decide +kernel
theorem dX3_kept_10 : decode cX3_kept 10 = .ok (.iconst (-1), 1) := by decide +kernel
theorem dX3_kept_11 : decode cX3_kept 11 = .ok (.if_icmp .eq 10, 3) := by decide +kernel
theorem dX3_kept_14 : decode cX3_kept 14 = .ok (.iload_n 3, 1) := by decide +kernel
theorem dX3_kept_15 : decode cX3_kept 15 = .ok (.invokestatic 89, 3) := by decide +kernel
theorem dX3_kept_18 : decode cX3_kept 18 = .ok (.ifCond .ne 5, 3) := by decide +kernel
theorem dX3_kept_21 : decode cX3_kept 21 = .ok (.iconst (-1), 1) := by decide +kernel
theorem dX3_kept_22 : decode cX3_kept 22 = .ok (.ireturn, 1) := by decide +kernel
theorem dX3_kept_23 : decode cX3_kept 23 = .ok (.aload_n 0, 1) := by decide +kernel
theorem dX3_kept_24 : decode cX3_kept 24 = .ok (.getfield 21, 3) := by decide +kernel
theorem dX3_kept_27 : decode cX3_kept 27 = .ok (.getfield 135, 3) := by decide +kernel
theorem dX3_kept_30 : decode cX3_kept 30 = .ok (.iload 5, 2) := by decide +kernel
theorem dX3_kept_32 : decode cX3_kept 32 = .ok (.iload_n 3, 1) := by decide +kernel
theorem dX3_kept_33 : decode cX3_kept 33 = .ok (.invokestatic 129, 3) := by decide +kernel
theorem dX3_kept_36 : decode cX3_kept 36 = .ok (.iaload, 1) := by decide +kernel
theorem dX3_kept_37 : decode cX3_kept 37 = .ok (.iload 4, 2) := by decide +kernel
theorem dX3_kept_39 : decode cX3_kept 39 = .ok (.invokestatic 132, 3) := by decide +kernel
theorem dX3_kept_42 : decode cX3_kept 42 = .ok (.ireturn, 1) := by decide +kernel
theorem dX3_used_0 : decode cX3_used 0 = .ok (.iload_n 1, 1) := by decide +kernel
theorem dX3_used_1 : decode cX3_used 1 = .ok (.invokestatic 37, 3) := by decide +kernel
theorem dX3_used_4 : decode cX3_used 4 = .ok (.ifCond .eq 10, 3) := by decide +kernel
theorem dX3_used_7 : decode cX3_used 7 = .ok (.iload_n 2, 1) := by decide +kernel
theorem dX3_used_8 : decode cX3_used 8 = .ok (.invokestatic 89, 3) := by decide +kernel
theorem dX3_used_11 : decode cX3_used 11 = .ok (.ifCond .ne 5, 3) := by decide +kernel
theorem dX3_used_14 : decode cX3_used 14 = .ok (.iconst (-1), 1) := by decide +kernel
theorem dX3_used_15 : decode cX3_used 15 = .ok (.ireturn, 1) := by decide +kernel
theorem dX3_used_16 : decode cX3_used 16 = .ok (.aload_n 0, 1) := by decide +kernel
theorem dX3_used_17 : decode cX3_used 17 = .ok (.getfield 21, 3) := by decide +kernel
theorem dX3_used_20 : decode cX3_used 20 = .ok (.iload_n 1, 1) := by decide +kernel
theorem dX3_used_21 : decode cX3_used 21 = .ok (.iload_n 2, 1) := by decide +kernel
theorem dX3_used_22 : decode cX3_used 22 = .ok (.invokevirtual 138, 3) := by decide +kernel
theorem dX3_used_25 : decode cX3_used 25 = .ok (.istore_n 3, 1) := by decide +kernel
theorem dX3_used_26 : decode cX3_used 26 = .ok (.iload_n 3, 1) := by decide +kernel
theorem dX3_used_27 : decode cX3_used 27 = .ok (.ifCond .ne 8, 3) := by decide +kernel
theorem dX3_used_30 : decode cX3_used 30 = .ok (.bipush (-9), 2) := by decide +kernel
theorem dX3_used_32 : decode cX3_used 32 = .ok (.goto 7, 3) := by decide +kernel
theorem dX3_used_35 : decode cX3_used 35 = .ok (.iload_n 3, 1) := by decide +kernel
theorem dX3_used_36 : decode cX3_used 36 = .ok (.invokestatic 141, 3) := by decide +kernel
theorem dX3_used_39 : decode cX3_used 39 = .ok (.ireturn, 1) := by decide +kernel
theorem dX3_meaning_0 : decode cX3_meaning 0 = .ok (.aload_n 0, 1) := by decide +kernel
theorem dX3_meaning_1 : decode cX3_meaning 1 = .ok (.iload_n 1, 1) := by decide +kernel
theorem dX3_meaning_2 : decode cX3_meaning 2 = .ok (.iload_n 2, 1) := by decide +kernel
theorem dX3_meaning_3 : decode cX3_meaning 3 = .ok (.invokevirtual 123, 3) := by decide +kernel
theorem dX3_meaning_6 : decode cX3_meaning 6 = .ok (.istore 4, 2) := by decide +kernel
theorem dX3_meaning_8 : decode cX3_meaning 8 = .ok (.iload 4, 2) := by decide +kernel
theorem dX3_meaning_10 : decode cX3_meaning 10 = .ok (.iconst (-1), 1) := by decide +kernel
theorem dX3_meaning_11 : decode cX3_meaning 11 = .ok (.if_icmp .ne 5, 3) := by decide +kernel
theorem dX3_meaning_14 : decode cX3_meaning 14 = .ok (.iconst (-1), 1) := by decide +kernel
theorem dX3_meaning_15 : decode cX3_meaning 15 = .ok (.ireturn, 1) := by decide +kernel
theorem dX3_meaning_16 : decode cX3_meaning 16 = .ok (.iload_n 3, 1) := by decide +kernel
theorem dX3_meaning_17 : decode cX3_meaning 17 = .ok (.ifCond .lt 9, 3) := by decide +kernel
theorem dX3_meaning_20 : decode cX3_meaning 20 = .ok (.iload_n 3, 1) := by decide +kernel
theorem dX3_meaning_21 : decode cX3_meaning 21 = .ok (.bipush 99, 2) := by decide +kernel
theorem dX3_meaning_23 : decode cX3_meaning 23 = .ok (.if_icmp .le 6, 3) := by decide +kernel
theorem dX3_meaning_26 : decode cX3_meaning 26 = .ok (.bipush (-2), 2) := by decide +kernel
theorem dX3_meaning_28 : decode cX3_meaning 28 = .ok (.ireturn, 1) := by decide +kernel
theorem dX3_meaning_29 : decode cX3_meaning 29 = .ok (.aload_n 0, 1) := by decide +kernel
theorem dX3_meaning_30 : decode cX3_meaning 30 = .ok (.getfield 21, 3) := by decide +kernel
theorem dX3_meaning_33 : decode cX3_meaning 33 = .ok (.iload_n 1, 1) := by decide +kernel
theorem dX3_meaning_34 : decode cX3_meaning 34 = .ok (.iload 4, 2) := by decide +kernel
theorem dX3_meaning_36 : decode cX3_meaning 36 = .ok (.iload_n 3, 1) := by decide +kernel
theorem dX3_meaning_37 : decode cX3_meaning 37 = .ok (.invokevirtual 144, 3) := by decide +kernel
theorem dX3_meaning_40 : decode cX3_meaning 40 = .ok (.istore 5, 2) := by decide +kernel
theorem dX3_meaning_42 : decode cX3_meaning 42 = .ok (.iload 5, 2) := by decide +kernel
theorem dX3_meaning_44 : decode cX3_meaning 44 = .ok (.iconst (-1), 1) := by decide +kernel
theorem dX3_meaning_45 : decode cX3_meaning 45 = .ok (.if_icmp .ne 8, 3) := by decide +kernel
theorem dX3_meaning_48 : decode cX3_meaning 48 = .ok (.bipush (-9), 2) := by decide +kernel
theorem dX3_meaning_50 : decode cX3_meaning 50 = .ok (.goto 5, 3) := by decide +kernel
theorem dX3_meaning_53 : decode cX3_meaning 53 = .ok (.iload 5, 2) := by decide +kernel
theorem dX3_meaning_55 : decode cX3_meaning 55 = .ok (.ireturn, 1) := by decide +kernel
theorem dX3_settles_0 : decode cX3_settles 0 = .ok (.aload_n 0, 1) := by decide +kernel
theorem dX3_settles_1 : decode cX3_settles 1 = .ok (.getfield 21, 3) := by decide +kernel
theorem dX3_settles_4 : decode cX3_settles 4 = .ok (.invokevirtual 147, 3) := by decide +kernel
theorem dX3_settles_7 : decode cX3_settles 7 = .ok (.ireturn, 1) := by decide +kernel
theorem dX3_letter_0 : decode cX3_letter 0 = .ok (.iload_n 1, 1) := by decide +kernel
theorem dX3_letter_1 : decode cX3_letter 1 = .ok (.invokestatic 37, 3) := by decide +kernel
theorem dX3_letter_4 : decode cX3_letter 4 = .ok (.ifCond .eq 10, 3) := by decide +kernel
theorem dX3_letter_7 : decode cX3_letter 7 = .ok (.iload_n 2, 1) := by decide +kernel
theorem dX3_letter_8 : decode cX3_letter 8 = .ok (.invokestatic 89, 3) := by decide +kernel
theorem dX3_letter_11 : decode cX3_letter 11 = .ok (.ifCond .ne 5, 3) := by decide +kernel
theorem dX3_letter_14 : decode cX3_letter 14 = .ok (.iconst (-1), 1) := by decide +kernel
theorem dX3_letter_15 : decode cX3_letter 15 = .ok (.ireturn, 1) := by decide +kernel
theorem dX3_letter_16 : decode cX3_letter 16 = .ok (.aload_n 0, 1) := by decide +kernel
theorem dX3_letter_17 : decode cX3_letter 17 = .ok (.getfield 30, 3) := by decide +kernel
theorem dX3_letter_20 : decode cX3_letter 20 = .ok (.iload_n 1, 1) := by decide +kernel
theorem dX3_letter_21 : decode cX3_letter 21 = .ok (.iload_n 2, 1) := by decide +kernel
theorem dX3_letter_22 : decode cX3_letter 22 = .ok (.invokevirtual 151, 3) := by decide +kernel
theorem dX3_letter_25 : decode cX3_letter 25 = .ok (.ireturn, 1) := by decide +kernel
theorem dX3_trace_0 : decode cX3_trace 0 = .ok (.iload_n 1, 1) := by decide +kernel
theorem dX3_trace_1 : decode cX3_trace 1 = .ok (.ifCond .lt 18, 3) := by decide +kernel
theorem dX3_trace_4 : decode cX3_trace 4 = .ok (.iload_n 1, 1) := by decide +kernel
theorem dX3_trace_5 : decode cX3_trace 5 = .ok (.bipush 14, 2) := by decide +kernel
theorem dX3_trace_7 : decode cX3_trace 7 = .ok (.if_icmp .gt 12, 3) := by decide +kernel
theorem dX3_trace_10 : decode cX3_trace 10 = .ok (.iload_n 2, 1) := by decide +kernel
theorem dX3_trace_11 : decode cX3_trace 11 = .ok (.ifCond .lt 8, 3) := by decide +kernel
theorem dX3_trace_14 : decode cX3_trace 14 = .ok (.iload_n 2, 1) := by decide +kernel
theorem dX3_trace_15 : decode cX3_trace 15 = .ok (.iconst 1, 1) := by decide +kernel
theorem dX3_trace_16 : decode cX3_trace 16 = .ok (.if_icmp .le 6, 3) := by decide +kernel
theorem dX3_trace_19 : decode cX3_trace 19 = .ok (.bipush (-2), 2) := by decide +kernel
theorem dX3_trace_21 : decode cX3_trace 21 = .ok (.ireturn, 1) := by decide +kernel
theorem dX3_trace_22 : decode cX3_trace 22 = .ok (.iload_n 1, 1) := by decide +kernel
theorem dX3_trace_23 : decode cX3_trace 23 = .ok (.aload_n 0, 1) := by decide +kernel
theorem dX3_trace_24 : decode cX3_trace 24 = .ok (.getfield 30, 3) := by decide +kernel
theorem dX3_trace_27 : decode cX3_trace 27 = .ok (.getfield 154, 3) := by decide +kernel
theorem dX3_trace_30 : decode cX3_trace 30 = .ok (.if_icmp .lt 6, 3) := by decide +kernel
theorem dX3_trace_33 : decode cX3_trace 33 = .ok (.bipush (-9), 2) := by decide +kernel
theorem dX3_trace_35 : decode cX3_trace 35 = .ok (.ireturn, 1) := by decide +kernel
theorem dX3_trace_36 : decode cX3_trace 36 = .ok (.iload_n 2, 1) := by decide +kernel
theorem dX3_trace_37 : decode cX3_trace 37 = .ok (.ifCond .ne 15, 3) := by decide +kernel
theorem dX3_trace_40 : decode cX3_trace 40 = .ok (.aload_n 0, 1) := by decide +kernel
theorem dX3_trace_41 : decode cX3_trace 41 = .ok (.getfield 30, 3) := by decide +kernel
theorem dX3_trace_44 : decode cX3_trace 44 = .ok (.getfield 157, 3) := by decide +kernel
theorem dX3_trace_47 : decode cX3_trace 47 = .ok (.iload_n 1, 1) := by decide +kernel
theorem dX3_trace_48 : decode cX3_trace 48 = .ok (.iaload, 1) := by decide +kernel
theorem dX3_trace_49 : decode cX3_trace 49 = .ok (.goto 12, 3) := by decide +kernel
theorem dX3_trace_52 : decode cX3_trace 52 = .ok (.aload_n 0, 1) := by decide +kernel
theorem dX3_trace_53 : decode cX3_trace 53 = .ok (.getfield 30, 3) := by decide +kernel
theorem dX3_trace_56 : decode cX3_trace 56 = .ok (.getfield 160, 3) := by decide +kernel
theorem dX3_trace_59 : decode cX3_trace 59 = .ok (.iload_n 1, 1) := by decide +kernel
theorem dX3_trace_60 : decode cX3_trace 60 = .ok (.iaload, 1) := by decide +kernel
theorem dX3_trace_61 : decode cX3_trace 61 = .ok (.ireturn, 1) := by decide +kernel
theorem dX3_served_0 : decode cX3_served 0 = .ok (.iload_n 1, 1) := by decide +kernel
theorem dX3_served_1 : decode cX3_served 1 = .ok (.invokestatic 89, 3) := by decide +kernel
theorem dX3_served_4 : decode cX3_served 4 = .ok (.ifCond .ne 5, 3) := by decide +kernel
theorem dX3_served_7 : decode cX3_served 7 = .ok (.iconst (-1), 1) := by decide +kernel
theorem dX3_served_8 : decode cX3_served 8 = .ok (.ireturn, 1) := by decide +kernel
theorem dX3_served_9 : decode cX3_served 9 = .ok (.iload_n 2, 1) := by decide +kernel
theorem dX3_served_10 : decode cX3_served 10 = .ok (.ifCond .lt 8, 3) := by decide +kernel
theorem dX3_served_13 : decode cX3_served 13 = .ok (.iload_n 2, 1) := by decide +kernel
theorem dX3_served_14 : decode cX3_served 14 = .ok (.iconst 2, 1) := by decide +kernel
theorem dX3_served_15 : decode cX3_served 15 = .ok (.if_icmp .le 6, 3) := by decide +kernel
theorem dX3_served_18 : decode cX3_served 18 = .ok (.bipush (-2), 2) := by decide +kernel
theorem dX3_served_20 : decode cX3_served 20 = .ok (.ireturn, 1) := by decide +kernel
theorem dX3_served_21 : decode cX3_served 21 = .ok (.iconst 0, 1) := by decide +kernel
theorem dX3_served_22 : decode cX3_served 22 = .ok (.istore_n 3, 1) := by decide +kernel
theorem dX3_served_23 : decode cX3_served 23 = .ok (.iconst 0, 1) := by decide +kernel
theorem dX3_served_24 : decode cX3_served 24 = .ok (.istore 4, 2) := by decide +kernel
theorem dX3_served_26 : decode cX3_served 26 = .ok (.iload 4, 2) := by decide +kernel
theorem dX3_served_28 : decode cX3_served 28 = .ok (.bipush 7, 2) := by decide +kernel
theorem dX3_served_30 : decode cX3_served 30 = .ok (.if_icmp .ge 27, 3) := by decide +kernel
theorem dX3_served_33 : decode cX3_served 33 = .ok (.aload_n 0, 1) := by decide +kernel
theorem dX3_served_34 : decode cX3_served 34 = .ok (.iload 4, 2) := by decide +kernel
theorem dX3_served_36 : decode cX3_served 36 = .ok (.iload_n 1, 1) := by decide +kernel
theorem dX3_served_37 : decode cX3_served 37 = .ok (.iload_n 2, 1) := by decide +kernel
theorem dX3_served_38 : decode cX3_served 38 = .ok (.invokevirtual 163, 3) := by decide +kernel
theorem dX3_served_41 : decode cX3_served 41 = .ok (.ifCond .eq 10, 3) := by decide +kernel
theorem dX3_served_44 : decode cX3_served 44 = .ok (.iload_n 3, 1) := by decide +kernel
theorem dX3_served_45 : decode cX3_served 45 = .ok (.iconst 1, 1) := by decide +kernel
theorem dX3_served_46 : decode cX3_served 46 = .ok (.iload 4, 2) := by decide +kernel
theorem dX3_served_48 : decode cX3_served 48 = .ok (.ishl, 1) := by decide +kernel
theorem dX3_served_49 : decode cX3_served 49 = .ok (.ior, 1) := by decide +kernel
theorem dX3_served_50 : decode cX3_served 50 = .ok (.istore_n 3, 1) := by decide +kernel
theorem dX3_served_51 : decode cX3_served 51 = .ok (.iinc 4 1, 3) := by decide +kernel
theorem dX3_served_54 : decode cX3_served 54 = .ok (.goto (-28), 3) := by decide +kernel
theorem dX3_served_57 : decode cX3_served 57 = .ok (.iload_n 3, 1) := by decide +kernel
theorem dX3_served_58 : decode cX3_served 58 = .ok (.ireturn, 1) := by decide +kernel
theorem dX3_merged_0 : decode cX3_merged 0 = .ok (.iload_n 1, 1) := by decide +kernel
theorem dX3_merged_1 : decode cX3_merged 1 = .ok (.invokestatic 37, 3) := by decide +kernel
theorem dX3_merged_4 : decode cX3_merged 4 = .ok (.ifCond .eq 10, 3) := by decide +kernel
theorem dX3_merged_7 : decode cX3_merged 7 = .ok (.iload_n 2, 1) := by decide +kernel
theorem dX3_merged_8 : decode cX3_merged 8 = .ok (.invokestatic 89, 3) := by decide +kernel
theorem dX3_merged_11 : decode cX3_merged 11 = .ok (.ifCond .ne 5, 3) := by decide +kernel
theorem dX3_merged_14 : decode cX3_merged 14 = .ok (.iconst (-1), 1) := by decide +kernel
theorem dX3_merged_15 : decode cX3_merged 15 = .ok (.ireturn, 1) := by decide +kernel
theorem dX3_merged_16 : decode cX3_merged 16 = .ok (.iconst 0, 1) := by decide +kernel
theorem dX3_merged_17 : decode cX3_merged 17 = .ok (.istore_n 3, 1) := by decide +kernel
theorem dX3_merged_18 : decode cX3_merged 18 = .ok (.iconst 0, 1) := by decide +kernel
theorem dX3_merged_19 : decode cX3_merged 19 = .ok (.istore 4, 2) := by decide +kernel
theorem dX3_merged_21 : decode cX3_merged 21 = .ok (.iload 4, 2) := by decide +kernel
theorem dX3_merged_23 : decode cX3_merged 23 = .ok (.bipush 7, 2) := by decide +kernel
theorem dX3_merged_25 : decode cX3_merged 25 = .ok (.if_icmp .ge 43, 3) := by decide +kernel
theorem dX3_merged_28 : decode cX3_merged 28 = .ok (.aload_n 0, 1) := by decide +kernel
theorem dX3_merged_29 : decode cX3_merged 29 = .ok (.getfield 12, 3) := by decide +kernel
theorem dX3_merged_32 : decode cX3_merged 32 = .ok (.iload 4, 2) := by decide +kernel
theorem dX3_merged_34 : decode cX3_merged 34 = .ok (.iload_n 2, 1) := by decide +kernel
theorem dX3_merged_35 : decode cX3_merged 35 = .ok (.invokevirtual 101, 3) := by decide +kernel
theorem dX3_merged_38 : decode cX3_merged 38 = .ok (.iload_n 1, 1) := by decide +kernel
theorem dX3_merged_39 : decode cX3_merged 39 = .ok (.if_icmp .ne 23, 3) := by decide +kernel
theorem dX3_merged_42 : decode cX3_merged 42 = .ok (.aload_n 0, 1) := by decide +kernel
theorem dX3_merged_43 : decode cX3_merged 43 = .ok (.getfield 21, 3) := by decide +kernel
theorem dX3_merged_46 : decode cX3_merged 46 = .ok (.iload 4, 2) := by decide +kernel
theorem dX3_merged_48 : decode cX3_merged 48 = .ok (.iload_n 2, 1) := by decide +kernel
theorem dX3_merged_49 : decode cX3_merged 49 = .ok (.invokevirtual 138, 3) := by decide +kernel
theorem dX3_merged_52 : decode cX3_merged 52 = .ok (.ifCond .eq 10, 3) := by decide +kernel
theorem dX3_merged_55 : decode cX3_merged 55 = .ok (.iload_n 3, 1) := by decide +kernel
theorem dX3_merged_56 : decode cX3_merged 56 = .ok (.iconst 1, 1) := by decide +kernel
theorem dX3_merged_57 : decode cX3_merged 57 = .ok (.iload 4, 2) := by decide +kernel
theorem dX3_merged_59 : decode cX3_merged 59 = .ok (.ishl, 1) := by decide +kernel
theorem dX3_merged_60 : decode cX3_merged 60 = .ok (.ior, 1) := by decide +kernel
theorem dX3_merged_61 : decode cX3_merged 61 = .ok (.istore_n 3, 1) := by decide +kernel
theorem dX3_merged_62 : decode cX3_merged 62 = .ok (.iinc 4 1, 3) := by decide +kernel
theorem dX3_merged_65 : decode cX3_merged 65 = .ok (.goto (-44), 3) := by decide +kernel
theorem dX3_merged_68 : decode cX3_merged 68 = .ok (.iload_n 3, 1) := by decide +kernel
theorem dX3_merged_69 : decode cX3_merged 69 = .ok (.ireturn, 1) := by decide +kernel
theorem dX3_many_0 : decode cX3_many 0 = .ok (.iload_n 1, 1) := by decide +kernel
theorem dX3_many_1 : decode cX3_many 1 = .ok (.tableswitch 105 0 6 #[43, 51, 59, 70, 81, 89, 97], 43) := by decide +kernel
theorem dX3_many_44 : decode cX3_many 44 = .ok (.aload_n 0, 1) := by decide +kernel
theorem dX3_many_45 : decode cX3_many 45 = .ok (.getfield 12, 3) := by decide +kernel
theorem dX3_many_48 : decode cX3_many 48 = .ok (.getfield 48, 3) := by decide +kernel
theorem dX3_many_51 : decode cX3_many 51 = .ok (.ireturn, 1) := by decide +kernel
theorem dX3_many_52 : decode cX3_many 52 = .ok (.aload_n 0, 1) := by decide +kernel
theorem dX3_many_53 : decode cX3_many 53 = .ok (.getfield 12, 3) := by decide +kernel
theorem dX3_many_56 : decode cX3_many 56 = .ok (.invokevirtual 167, 3) := by decide +kernel
theorem dX3_many_59 : decode cX3_many 59 = .ok (.ireturn, 1) := by decide +kernel
theorem dX3_many_60 : decode cX3_many 60 = .ok (.aload_n 0, 1) := by decide +kernel
theorem dX3_many_61 : decode cX3_many 61 = .ok (.getfield 21, 3) := by decide +kernel
theorem dX3_many_64 : decode cX3_many 64 = .ok (.getfield 126, 3) := by decide +kernel
theorem dX3_many_67 : decode cX3_many 67 = .ok (.invokestatic 170, 3) := by decide +kernel
theorem dX3_many_70 : decode cX3_many 70 = .ok (.ireturn, 1) := by decide +kernel
theorem dX3_many_71 : decode cX3_many 71 = .ok (.aload_n 0, 1) := by decide +kernel
theorem dX3_many_72 : decode cX3_many 72 = .ok (.getfield 21, 3) := by decide +kernel
theorem dX3_many_75 : decode cX3_many 75 = .ok (.getfield 135, 3) := by decide +kernel
theorem dX3_many_78 : decode cX3_many 78 = .ok (.invokestatic 170, 3) := by decide +kernel
theorem dX3_many_81 : decode cX3_many 81 = .ok (.ireturn, 1) := by decide +kernel
theorem dX3_many_82 : decode cX3_many 82 = .ok (.aload_n 0, 1) := by decide +kernel
theorem dX3_many_83 : decode cX3_many 83 = .ok (.getfield 12, 3) := by decide +kernel
theorem dX3_many_86 : decode cX3_many 86 = .ok (.invokevirtual 174, 3) := by decide +kernel
theorem dX3_many_89 : decode cX3_many 89 = .ok (.ireturn, 1) := by decide +kernel
theorem dX3_many_90 : decode cX3_many 90 = .ok (.aload_n 0, 1) := by decide +kernel
theorem dX3_many_91 : decode cX3_many 91 = .ok (.getfield 21, 3) := by decide +kernel
theorem dX3_many_94 : decode cX3_many 94 = .ok (.getfield 177, 3) := by decide +kernel
theorem dX3_many_97 : decode cX3_many 97 = .ok (.ireturn, 1) := by decide +kernel
theorem dX3_many_98 : decode cX3_many 98 = .ok (.aload_n 0, 1) := by decide +kernel
theorem dX3_many_99 : decode cX3_many 99 = .ok (.getfield 21, 3) := by decide +kernel
theorem dX3_many_102 : decode cX3_many 102 = .ok (.invokevirtual 180, 3) := by decide +kernel
theorem dX3_many_105 : decode cX3_many 105 = .ok (.ireturn, 1) := by decide +kernel
theorem dX3_many_106 : decode cX3_many 106 = .ok (.bipush (-2), 2) := by decide +kernel
theorem dX3_many_108 : decode cX3_many 108 = .ok (.ireturn, 1) := by decide +kernel
theorem dX3_isServed_0 : decode cX3_isServed 0 = .ok (.aload_n 0, 1) := by decide +kernel
theorem dX3_isServed_1 : decode cX3_isServed 1 = .ok (.getfield 34, 3) := by decide +kernel
theorem dX3_isServed_4 : decode cX3_isServed 4 = .ok (.iload_n 1, 1) := by decide +kernel
theorem dX3_isServed_5 : decode cX3_isServed 5 = .ok (.iload_n 2, 1) := by decide +kernel
theorem dX3_isServed_6 : decode cX3_isServed 6 = .ok (.invokevirtual 151, 3) := by decide +kernel
theorem dX3_isServed_9 : decode cX3_isServed 9 = .ok (.ifCond .ne 7, 3) := by decide +kernel
theorem dX3_isServed_12 : decode cX3_isServed 12 = .ok (.iconst 1, 1) := by decide +kernel
theorem dX3_isServed_13 : decode cX3_isServed 13 = .ok (.goto 4, 3) := by decide +kernel
theorem dX3_isServed_16 : decode cX3_isServed 16 = .ok (.iconst 0, 1) := by decide +kernel
theorem dX3_isServed_17 : decode cX3_isServed 17 = .ok (.istore 4, 2) := by decide +kernel
theorem dX3_isServed_19 : decode cX3_isServed 19 = .ok (.iload_n 3, 1) := by decide +kernel
theorem dX3_isServed_20 : decode cX3_isServed 20 = .ok (.ifCond .ne 6, 3) := by decide +kernel
theorem dX3_isServed_23 : decode cX3_isServed 23 = .ok (.iload 4, 2) := by decide +kernel
theorem dX3_isServed_25 : decode cX3_isServed 25 = .ok (.ireturn, 1) := by decide +kernel
theorem dX3_isServed_26 : decode cX3_isServed 26 = .ok (.iload_n 3, 1) := by decide +kernel
theorem dX3_isServed_27 : decode cX3_isServed 27 = .ok (.iconst 1, 1) := by decide +kernel
theorem dX3_isServed_28 : decode cX3_isServed 28 = .ok (.if_icmp .ne 14, 3) := by decide +kernel
theorem dX3_isServed_31 : decode cX3_isServed 31 = .ok (.iload 4, 2) := by decide +kernel
theorem dX3_isServed_33 : decode cX3_isServed 33 = .ok (.ifCond .ne 7, 3) := by decide +kernel
theorem dX3_isServed_36 : decode cX3_isServed 36 = .ok (.iconst 1, 1) := by decide +kernel
theorem dX3_isServed_37 : decode cX3_isServed 37 = .ok (.goto 4, 3) := by decide +kernel
theorem dX3_isServed_40 : decode cX3_isServed 40 = .ok (.iconst 0, 1) := by decide +kernel
theorem dX3_isServed_41 : decode cX3_isServed 41 = .ok (.ireturn, 1) := by decide +kernel
theorem dX3_isServed_42 : decode cX3_isServed 42 = .ok (.iload 4, 2) := by decide +kernel
theorem dX3_isServed_44 : decode cX3_isServed 44 = .ok (.ifCond .eq 17, 3) := by decide +kernel
theorem dX3_isServed_47 : decode cX3_isServed 47 = .ok (.aload_n 0, 1) := by decide +kernel
theorem dX3_isServed_48 : decode cX3_isServed 48 = .ok (.getfield 34, 3) := by decide +kernel
theorem dX3_isServed_51 : decode cX3_isServed 51 = .ok (.invokevirtual 183, 3) := by decide +kernel
theorem dX3_isServed_54 : decode cX3_isServed 54 = .ok (.ifCond .eq 7, 3) := by decide +kernel
theorem dX3_isServed_57 : decode cX3_isServed 57 = .ok (.iconst 1, 1) := by decide +kernel
theorem dX3_isServed_58 : decode cX3_isServed 58 = .ok (.goto 4, 3) := by decide +kernel
theorem dX3_isServed_61 : decode cX3_isServed 61 = .ok (.iconst 0, 1) := by decide +kernel
theorem dX3_isServed_62 : decode cX3_isServed 62 = .ok (.ireturn, 1) := by decide +kernel
theorem dX3_sideFor_0 : decode cX3_sideFor 0 = .ok (.iload_n 1, 1) := by decide +kernel
theorem dX3_sideFor_1 : decode cX3_sideFor 1 = .ok (.invokestatic 37, 3) := by decide +kernel
theorem dX3_sideFor_4 : decode cX3_sideFor 4 = .ok (.ifCond .eq 26, 3) := by decide +kernel
theorem dX3_sideFor_7 : decode cX3_sideFor 7 = .ok (.aload_n 0, 1) := by decide +kernel
theorem dX3_sideFor_8 : decode cX3_sideFor 8 = .ok (.getfield 12, 3) := by decide +kernel
theorem dX3_sideFor_11 : decode cX3_sideFor 11 = .ok (.iload_n 2, 1) := by decide +kernel
theorem dX3_sideFor_12 : decode cX3_sideFor 12 = .ok (.invokevirtual 65, 3) := by decide +kernel
theorem dX3_sideFor_15 : decode cX3_sideFor 15 = .ok (.ifCond .eq 15, 3) := by decide +kernel
theorem dX3_sideFor_18 : decode cX3_sideFor 18 = .ok (.aload_n 0, 1) := by decide +kernel
theorem dX3_sideFor_19 : decode cX3_sideFor 19 = .ok (.getfield 12, 3) := by decide +kernel
theorem dX3_sideFor_22 : decode cX3_sideFor 22 = .ok (.iload_n 2, 1) := by decide +kernel
theorem dX3_sideFor_23 : decode cX3_sideFor 23 = .ok (.iload_n 1, 1) := by decide +kernel
theorem dX3_sideFor_24 : decode cX3_sideFor 24 = .ok (.invokevirtual 187, 3) := by decide +kernel
theorem dX3_sideFor_27 : decode cX3_sideFor 27 = .ok (.goto 4, 3) := by decide +kernel
theorem dX3_sideFor_30 : decode cX3_sideFor 30 = .ok (.iconst (-1), 1) := by decide +kernel
theorem dX3_sideFor_31 : decode cX3_sideFor 31 = .ok (.ireturn, 1) := by decide +kernel
theorem dX3_isBox_0 : decode cX3_isBox 0 = .ok (.iload_n 0, 1) := by decide +kernel
theorem dX3_isBox_1 : decode cX3_isBox 1 = .ok (.ifCond .lt 13, 3) := by decide +kernel
theorem dX3_isBox_4 : decode cX3_isBox 4 = .ok (.iload_n 0, 1) := by decide +kernel
theorem dX3_isBox_5 : decode cX3_isBox 5 = .ok (.bipush 7, 2) := by decide +kernel
theorem dX3_isBox_7 : decode cX3_isBox 7 = .ok (.if_icmp .ge 7, 3) := by decide +kernel
theorem dX3_isBox_10 : decode cX3_isBox 10 = .ok (.iconst 1, 1) := by decide +kernel
theorem dX3_isBox_11 : decode cX3_isBox 11 = .ok (.goto 4, 3) := by decide +kernel
theorem dX3_isBox_14 : decode cX3_isBox 14 = .ok (.iconst 0, 1) := by decide +kernel
theorem dX3_isBox_15 : decode cX3_isBox 15 = .ok (.ireturn, 1) := by decide +kernel
theorem dX3_isClass_0 : decode cX3_isClass 0 = .ok (.iload_n 0, 1) := by decide +kernel
theorem dX3_isClass_1 : decode cX3_isClass 1 = .ok (.ifCond .lt 12, 3) := by decide +kernel
theorem dX3_isClass_4 : decode cX3_isClass 4 = .ok (.iload_n 0, 1) := by decide +kernel
theorem dX3_isClass_5 : decode cX3_isClass 5 = .ok (.iconst 4, 1) := by decide +kernel
theorem dX3_isClass_6 : decode cX3_isClass 6 = .ok (.if_icmp .ge 7, 3) := by decide +kernel
theorem dX3_isClass_9 : decode cX3_isClass 9 = .ok (.iconst 1, 1) := by decide +kernel
theorem dX3_isClass_10 : decode cX3_isClass 10 = .ok (.goto 4, 3) := by decide +kernel
theorem dX3_isClass_13 : decode cX3_isClass 13 = .ok (.iconst 0, 1) := by decide +kernel
theorem dX3_isClass_14 : decode cX3_isClass 14 = .ok (.ireturn, 1) := by decide +kernel
theorem dX3_isCost_0 : decode cX3_isCost 0 = .ok (.iload_n 0, 1) := by decide +kernel
theorem dX3_isCost_1 : decode cX3_isCost 1 = .ok (.iconst 1, 1) := by decide +kernel
theorem dX3_isCost_2 : decode cX3_isCost 2 = .ok (.if_icmp .lt 13, 3) := by decide +kernel
theorem dX3_isCost_5 : decode cX3_isCost 5 = .ok (.iload_n 0, 1) := by decide +kernel
theorem dX3_isCost_6 : decode cX3_isCost 6 = .ok (.bipush 9, 2) := by decide +kernel
theorem dX3_isCost_8 : decode cX3_isCost 8 = .ok (.if_icmp .gt 7, 3) := by decide +kernel
theorem dX3_isCost_11 : decode cX3_isCost 11 = .ok (.iconst 1, 1) := by decide +kernel
theorem dX3_isCost_12 : decode cX3_isCost 12 = .ok (.goto 4, 3) := by decide +kernel
theorem dX3_isCost_15 : decode cX3_isCost 15 = .ok (.iconst 0, 1) := by decide +kernel
theorem dX3_isCost_16 : decode cX3_isCost 16 = .ok (.ireturn, 1) := by decide +kernel
theorem dX3_isYesNo_0 : decode cX3_isYesNo 0 = .ok (.iload_n 0, 1) := by decide +kernel
theorem dX3_isYesNo_1 : decode cX3_isYesNo 1 = .ok (.ifCond .eq 8, 3) := by decide +kernel
theorem dX3_isYesNo_4 : decode cX3_isYesNo 4 = .ok (.iload_n 0, 1) := by decide +kernel
theorem dX3_isYesNo_5 : decode cX3_isYesNo 5 = .ok (.iconst 1, 1) := by decide +kernel
theorem dX3_isYesNo_6 : decode cX3_isYesNo 6 = .ok (.if_icmp .ne 7, 3) := by decide +kernel
theorem dX3_isYesNo_9 : decode cX3_isYesNo 9 = .ok (.iconst 1, 1) := by decide +kernel
theorem dX3_isYesNo_10 : decode cX3_isYesNo 10 = .ok (.goto 4, 3) := by decide +kernel
theorem dX3_isYesNo_13 : decode cX3_isYesNo 13 = .ok (.iconst 0, 1) := by decide +kernel
theorem dX3_isYesNo_14 : decode cX3_isYesNo 14 = .ok (.ireturn, 1) := by decide +kernel
theorem dX3_pair_0 : decode cX3_pair 0 = .ok (.iload_n 0, 1) := by decide +kernel
theorem dX3_pair_1 : decode cX3_pair 1 = .ok (.iconst 4, 1) := by decide +kernel
theorem dX3_pair_2 : decode cX3_pair 2 = .ok (.imul, 1) := by decide +kernel
theorem dX3_pair_3 : decode cX3_pair 3 = .ok (.iload_n 1, 1) := by decide +kernel
theorem dX3_pair_4 : decode cX3_pair 4 = .ok (.iadd, 1) := by decide +kernel
theorem dX3_pair_5 : decode cX3_pair 5 = .ok (.ireturn, 1) := by decide +kernel
theorem dX3_slot_0 : decode cX3_slot 0 = .ok (.iload_n 0, 1) := by decide +kernel
theorem dX3_slot_1 : decode cX3_slot 1 = .ok (.iconst 4, 1) := by decide +kernel
theorem dX3_slot_2 : decode cX3_slot 2 = .ok (.imul, 1) := by decide +kernel
theorem dX3_slot_3 : decode cX3_slot 3 = .ok (.iload_n 1, 1) := by decide +kernel
theorem dX3_slot_4 : decode cX3_slot 4 = .ok (.iadd, 1) := by decide +kernel
theorem dX3_slot_5 : decode cX3_slot 5 = .ok (.ireturn, 1) := by decide +kernel
theorem dX3_slipWith_0 : decode cX3_slipWith 0 = .ok (.iload_n 0, 1) := by decide +kernel
theorem dX3_slipWith_1 : decode cX3_slipWith 1 = .ok (.bipush 16, 2) := by decide +kernel
theorem dX3_slipWith_3 : decode cX3_slipWith 3 = .ok (.imul, 1) := by decide +kernel
theorem dX3_slipWith_4 : decode cX3_slipWith 4 = .ok (.iload_n 1, 1) := by decide +kernel
theorem dX3_slipWith_5 : decode cX3_slipWith 5 = .ok (.iadd, 1) := by decide +kernel
theorem dX3_slipWith_6 : decode cX3_slipWith 6 = .ok (.ireturn, 1) := by decide +kernel
theorem dX3_labelOf_0 : decode cX3_labelOf 0 = .ok (.iload_n 0, 1) := by decide +kernel
theorem dX3_labelOf_1 : decode cX3_labelOf 1 = .ok (.iconst 4, 1) := by decide +kernel
theorem dX3_labelOf_2 : decode cX3_labelOf 2 = .ok (.ishr, 1) := by decide +kernel
theorem dX3_labelOf_3 : decode cX3_labelOf 3 = .ok (.ireturn, 1) := by decide +kernel
theorem dX3_countOf_0 : decode cX3_countOf 0 = .ok (.iload_n 0, 1) := by decide +kernel
theorem dX3_countOf_1 : decode cX3_countOf 1 = .ok (.bipush 15, 2) := by decide +kernel
theorem dX3_countOf_3 : decode cX3_countOf 3 = .ok (.iand, 1) := by decide +kernel
theorem dX3_countOf_4 : decode cX3_countOf 4 = .ok (.ireturn, 1) := by decide +kernel
theorem dX3_partOf_0 : decode cX3_partOf 0 = .ok (.iload_n 1, 1) := by decide +kernel
theorem dX3_partOf_1 : decode cX3_partOf 1 = .ok (.ifCond .lt 8, 3) := by decide +kernel
theorem dX3_partOf_4 : decode cX3_partOf 4 = .ok (.iload_n 1, 1) := by decide +kernel
theorem dX3_partOf_5 : decode cX3_partOf 5 = .ok (.iconst 1, 1) := by decide +kernel
theorem dX3_partOf_6 : decode cX3_partOf 6 = .ok (.if_icmp .le 6, 3) := by decide +kernel
theorem dX3_partOf_9 : decode cX3_partOf 9 = .ok (.bipush (-2), 2) := by decide +kernel
theorem dX3_partOf_11 : decode cX3_partOf 11 = .ok (.ireturn, 1) := by decide +kernel
theorem dX3_partOf_12 : decode cX3_partOf 12 = .ok (.iload_n 0, 1) := by decide +kernel
theorem dX3_partOf_13 : decode cX3_partOf 13 = .ok (.ifCond .ne 6, 3) := by decide +kernel
theorem dX3_partOf_16 : decode cX3_partOf 16 = .ok (.bipush (-9), 2) := by decide +kernel
theorem dX3_partOf_18 : decode cX3_partOf 18 = .ok (.ireturn, 1) := by decide +kernel
theorem dX3_partOf_19 : decode cX3_partOf 19 = .ok (.iload_n 1, 1) := by decide +kernel
theorem dX3_partOf_20 : decode cX3_partOf 20 = .ok (.ifCond .ne 10, 3) := by decide +kernel
theorem dX3_partOf_23 : decode cX3_partOf 23 = .ok (.iload_n 0, 1) := by decide +kernel
theorem dX3_partOf_24 : decode cX3_partOf 24 = .ok (.invokestatic 141, 3) := by decide +kernel
theorem dX3_partOf_27 : decode cX3_partOf 27 = .ok (.goto 7, 3) := by decide +kernel
theorem dX3_partOf_30 : decode cX3_partOf 30 = .ok (.iload_n 0, 1) := by decide +kernel
theorem dX3_partOf_31 : decode cX3_partOf 31 = .ok (.invokestatic 190, 3) := by decide +kernel
theorem dX3_partOf_34 : decode cX3_partOf 34 = .ok (.ireturn, 1) := by decide +kernel
theorem dX3_countSlips_0 : decode cX3_countSlips 0 = .ok (.iconst 0, 1) := by decide +kernel
theorem dX3_countSlips_1 : decode cX3_countSlips 1 = .ok (.istore_n 1, 1) := by decide +kernel
theorem dX3_countSlips_2 : decode cX3_countSlips 2 = .ok (.iconst 0, 1) := by decide +kernel
theorem dX3_countSlips_3 : decode cX3_countSlips 3 = .ok (.istore_n 2, 1) := by decide +kernel
theorem dX3_countSlips_4 : decode cX3_countSlips 4 = .ok (.iload_n 2, 1) := by decide +kernel
theorem dX3_countSlips_5 : decode cX3_countSlips 5 = .ok (.aload_n 0, 1) := by decide +kernel
theorem dX3_countSlips_6 : decode cX3_countSlips 6 = .ok (.arraylength, 1) := by decide +kernel
theorem dX3_countSlips_7 : decode cX3_countSlips 7 = .ok (.if_icmp .ge 18, 3) := by decide +kernel
theorem dX3_countSlips_10 : decode cX3_countSlips 10 = .ok (.aload_n 0, 1) := by decide +kernel
theorem dX3_countSlips_11 : decode cX3_countSlips 11 = .ok (.iload_n 2, 1) := by decide +kernel
theorem dX3_countSlips_12 : decode cX3_countSlips 12 = .ok (.iaload, 1) := by decide +kernel
theorem dX3_countSlips_13 : decode cX3_countSlips 13 = .ok (.ifCond .eq 6, 3) := by decide +kernel
theorem dX3_countSlips_16 : decode cX3_countSlips 16 = .ok (.iinc 1 1, 3) := by decide +kernel
theorem dX3_countSlips_19 : decode cX3_countSlips 19 = .ok (.iinc 2 1, 3) := by decide +kernel
theorem dX3_countSlips_22 : decode cX3_countSlips 22 = .ok (.goto (-18), 3) := by decide +kernel
theorem dX3_countSlips_25 : decode cX3_countSlips 25 = .ok (.iload_n 1, 1) := by decide +kernel
theorem dX3_countSlips_26 : decode cX3_countSlips 26 = .ok (.ireturn, 1) := by decide +kernel
theorem dX4_init_0 : decode cX4_init 0 = .ok (.aload_n 0, 1) := by decide +kernel
theorem dX4_init_1 : decode cX4_init 1 = .ok (.invokespecial 1, 3) := by decide +kernel
theorem dX4_init_4 : decode cX4_init 4 = .ok (.aload_n 0, 1) := by decide +kernel
theorem dX4_init_5 : decode cX4_init 5 = .ok (.bipush 12, 2) := by decide +kernel
theorem dX4_init_7 : decode cX4_init 7 = .ok (.newarray .int, 2) := by decide +kernel
theorem dX4_init_9 : decode cX4_init 9 = .ok (.putfield 7, 3) := by decide +kernel
theorem dX4_init_12 : decode cX4_init 12 = .ok (.aload_n 0, 1) := by decide +kernel
theorem dX4_init_13 : decode cX4_init 13 = .ok (.bipush 12, 2) := by decide +kernel
theorem dX4_init_15 : decode cX4_init 15 = .ok (.newarray .int, 2) := by decide +kernel
theorem dX4_init_17 : decode cX4_init 17 = .ok (.putfield 13, 3) := by decide +kernel
theorem dX4_init_20 : decode cX4_init 20 = .ok (.aload_n 0, 1) := by decide +kernel
theorem dX4_init_21 : decode cX4_init 21 = .ok (.bipush 12, 2) := by decide +kernel
theorem dX4_init_23 : decode cX4_init 23 = .ok (.newarray .int, 2) := by decide +kernel
theorem dX4_init_25 : decode cX4_init 25 = .ok (.putfield 16, 3) := by decide +kernel
theorem dX4_init_28 : decode cX4_init 28 = .ok (.aload_n 0, 1) := by decide +kernel
theorem dX4_init_29 : decode cX4_init 29 = .ok (.bipush 12, 2) := by decide +kernel
theorem dX4_init_31 : decode cX4_init 31 = .ok (.newarray .boolean, 2) := by decide +kernel
theorem dX4_init_33 : decode cX4_init 33 = .ok (.putfield 19, 3) := by decide +kernel
theorem dX4_init_36 : decode cX4_init 36 = .ok (.aload_n 0, 1) := by decide +kernel
theorem dX4_init_37 : decode cX4_init 37 = .ok (.iconst 4, 1) := by decide +kernel
theorem dX4_init_38 : decode cX4_init 38 = .ok (.newarray .int, 2) := by decide +kernel
theorem dX4_init_40 : decode cX4_init 40 = .ok (.putfield 23, 3) := by decide +kernel
theorem dX4_init_43 : decode cX4_init 43 = .ok (.aload_n 0, 1) := by decide +kernel
theorem dX4_init_44 : decode cX4_init 44 = .ok (.bipush 7, 2) := by decide +kernel
theorem dX4_init_46 : decode cX4_init 46 = .ok (.newarray .int, 2) := by decide +kernel
theorem dX4_init_48 : decode cX4_init 48 = .ok (.putfield 26, 3) := by decide +kernel
theorem dX4_init_51 : decode cX4_init 51 = .ok (.aload_n 0, 1) := by decide +kernel
theorem dX4_init_52 : decode cX4_init 52 = .ok (.bipush 28, 2) := by decide +kernel
theorem dX4_init_54 : decode cX4_init 54 = .ok (.newarray .int, 2) := by decide +kernel
theorem dX4_init_56 : decode cX4_init 56 = .ok (.putfield 29, 3) := by decide +kernel
theorem dX4_init_59 : decode cX4_init 59 = .ok (.aload_n 0, 1) := by decide +kernel
theorem dX4_init_60 : decode cX4_init 60 = .ok (.iconst 2, 1) := by decide +kernel
theorem dX4_init_61 : decode cX4_init 61 = .ok (.newarray .int, 2) := by decide +kernel
theorem dX4_init_63 : decode cX4_init 63 = .ok (.putfield 32, 3) := by decide +kernel
theorem dX4_init_66 : decode cX4_init 66 = .ok (.aload_n 0, 1) := by decide +kernel
theorem dX4_init_67 : decode cX4_init 67 = .ok (.sipush 336, 3) := by decide +kernel
theorem dX4_init_70 : decode cX4_init 70 = .ok (.newarray .int, 2) := by decide +kernel
theorem dX4_init_72 : decode cX4_init 72 = .ok (.putfield 35, 3) := by decide +kernel
theorem dX4_init_75 : decode cX4_init 75 = .ok (.aload_n 0, 1) := by decide +kernel
theorem dX4_init_76 : decode cX4_init 76 = .ok (.sipush 336, 3) := by decide +kernel
theorem dX4_init_79 : decode cX4_init 79 = .ok (.newarray .int, 2) := by decide +kernel
theorem dX4_init_81 : decode cX4_init 81 = .ok (.putfield 38, 3) := by decide +kernel
theorem dX4_init_84 : decode cX4_init 84 = .ok (.aload_n 0, 1) := by decide +kernel
theorem dX4_init_85 : decode cX4_init 85 = .ok (.sipush 336, 3) := by decide +kernel
theorem dX4_init_88 : decode cX4_init 88 = .ok (.newarray .int, 2) := by decide +kernel
theorem dX4_init_90 : decode cX4_init 90 = .ok (.putfield 41, 3) := by decide +kernel
theorem dX4_init_93 : decode cX4_init 93 = .ok (.aload_n 0, 1) := by decide +kernel
theorem dX4_init_94 : decode cX4_init 94 = .ok (.sipush 336, 3) := by decide +kernel
theorem dX4_init_97 : decode cX4_init 97 = .ok (.newarray .int, 2) := by decide +kernel
theorem dX4_init_99 : decode cX4_init 99 = .ok (.putfield 44, 3) := by decide +kernel
theorem dX4_init_102 : decode cX4_init 102 = .ok (.aload_n 0, 1) := by decide +kernel
theorem dX4_init_103 : decode cX4_init 103 = .ok (.sipush 336, 3) := by decide +kernel
theorem dX4_init_106 : decode cX4_init 106 = .ok (.newarray .int, 2) := by decide +kernel
theorem dX4_init_108 : decode cX4_init 108 = .ok (.putfield 47, 3) := by decide +kernel
theorem dX4_init_111 : decode cX4_init 111 = .ok (.aload_n 0, 1) := by decide +kernel
theorem dX4_init_112 : decode cX4_init 112 = .ok (.sipush 336, 3) := by decide +kernel
theorem dX4_init_115 : decode cX4_init 115 = .ok (.newarray .int, 2) := by decide +kernel
theorem dX4_init_117 : decode cX4_init 117 = .ok (.putfield 50, 3) := by decide +kernel
theorem dX4_init_120 : decode cX4_init 120 = .ok (.aload_n 0, 1) := by decide +kernel
theorem dX4_init_121 : decode cX4_init 121 = .ok (.sipush 336, 3) := by decide +kernel
theorem dX4_init_124 : decode cX4_init 124 = .ok (.newarray .int, 2) := by decide +kernel
theorem dX4_init_126 : decode cX4_init 126 = .ok (.putfield 53, 3) := by decide +kernel
theorem dX4_init_129 : decode cX4_init 129 = .ok (.aload_n 0, 1) := by decide +kernel
theorem dX4_init_130 : decode cX4_init 130 = .ok (.sipush 336, 3) := by decide +kernel
theorem dX4_init_133 : decode cX4_init 133 = .ok (.newarray .int, 2) := by decide +kernel
theorem dX4_init_135 : decode cX4_init 135 = .ok (.putfield 56, 3) := by decide +kernel
theorem dX4_init_138 : decode cX4_init 138 = .ok (.aload_n 0, 1) := by decide +kernel
theorem dX4_init_139 : decode cX4_init 139 = .ok (.bipush 28, 2) := by decide +kernel
theorem dX4_init_141 : decode cX4_init 141 = .ok (.newarray .int, 2) := by decide +kernel
theorem dX4_init_143 : decode cX4_init 143 = .ok (.putfield 59, 3) := by decide +kernel
theorem dX4_init_146 : decode cX4_init 146 = .ok (.aload_n 0, 1) := by decide +kernel
theorem dX4_init_147 : decode cX4_init 147 = .ok (.bipush 28, 2) := by decide +kernel
theorem dX4_init_149 : decode cX4_init 149 = .ok (.newarray .int, 2) := by decide +kernel
theorem dX4_init_151 : decode cX4_init 151 = .ok (.putfield 62, 3) := by decide +kernel
theorem dX4_init_154 : decode cX4_init 154 = .ok (.aload_n 0, 1) := by decide +kernel
theorem dX4_init_155 : decode cX4_init 155 = .ok (.sipush 1344, 3) := by decide +kernel
theorem dX4_init_158 : decode cX4_init 158 = .ok (.newarray .int, 2) := by decide +kernel
theorem dX4_init_160 : decode cX4_init 160 = .ok (.putfield 65, 3) := by decide +kernel
theorem dX4_init_163 : decode cX4_init 163 = .ok (.aload_n 0, 1) := by decide +kernel
theorem dX4_init_164 : decode cX4_init 164 = .ok (.bipush 15, 2) := by decide +kernel
theorem dX4_init_166 : decode cX4_init 166 = .ok (.newarray .int, 2) := by decide +kernel
theorem dX4_init_168 : decode cX4_init 168 = .ok (.putfield 68, 3) := by decide +kernel
theorem dX4_init_171 : decode cX4_init 171 = .ok (.aload_n 0, 1) := by decide +kernel
theorem dX4_init_172 : decode cX4_init 172 = .ok (.bipush 15, 2) := by decide +kernel
theorem dX4_init_174 : decode cX4_init 174 = .ok (.newarray .int, 2) := by decide +kernel
theorem dX4_init_176 : decode cX4_init 176 = .ok (.putfield 71, 3) := by decide +kernel
theorem dX4_init_179 : decode cX4_init 179 = .ok (.aload_n 0, 1) := by decide +kernel
theorem dX4_init_180 : decode cX4_init 180 = .ok (.bipush 15, 2) := by decide +kernel
theorem dX4_init_182 : decode cX4_init 182 = .ok (.newarray .int, 2) := by decide +kernel
theorem dX4_init_184 : decode cX4_init 184 = .ok (.putfield 74, 3) := by decide +kernel
theorem dX4_init_187 : decode cX4_init 187 = .ok (.aload_n 0, 1) := by decide +kernel
theorem dX4_init_188 : decode cX4_init 188 = .ok (.bipush 15, 2) := by decide +kernel
theorem dX4_init_190 : decode cX4_init 190 = .ok (.newarray .int, 2) := by decide +kernel
theorem dX4_init_192 : decode cX4_init 192 = .ok (.putfield 77, 3) := by decide +kernel
theorem dX4_init_195 : decode cX4_init 195 = .ok (.iconst 0, 1) := by decide +kernel
theorem dX4_init_196 : decode cX4_init 196 = .ok (.istore_n 1, 1) := by decide +kernel
theorem dX4_init_197 : decode cX4_init 197 = .ok (.iload_n 1, 1) := by decide +kernel
theorem dX4_init_198 : decode cX4_init 198 = .ok (.iconst 4, 1) := by decide +kernel
theorem dX4_init_199 : decode cX4_init 199 = .ok (.if_icmp .ge 17, 3) := by decide +kernel
theorem dX4_init_202 : decode cX4_init 202 = .ok (.aload_n 0, 1) := by decide +kernel
theorem dX4_init_203 : decode cX4_init 203 = .ok (.getfield 23, 3) := by decide +kernel
theorem dX4_init_206 : decode cX4_init 206 = .ok (.iload_n 1, 1) := by decide +kernel
theorem dX4_init_207 : decode cX4_init 207 = .ok (.bipush (-9), 2) := by decide +kernel
theorem dX4_init_209 : decode cX4_init 209 = .ok (.iastore, 1) := by decide +kernel
theorem dX4_init_210 : decode cX4_init 210 = .ok (.iinc 1 1, 3) := by decide +kernel
theorem dX4_init_213 : decode cX4_init 213 = .ok (.goto (-16), 3) := by decide +kernel
theorem dX4_init_216 : decode cX4_init 216 = .ok (.aload_n 0, 1) := by decide +kernel
theorem dX4_init_217 : decode cX4_init 217 = .ok (.getfield 32, 3) := by decide +kernel
theorem dX4_init_220 : decode cX4_init 220 = .ok (.iconst 0, 1) := by decide +kernel
theorem dX4_init_221 : decode cX4_init 221 = .ok (.iconst 1, 1) := by decide +kernel
theorem dX4_init_222 : decode cX4_init 222 = .ok (.iastore, 1) := by decide +kernel
theorem dX4_init_223 : decode cX4_init 223 = .ok (.aload_n 0, 1) := by decide +kernel
theorem dX4_init_224 : decode cX4_init 224 = .ok (.getfield 32, 3) := by decide +kernel
theorem dX4_init_227 : decode cX4_init 227 = .ok (.iconst 1, 1) := by decide +kernel
theorem dX4_init_228 : decode cX4_init 228 = .ok (.bipush 7, 2) := by decide +kernel
theorem dX4_init_230 : decode cX4_init 230 = .ok (.iastore, 1) := by decide +kernel
theorem dX4_init_231 : decode cX4_init 231 = .ok (.return_, 1) := by decide +kernel
theorem dX4_within_0 : decode cX4_within 0 = .ok (.iload_n 0, 1) := by decide +kernel
theorem dX4_within_1 : decode cX4_within 1 = .ok (.iload_n 1, 1) := by decide +kernel
theorem dX4_within_2 : decode cX4_within 2 = .ok (.if_icmp .lt 12, 3) := by decide +kernel
theorem dX4_within_5 : decode cX4_within 5 = .ok (.iload_n 0, 1) := by decide +kernel
theorem dX4_within_6 : decode cX4_within 6 = .ok (.iload_n 2, 1) := by decide +kernel
theorem dX4_within_7 : decode cX4_within 7 = .ok (.if_icmp .gt 7, 3) := by decide +kernel
theorem dX4_within_10 : decode cX4_within 10 = .ok (.iconst 1, 1) := by decide +kernel
theorem dX4_within_11 : decode cX4_within 11 = .ok (.goto 4, 3) := by decide +kernel
theorem dX4_within_14 : decode cX4_within 14 = .ok (.iconst 0, 1) := by decide +kernel
theorem dX4_within_15 : decode cX4_within 15 = .ok (.ireturn, 1) := by decide +kernel
theorem dX4_isBox_0 : decode cX4_isBox 0 = .ok (.iload_n 0, 1) := by decide +kernel
theorem dX4_isBox_1 : decode cX4_isBox 1 = .ok (.iconst 0, 1) := by decide +kernel
theorem dX4_isBox_2 : decode cX4_isBox 2 = .ok (.bipush 6, 2) := by decide +kernel
theorem dX4_isBox_4 : decode cX4_isBox 4 = .ok (.invokestatic 80, 3) := by decide +kernel
theorem dX4_isBox_7 : decode cX4_isBox 7 = .ok (.ireturn, 1) := by decide +kernel
theorem dX4_isClass_0 : decode cX4_isClass 0 = .ok (.iload_n 0, 1) := by decide +kernel
theorem dX4_isClass_1 : decode cX4_isClass 1 = .ok (.iconst 0, 1) := by decide +kernel
theorem dX4_isClass_2 : decode cX4_isClass 2 = .ok (.iconst 3, 1) := by decide +kernel
theorem dX4_isClass_3 : decode cX4_isClass 3 = .ok (.invokestatic 80, 3) := by decide +kernel
theorem dX4_isClass_6 : decode cX4_isClass 6 = .ok (.ireturn, 1) := by decide +kernel
theorem dX4_isLink_0 : decode cX4_isLink 0 = .ok (.iload_n 1, 1) := by decide +kernel
theorem dX4_isLink_1 : decode cX4_isLink 1 = .ok (.iconst 0, 1) := by decide +kernel
theorem dX4_isLink_2 : decode cX4_isLink 2 = .ok (.aload_n 0, 1) := by decide +kernel
theorem dX4_isLink_3 : decode cX4_isLink 3 = .ok (.getfield 84, 3) := by decide +kernel
theorem dX4_isLink_6 : decode cX4_isLink 6 = .ok (.iconst 1, 1) := by decide +kernel
theorem dX4_isLink_7 : decode cX4_isLink 7 = .ok (.isub, 1) := by decide +kernel
theorem dX4_isLink_8 : decode cX4_isLink 8 = .ok (.invokestatic 80, 3) := by decide +kernel
theorem dX4_isLink_11 : decode cX4_isLink 11 = .ok (.ireturn, 1) := by decide +kernel
theorem dX4_linkBetween_0 : decode cX4_linkBetween 0 = .ok (.iconst 0, 1) := by decide +kernel
theorem dX4_linkBetween_1 : decode cX4_linkBetween 1 = .ok (.istore_n 3, 1) := by decide +kernel
theorem dX4_linkBetween_2 : decode cX4_linkBetween 2 = .ok (.iload_n 3, 1) := by decide +kernel
theorem dX4_linkBetween_3 : decode cX4_linkBetween 3 = .ok (.aload_n 0, 1) := by decide +kernel
theorem dX4_linkBetween_4 : decode cX4_linkBetween 4 = .ok (.getfield 84, 3) := by decide +kernel
theorem dX4_linkBetween_7 : decode cX4_linkBetween 7 = .ok (.if_icmp .ge 51, 3) := by decide +kernel
theorem dX4_linkBetween_10 : decode cX4_linkBetween 10 = .ok (.aload_n 0, 1) := by decide +kernel
theorem dX4_linkBetween_11 : decode cX4_linkBetween 11 = .ok (.getfield 7, 3) := by decide +kernel
theorem dX4_linkBetween_14 : decode cX4_linkBetween 14 = .ok (.iload_n 3, 1) := by decide +kernel
theorem dX4_linkBetween_15 : decode cX4_linkBetween 15 = .ok (.iaload, 1) := by decide +kernel
theorem dX4_linkBetween_16 : decode cX4_linkBetween 16 = .ok (.iload_n 1, 1) := by decide +kernel
theorem dX4_linkBetween_17 : decode cX4_linkBetween 17 = .ok (.if_icmp .ne 13, 3) := by decide +kernel
theorem dX4_linkBetween_20 : decode cX4_linkBetween 20 = .ok (.aload_n 0, 1) := by decide +kernel
theorem dX4_linkBetween_21 : decode cX4_linkBetween 21 = .ok (.getfield 13, 3) := by decide +kernel
theorem dX4_linkBetween_24 : decode cX4_linkBetween 24 = .ok (.iload_n 3, 1) := by decide +kernel
theorem dX4_linkBetween_25 : decode cX4_linkBetween 25 = .ok (.iaload, 1) := by decide +kernel
theorem dX4_linkBetween_26 : decode cX4_linkBetween 26 = .ok (.iload_n 2, 1) := by decide +kernel
theorem dX4_linkBetween_27 : decode cX4_linkBetween 27 = .ok (.if_icmp .eq 23, 3) := by decide +kernel
theorem dX4_linkBetween_30 : decode cX4_linkBetween 30 = .ok (.aload_n 0, 1) := by decide +kernel
theorem dX4_linkBetween_31 : decode cX4_linkBetween 31 = .ok (.getfield 7, 3) := by decide +kernel
theorem dX4_linkBetween_34 : decode cX4_linkBetween 34 = .ok (.iload_n 3, 1) := by decide +kernel
theorem dX4_linkBetween_35 : decode cX4_linkBetween 35 = .ok (.iaload, 1) := by decide +kernel
theorem dX4_linkBetween_36 : decode cX4_linkBetween 36 = .ok (.iload_n 2, 1) := by decide +kernel
theorem dX4_linkBetween_37 : decode cX4_linkBetween 37 = .ok (.if_icmp .ne 15, 3) := by decide +kernel
theorem dX4_linkBetween_40 : decode cX4_linkBetween 40 = .ok (.aload_n 0, 1) := by decide +kernel
theorem dX4_linkBetween_41 : decode cX4_linkBetween 41 = .ok (.getfield 13, 3) := by decide +kernel
theorem dX4_linkBetween_44 : decode cX4_linkBetween 44 = .ok (.iload_n 3, 1) := by decide +kernel
theorem dX4_linkBetween_45 : decode cX4_linkBetween 45 = .ok (.iaload, 1) := by decide +kernel
theorem dX4_linkBetween_46 : decode cX4_linkBetween 46 = .ok (.iload_n 1, 1) := by decide +kernel
theorem dX4_linkBetween_47 : decode cX4_linkBetween 47 = .ok (.if_icmp .ne 5, 3) := by decide +kernel
theorem dX4_linkBetween_50 : decode cX4_linkBetween 50 = .ok (.iload_n 3, 1) := by decide +kernel
theorem dX4_linkBetween_51 : decode cX4_linkBetween 51 = .ok (.ireturn, 1) := by decide +kernel
theorem dX4_linkBetween_52 : decode cX4_linkBetween 52 = .ok (.iinc 3 1, 3) := by decide +kernel
theorem dX4_linkBetween_55 : decode cX4_linkBetween 55 = .ok (.goto (-53), 3) := by decide +kernel
theorem dX4_linkBetween_58 : decode cX4_linkBetween 58 = .ok (.bipush (-9), 2) := by decide +kernel
theorem dX4_linkBetween_60 : decode cX4_linkBetween 60 = .ok (.ireturn, 1) := by decide +kernel
theorem dX4_isAt_0 : decode cX4_isAt 0 = .ok (.aload_n 0, 1) := by decide +kernel
theorem dX4_isAt_1 : decode cX4_isAt 1 = .ok (.getfield 7, 3) := by decide +kernel
theorem dX4_isAt_4 : decode cX4_isAt 4 = .ok (.iload_n 1, 1) := by decide +kernel
theorem dX4_isAt_5 : decode cX4_isAt 5 = .ok (.iaload, 1) := by decide +kernel
theorem dX4_isAt_6 : decode cX4_isAt 6 = .ok (.iload_n 2, 1) := by decide +kernel
theorem dX4_isAt_7 : decode cX4_isAt 7 = .ok (.if_icmp .eq 13, 3) := by decide +kernel
theorem dX4_isAt_10 : decode cX4_isAt 10 = .ok (.aload_n 0, 1) := by decide +kernel
theorem dX4_isAt_11 : decode cX4_isAt 11 = .ok (.getfield 13, 3) := by decide +kernel
theorem dX4_isAt_14 : decode cX4_isAt 14 = .ok (.iload_n 1, 1) := by decide +kernel
theorem dX4_isAt_15 : decode cX4_isAt 15 = .ok (.iaload, 1) := by decide +kernel
theorem dX4_isAt_16 : decode cX4_isAt 16 = .ok (.iload_n 2, 1) := by decide +kernel
theorem dX4_isAt_17 : decode cX4_isAt 17 = .ok (.if_icmp .ne 7, 3) := by decide +kernel
theorem dX4_isAt_20 : decode cX4_isAt 20 = .ok (.iconst 1, 1) := by decide +kernel
theorem dX4_isAt_21 : decode cX4_isAt 21 = .ok (.goto 4, 3) := by decide +kernel
theorem dX4_isAt_24 : decode cX4_isAt 24 = .ok (.iconst 0, 1) := by decide +kernel
theorem dX4_isAt_25 : decode cX4_isAt 25 = .ok (.ireturn, 1) := by decide +kernel
theorem dX4_otherOf_0 : decode cX4_otherOf 0 = .ok (.aload_n 0, 1) := by decide +kernel
theorem dX4_otherOf_1 : decode cX4_otherOf 1 = .ok (.getfield 7, 3) := by decide +kernel
theorem dX4_otherOf_4 : decode cX4_otherOf 4 = .ok (.iload_n 1, 1) := by decide +kernel
theorem dX4_otherOf_5 : decode cX4_otherOf 5 = .ok (.iaload, 1) := by decide +kernel
theorem dX4_otherOf_6 : decode cX4_otherOf 6 = .ok (.iload_n 2, 1) := by decide +kernel
theorem dX4_otherOf_7 : decode cX4_otherOf 7 = .ok (.if_icmp .ne 12, 3) := by decide +kernel
theorem dX4_otherOf_10 : decode cX4_otherOf 10 = .ok (.aload_n 0, 1) := by decide +kernel
theorem dX4_otherOf_11 : decode cX4_otherOf 11 = .ok (.getfield 13, 3) := by decide +kernel
theorem dX4_otherOf_14 : decode cX4_otherOf 14 = .ok (.iload_n 1, 1) := by decide +kernel
theorem dX4_otherOf_15 : decode cX4_otherOf 15 = .ok (.iaload, 1) := by decide +kernel
theorem dX4_otherOf_16 : decode cX4_otherOf 16 = .ok (.goto 9, 3) := by decide +kernel
theorem dX4_otherOf_19 : decode cX4_otherOf 19 = .ok (.aload_n 0, 1) := by decide +kernel
theorem dX4_otherOf_20 : decode cX4_otherOf 20 = .ok (.getfield 7, 3) := by decide +kernel
theorem dX4_otherOf_23 : decode cX4_otherOf 23 = .ok (.iload_n 1, 1) := by decide +kernel
theorem dX4_otherOf_24 : decode cX4_otherOf 24 = .ok (.iaload, 1) := by decide +kernel
theorem dX4_otherOf_25 : decode cX4_otherOf 25 = .ok (.ireturn, 1) := by decide +kernel
theorem dX4_link_0 : decode cX4_link 0 = .ok (.iload_n 1, 1) := by decide +kernel
theorem dX4_link_1 : decode cX4_link 1 = .ok (.invokestatic 88, 3) := by decide +kernel
theorem dX4_link_4 : decode cX4_link 4 = .ok (.ifCond .eq 10, 3) := by decide +kernel
theorem dX4_link_7 : decode cX4_link 7 = .ok (.iload_n 2, 1) := by decide +kernel
theorem dX4_link_8 : decode cX4_link 8 = .ok (.invokestatic 88, 3) := by decide +kernel
theorem dX4_link_11 : decode cX4_link 11 = .ok (.ifCond .ne 5, 3) := by decide +kernel
theorem dX4_link_14 : decode cX4_link 14 = .ok (.iconst (-1), 1) := by decide +kernel
theorem dX4_link_15 : decode cX4_link 15 = .ok (.ireturn, 1) := by decide +kernel
theorem dX4_link_16 : decode cX4_link 16 = .ok (.iload_n 3, 1) := by decide +kernel
theorem dX4_link_17 : decode cX4_link 17 = .ok (.iconst 1, 1) := by decide +kernel
theorem dX4_link_18 : decode cX4_link 18 = .ok (.bipush 9, 2) := by decide +kernel
theorem dX4_link_20 : decode cX4_link 20 = .ok (.invokestatic 80, 3) := by decide +kernel
theorem dX4_link_23 : decode cX4_link 23 = .ok (.ifCond .ne 6, 3) := by decide +kernel
theorem dX4_link_26 : decode cX4_link 26 = .ok (.bipush (-2), 2) := by decide +kernel
theorem dX4_link_28 : decode cX4_link 28 = .ok (.ireturn, 1) := by decide +kernel
theorem dX4_link_29 : decode cX4_link 29 = .ok (.iload_n 1, 1) := by decide +kernel
theorem dX4_link_30 : decode cX4_link 30 = .ok (.iload_n 2, 1) := by decide +kernel
theorem dX4_link_31 : decode cX4_link 31 = .ok (.if_icmp .eq 14, 3) := by decide +kernel
theorem dX4_link_34 : decode cX4_link 34 = .ok (.aload_n 0, 1) := by decide +kernel
theorem dX4_link_35 : decode cX4_link 35 = .ok (.iload_n 1, 1) := by decide +kernel
theorem dX4_link_36 : decode cX4_link 36 = .ok (.iload_n 2, 1) := by decide +kernel
theorem dX4_link_37 : decode cX4_link 37 = .ok (.invokevirtual 92, 3) := by decide +kernel
theorem dX4_link_40 : decode cX4_link 40 = .ok (.bipush (-9), 2) := by decide +kernel
theorem dX4_link_42 : decode cX4_link 42 = .ok (.if_icmp .eq 6, 3) := by decide +kernel
theorem dX4_link_45 : decode cX4_link 45 = .ok (.bipush (-3), 2) := by decide +kernel
theorem dX4_link_47 : decode cX4_link 47 = .ok (.ireturn, 1) := by decide +kernel
theorem dX4_link_48 : decode cX4_link 48 = .ok (.aload_n 0, 1) := by decide +kernel
theorem dX4_link_49 : decode cX4_link 49 = .ok (.getfield 84, 3) := by decide +kernel
theorem dX4_link_52 : decode cX4_link 52 = .ok (.bipush 12, 2) := by decide +kernel
theorem dX4_link_54 : decode cX4_link 54 = .ok (.if_icmp .ne 6, 3) := by decide +kernel
theorem dX4_link_57 : decode cX4_link 57 = .ok (.bipush (-4), 2) := by decide +kernel
theorem dX4_link_59 : decode cX4_link 59 = .ok (.ireturn, 1) := by decide +kernel
theorem dX4_link_60 : decode cX4_link 60 = .ok (.aload_n 0, 1) := by decide +kernel
theorem dX4_link_61 : decode cX4_link 61 = .ok (.getfield 7, 3) := by decide +kernel
theorem dX4_link_64 : decode cX4_link 64 = .ok (.aload_n 0, 1) := by decide +kernel
theorem dX4_link_65 : decode cX4_link 65 = .ok (.getfield 84, 3) := by decide +kernel
theorem dX4_link_68 : decode cX4_link 68 = .ok (.iload_n 1, 1) := by decide +kernel
theorem dX4_link_69 : decode cX4_link 69 = .ok (.iload_n 2, 1) := by decide +kernel
theorem dX4_link_70 : decode cX4_link 70 = .ok (.if_icmp .ge 7, 3) := by decide +kernel
theorem dX4_link_73 : decode cX4_link 73 = .ok (.iload_n 1, 1) := by decide +kernel
theorem dX4_link_74 : decode cX4_link 74 = .ok (.goto 4, 3) := by decide +kernel
theorem dX4_link_77 : decode cX4_link 77 = .ok (.iload_n 2, 1) := by decide +kernel
theorem dX4_link_78 : decode cX4_link 78 = .ok (.iastore, 1) := by decide +kernel
theorem dX4_link_79 : decode cX4_link 79 = .ok (.aload_n 0, 1) := by decide +kernel
theorem dX4_link_80 : decode cX4_link 80 = .ok (.getfield 13, 3) := by decide +kernel
theorem dX4_link_83 : decode cX4_link 83 = .ok (.aload_n 0, 1) := by decide +kernel
theorem dX4_link_84 : decode cX4_link 84 = .ok (.getfield 84, 3) := by decide +kernel
theorem dX4_link_87 : decode cX4_link 87 = .ok (.iload_n 1, 1) := by decide +kernel
theorem dX4_link_88 : decode cX4_link 88 = .ok (.iload_n 2, 1) := by decide +kernel
theorem dX4_link_89 : decode cX4_link 89 = .ok (.if_icmp .ge 7, 3) := by decide +kernel
theorem dX4_link_92 : decode cX4_link 92 = .ok (.iload_n 2, 1) := by decide +kernel
theorem dX4_link_93 : decode cX4_link 93 = .ok (.goto 4, 3) := by decide +kernel
theorem dX4_link_96 : decode cX4_link 96 = .ok (.iload_n 1, 1) := by decide +kernel
theorem dX4_link_97 : decode cX4_link 97 = .ok (.iastore, 1) := by decide +kernel
theorem dX4_link_98 : decode cX4_link 98 = .ok (.aload_n 0, 1) := by decide +kernel
theorem dX4_link_99 : decode cX4_link 99 = .ok (.getfield 16, 3) := by decide +kernel
theorem dX4_link_102 : decode cX4_link 102 = .ok (.aload_n 0, 1) := by decide +kernel
theorem dX4_link_103 : decode cX4_link 103 = .ok (.getfield 84, 3) := by decide +kernel
theorem dX4_link_106 : decode cX4_link 106 = .ok (.iload_n 3, 1) := by decide +kernel
theorem dX4_link_107 : decode cX4_link 107 = .ok (.iastore, 1) := by decide +kernel
theorem dX4_link_108 : decode cX4_link 108 = .ok (.aload_n 0, 1) := by decide +kernel
theorem dX4_link_109 : decode cX4_link 109 = .ok (.getfield 19, 3) := by decide +kernel
theorem dX4_link_112 : decode cX4_link 112 = .ok (.aload_n 0, 1) := by decide +kernel
theorem dX4_link_113 : decode cX4_link 113 = .ok (.getfield 84, 3) := by decide +kernel
theorem dX4_link_116 : decode cX4_link 116 = .ok (.iconst 1, 1) := by decide +kernel
theorem dX4_link_117 : decode cX4_link 117 = .ok (.bastore, 1) := by decide +kernel
theorem dX4_link_118 : decode cX4_link 118 = .ok (.aload_n 0, 1) := by decide +kernel
theorem dX4_link_119 : decode cX4_link 119 = .ok (.dup, 1) := by decide +kernel
theorem dX4_link_120 : decode cX4_link 120 = .ok (.getfield 84, 3) := by decide +kernel
theorem dX4_link_123 : decode cX4_link 123 = .ok (.iconst 1, 1) := by decide +kernel
theorem dX4_link_124 : decode cX4_link 124 = .ok (.iadd, 1) := by decide +kernel
theorem dX4_link_125 : decode cX4_link 125 = .ok (.putfield 84, 3) := by decide +kernel
theorem dX4_link_128 : decode cX4_link 128 = .ok (.aload_n 0, 1) := by decide +kernel
theorem dX4_link_129 : decode cX4_link 129 = .ok (.getfield 84, 3) := by decide +kernel
theorem dX4_link_132 : decode cX4_link 132 = .ok (.iconst 1, 1) := by decide +kernel
theorem dX4_link_133 : decode cX4_link 133 = .ok (.isub, 1) := by decide +kernel
theorem dX4_link_134 : decode cX4_link 134 = .ok (.ireturn, 1) := by decide +kernel
theorem dX4_cost_0 : decode cX4_cost 0 = .ok (.aload_n 0, 1) := by decide +kernel
theorem dX4_cost_1 : decode cX4_cost 1 = .ok (.iload_n 1, 1) := by decide +kernel
theorem dX4_cost_2 : decode cX4_cost 2 = .ok (.invokevirtual 96, 3) := by decide +kernel
theorem dX4_cost_5 : decode cX4_cost 5 = .ok (.ifCond .ne 5, 3) := by decide +kernel
theorem dX4_cost_8 : decode cX4_cost 8 = .ok (.iconst (-1), 1) := by decide +kernel
end
section
theorem dX4_cost_9 : decode cX4_cost 9 = .ok (.ireturn, 1) := by decide +kernel
theorem dX4_cost_10 : decode cX4_cost 10 = .ok (.iload_n 2, 1) := by decide +kernel
theorem dX4_cost_11 : decode cX4_cost 11 = .ok (.iconst 1, 1) := by decide +kernel
theorem dX4_cost_12 : decode cX4_cost 12 = .ok (.bipush 9, 2) := by decide +kernel
theorem dX4_cost_14 : decode cX4_cost 14 = .ok (.invokestatic 80, 3) := by decide +kernel
theorem dX4_cost_17 : decode cX4_cost 17 = .ok (.ifCond .ne 6, 3) := by decide +kernel
theorem dX4_cost_20 : decode cX4_cost 20 = .ok (.bipush (-2), 2) := by decide +kernel
theorem dX4_cost_22 : decode cX4_cost 22 = .ok (.ireturn, 1) := by decide +kernel
theorem dX4_cost_23 : decode cX4_cost 23 = .ok (.aload_n 0, 1) := by decide +kernel
theorem dX4_cost_24 : decode cX4_cost 24 = .ok (.getfield 16, 3) := by decide +kernel
theorem dX4_cost_27 : decode cX4_cost 27 = .ok (.iload_n 1, 1) := by decide +kernel
theorem dX4_cost_28 : decode cX4_cost 28 = .ok (.iaload, 1) := by decide +kernel
theorem dX4_cost_29 : decode cX4_cost 29 = .ok (.istore_n 3, 1) := by decide +kernel
theorem dX4_cost_30 : decode cX4_cost 30 = .ok (.aload_n 0, 1) := by decide +kernel
theorem dX4_cost_31 : decode cX4_cost 31 = .ok (.getfield 16, 3) := by decide +kernel
theorem dX4_cost_34 : decode cX4_cost 34 = .ok (.iload_n 1, 1) := by decide +kernel
theorem dX4_cost_35 : decode cX4_cost 35 = .ok (.iload_n 2, 1) := by decide +kernel
theorem dX4_cost_36 : decode cX4_cost 36 = .ok (.iastore, 1) := by decide +kernel
theorem dX4_cost_37 : decode cX4_cost 37 = .ok (.iload_n 3, 1) := by decide +kernel
theorem dX4_cost_38 : decode cX4_cost 38 = .ok (.ireturn, 1) := by decide +kernel
theorem dX4_up_0 : decode cX4_up 0 = .ok (.aload_n 0, 1) := by decide +kernel
theorem dX4_up_1 : decode cX4_up 1 = .ok (.iload_n 1, 1) := by decide +kernel
theorem dX4_up_2 : decode cX4_up 2 = .ok (.invokevirtual 96, 3) := by decide +kernel
theorem dX4_up_5 : decode cX4_up 5 = .ok (.ifCond .ne 5, 3) := by decide +kernel
theorem dX4_up_8 : decode cX4_up 8 = .ok (.iconst (-1), 1) := by decide +kernel
theorem dX4_up_9 : decode cX4_up 9 = .ok (.ireturn, 1) := by decide +kernel
theorem dX4_up_10 : decode cX4_up 10 = .ok (.iload_n 2, 1) := by decide +kernel
theorem dX4_up_11 : decode cX4_up 11 = .ok (.iconst 0, 1) := by decide +kernel
theorem dX4_up_12 : decode cX4_up 12 = .ok (.iconst 1, 1) := by decide +kernel
theorem dX4_up_13 : decode cX4_up 13 = .ok (.invokestatic 80, 3) := by decide +kernel
theorem dX4_up_16 : decode cX4_up 16 = .ok (.ifCond .ne 6, 3) := by decide +kernel
theorem dX4_up_19 : decode cX4_up 19 = .ok (.bipush (-2), 2) := by decide +kernel
theorem dX4_up_21 : decode cX4_up 21 = .ok (.ireturn, 1) := by decide +kernel
theorem dX4_up_22 : decode cX4_up 22 = .ok (.aload_n 0, 1) := by decide +kernel
theorem dX4_up_23 : decode cX4_up 23 = .ok (.getfield 19, 3) := by decide +kernel
theorem dX4_up_26 : decode cX4_up 26 = .ok (.iload_n 1, 1) := by decide +kernel
theorem dX4_up_27 : decode cX4_up 27 = .ok (.baload, 1) := by decide +kernel
theorem dX4_up_28 : decode cX4_up 28 = .ok (.ifCond .eq 7, 3) := by decide +kernel
theorem dX4_up_31 : decode cX4_up 31 = .ok (.iconst 1, 1) := by decide +kernel
theorem dX4_up_32 : decode cX4_up 32 = .ok (.goto 4, 3) := by decide +kernel
theorem dX4_up_35 : decode cX4_up 35 = .ok (.iconst 0, 1) := by decide +kernel
theorem dX4_up_36 : decode cX4_up 36 = .ok (.istore_n 3, 1) := by decide +kernel
theorem dX4_up_37 : decode cX4_up 37 = .ok (.aload_n 0, 1) := by decide +kernel
theorem dX4_up_38 : decode cX4_up 38 = .ok (.getfield 19, 3) := by decide +kernel
theorem dX4_up_41 : decode cX4_up 41 = .ok (.iload_n 1, 1) := by decide +kernel
theorem dX4_up_42 : decode cX4_up 42 = .ok (.iload_n 2, 1) := by decide +kernel
theorem dX4_up_43 : decode cX4_up 43 = .ok (.iconst 1, 1) := by decide +kernel
theorem dX4_up_44 : decode cX4_up 44 = .ok (.if_icmp .ne 7, 3) := by decide +kernel
theorem dX4_up_47 : decode cX4_up 47 = .ok (.iconst 1, 1) := by decide +kernel
theorem dX4_up_48 : decode cX4_up 48 = .ok (.goto 4, 3) := by decide +kernel
theorem dX4_up_51 : decode cX4_up 51 = .ok (.iconst 0, 1) := by decide +kernel
theorem dX4_up_52 : decode cX4_up 52 = .ok (.bastore, 1) := by decide +kernel
theorem dX4_up_53 : decode cX4_up 53 = .ok (.iconst 0, 1) := by decide +kernel
theorem dX4_up_54 : decode cX4_up 54 = .ok (.istore 4, 2) := by decide +kernel
theorem dX4_up_56 : decode cX4_up 56 = .ok (.iload 4, 2) := by decide +kernel
theorem dX4_up_58 : decode cX4_up 58 = .ok (.sipush 336, 3) := by decide +kernel
theorem dX4_up_61 : decode cX4_up 61 = .ok (.if_icmp .ge 40, 3) := by decide +kernel
theorem dX4_up_64 : decode cX4_up 64 = .ok (.iload_n 2, 1) := by decide +kernel
theorem dX4_up_65 : decode cX4_up 65 = .ok (.ifCond .ne 36, 3) := by decide +kernel
theorem dX4_up_68 : decode cX4_up 68 = .ok (.iload 4, 2) := by decide +kernel
theorem dX4_up_70 : decode cX4_up 70 = .ok (.iconst 4, 1) := by decide +kernel
theorem dX4_up_71 : decode cX4_up 71 = .ok (.idiv, 1) := by decide +kernel
theorem dX4_up_72 : decode cX4_up 72 = .ok (.bipush 12, 2) := by decide +kernel
theorem dX4_up_74 : decode cX4_up 74 = .ok (.irem, 1) := by decide +kernel
theorem dX4_up_75 : decode cX4_up 75 = .ok (.iload_n 1, 1) := by decide +kernel
theorem dX4_up_76 : decode cX4_up 76 = .ok (.if_icmp .ne 19, 3) := by decide +kernel
theorem dX4_up_79 : decode cX4_up 79 = .ok (.aload_n 0, 1) := by decide +kernel
theorem dX4_up_80 : decode cX4_up 80 = .ok (.getfield 35, 3) := by decide +kernel
theorem dX4_up_83 : decode cX4_up 83 = .ok (.iload 4, 2) := by decide +kernel
theorem dX4_up_85 : decode cX4_up 85 = .ok (.iconst 0, 1) := by decide +kernel
theorem dX4_up_86 : decode cX4_up 86 = .ok (.iastore, 1) := by decide +kernel
theorem dX4_up_87 : decode cX4_up 87 = .ok (.aload_n 0, 1) := by decide +kernel
theorem dX4_up_88 : decode cX4_up 88 = .ok (.getfield 41, 3) := by decide +kernel
theorem dX4_up_91 : decode cX4_up 91 = .ok (.iload 4, 2) := by decide +kernel
theorem dX4_up_93 : decode cX4_up 93 = .ok (.iconst 0, 1) := by decide +kernel
theorem dX4_up_94 : decode cX4_up 94 = .ok (.iastore, 1) := by decide +kernel
theorem dX4_up_95 : decode cX4_up 95 = .ok (.iinc 4 1, 3) := by decide +kernel
theorem dX4_up_98 : decode cX4_up 98 = .ok (.goto (-42), 3) := by decide +kernel
theorem dX4_up_101 : decode cX4_up 101 = .ok (.iload_n 3, 1) := by decide +kernel
theorem dX4_up_102 : decode cX4_up 102 = .ok (.ireturn, 1) := by decide +kernel
theorem dX4_end_0 : decode cX4_end 0 = .ok (.iload_n 1, 1) := by decide +kernel
theorem dX4_end_1 : decode cX4_end 1 = .ok (.invokestatic 99, 3) := by decide +kernel
theorem dX4_end_4 : decode cX4_end 4 = .ok (.ifCond .ne 5, 3) := by decide +kernel
theorem dX4_end_7 : decode cX4_end 7 = .ok (.iconst (-1), 1) := by decide +kernel
theorem dX4_end_8 : decode cX4_end 8 = .ok (.ireturn, 1) := by decide +kernel
theorem dX4_end_9 : decode cX4_end 9 = .ok (.iload_n 2, 1) := by decide +kernel
theorem dX4_end_10 : decode cX4_end 10 = .ok (.bipush (-9), 2) := by decide +kernel
theorem dX4_end_12 : decode cX4_end 12 = .ok (.if_icmp .eq 13, 3) := by decide +kernel
theorem dX4_end_15 : decode cX4_end 15 = .ok (.iload_n 2, 1) := by decide +kernel
theorem dX4_end_16 : decode cX4_end 16 = .ok (.invokestatic 88, 3) := by decide +kernel
theorem dX4_end_19 : decode cX4_end 19 = .ok (.ifCond .ne 6, 3) := by decide +kernel
theorem dX4_end_22 : decode cX4_end 22 = .ok (.bipush (-2), 2) := by decide +kernel
theorem dX4_end_24 : decode cX4_end 24 = .ok (.ireturn, 1) := by decide +kernel
theorem dX4_end_25 : decode cX4_end 25 = .ok (.aload_n 0, 1) := by decide +kernel
theorem dX4_end_26 : decode cX4_end 26 = .ok (.getfield 23, 3) := by decide +kernel
theorem dX4_end_29 : decode cX4_end 29 = .ok (.iload_n 1, 1) := by decide +kernel
theorem dX4_end_30 : decode cX4_end 30 = .ok (.iaload, 1) := by decide +kernel
theorem dX4_end_31 : decode cX4_end 31 = .ok (.istore_n 3, 1) := by decide +kernel
theorem dX4_end_32 : decode cX4_end 32 = .ok (.aload_n 0, 1) := by decide +kernel
theorem dX4_end_33 : decode cX4_end 33 = .ok (.getfield 23, 3) := by decide +kernel
theorem dX4_end_36 : decode cX4_end 36 = .ok (.iload_n 1, 1) := by decide +kernel
theorem dX4_end_37 : decode cX4_end 37 = .ok (.iload_n 2, 1) := by decide +kernel
theorem dX4_end_38 : decode cX4_end 38 = .ok (.iastore, 1) := by decide +kernel
theorem dX4_end_39 : decode cX4_end 39 = .ok (.iload_n 3, 1) := by decide +kernel
theorem dX4_end_40 : decode cX4_end 40 = .ok (.ireturn, 1) := by decide +kernel
theorem dX4_ofLink_0 : decode cX4_ofLink 0 = .ok (.aload_n 0, 1) := by decide +kernel
theorem dX4_ofLink_1 : decode cX4_ofLink 1 = .ok (.iload_n 1, 1) := by decide +kernel
theorem dX4_ofLink_2 : decode cX4_ofLink 2 = .ok (.invokevirtual 96, 3) := by decide +kernel
theorem dX4_ofLink_5 : decode cX4_ofLink 5 = .ok (.ifCond .ne 5, 3) := by decide +kernel
theorem dX4_ofLink_8 : decode cX4_ofLink 8 = .ok (.iconst (-1), 1) := by decide +kernel
theorem dX4_ofLink_9 : decode cX4_ofLink 9 = .ok (.ireturn, 1) := by decide +kernel
theorem dX4_ofLink_10 : decode cX4_ofLink 10 = .ok (.iload_n 2, 1) := by decide +kernel
theorem dX4_ofLink_11 : decode cX4_ofLink 11 = .ok (.tableswitch 65 0 3 #[29, 36, 43, 50], 29) := by decide +kernel
theorem dX4_ofLink_40 : decode cX4_ofLink 40 = .ok (.aload_n 0, 1) := by decide +kernel
theorem dX4_ofLink_41 : decode cX4_ofLink 41 = .ok (.getfield 7, 3) := by decide +kernel
theorem dX4_ofLink_44 : decode cX4_ofLink 44 = .ok (.iload_n 1, 1) := by decide +kernel
theorem dX4_ofLink_45 : decode cX4_ofLink 45 = .ok (.iaload, 1) := by decide +kernel
theorem dX4_ofLink_46 : decode cX4_ofLink 46 = .ok (.ireturn, 1) := by decide +kernel
theorem dX4_ofLink_47 : decode cX4_ofLink 47 = .ok (.aload_n 0, 1) := by decide +kernel
theorem dX4_ofLink_48 : decode cX4_ofLink 48 = .ok (.getfield 13, 3) := by decide +kernel
theorem dX4_ofLink_51 : decode cX4_ofLink 51 = .ok (.iload_n 1, 1) := by decide +kernel
theorem dX4_ofLink_52 : decode cX4_ofLink 52 = .ok (.iaload, 1) := by decide +kernel
theorem dX4_ofLink_53 : decode cX4_ofLink 53 = .ok (.ireturn, 1) := by decide +kernel
theorem dX4_ofLink_54 : decode cX4_ofLink 54 = .ok (.aload_n 0, 1) := by decide +kernel
theorem dX4_ofLink_55 : decode cX4_ofLink 55 = .ok (.getfield 16, 3) := by decide +kernel
theorem dX4_ofLink_58 : decode cX4_ofLink 58 = .ok (.iload_n 1, 1) := by decide +kernel
theorem dX4_ofLink_59 : decode cX4_ofLink 59 = .ok (.iaload, 1) := by decide +kernel
theorem dX4_ofLink_60 : decode cX4_ofLink 60 = .ok (.ireturn, 1) := by decide +kernel
theorem dX4_ofLink_61 : decode cX4_ofLink 61 = .ok (.aload_n 0, 1) := by decide +kernel
theorem dX4_ofLink_62 : decode cX4_ofLink 62 = .ok (.getfield 19, 3) := by decide +kernel
theorem dX4_ofLink_65 : decode cX4_ofLink 65 = .ok (.iload_n 1, 1) := by decide +kernel
theorem dX4_ofLink_66 : decode cX4_ofLink 66 = .ok (.baload, 1) := by decide +kernel
theorem dX4_ofLink_67 : decode cX4_ofLink 67 = .ok (.ifCond .eq 7, 3) := by decide +kernel
theorem dX4_ofLink_70 : decode cX4_ofLink 70 = .ok (.iconst 1, 1) := by decide +kernel
theorem dX4_ofLink_71 : decode cX4_ofLink 71 = .ok (.goto 4, 3) := by decide +kernel
theorem dX4_ofLink_74 : decode cX4_ofLink 74 = .ok (.iconst 0, 1) := by decide +kernel
theorem dX4_ofLink_75 : decode cX4_ofLink 75 = .ok (.ireturn, 1) := by decide +kernel
theorem dX4_ofLink_76 : decode cX4_ofLink 76 = .ok (.bipush (-2), 2) := by decide +kernel
theorem dX4_ofLink_78 : decode cX4_ofLink 78 = .ok (.ireturn, 1) := by decide +kernel
theorem dX4_findFar_0 : decode cX4_findFar 0 = .ok (.iconst 0, 1) := by decide +kernel
theorem dX4_findFar_1 : decode cX4_findFar 1 = .ok (.istore_n 2, 1) := by decide +kernel
theorem dX4_findFar_2 : decode cX4_findFar 2 = .ok (.iload_n 2, 1) := by decide +kernel
theorem dX4_findFar_3 : decode cX4_findFar 3 = .ok (.bipush 7, 2) := by decide +kernel
theorem dX4_findFar_5 : decode cX4_findFar 5 = .ok (.if_icmp .ge 32, 3) := by decide +kernel
theorem dX4_findFar_8 : decode cX4_findFar 8 = .ok (.aload_n 0, 1) := by decide +kernel
theorem dX4_findFar_9 : decode cX4_findFar 9 = .ok (.getfield 26, 3) := by decide +kernel
theorem dX4_findFar_12 : decode cX4_findFar 12 = .ok (.iload_n 2, 1) := by decide +kernel
theorem dX4_findFar_13 : decode cX4_findFar 13 = .ok (.aload_n 0, 1) := by decide +kernel
theorem dX4_findFar_14 : decode cX4_findFar 14 = .ok (.getfield 23, 3) := by decide +kernel
theorem dX4_findFar_17 : decode cX4_findFar 17 = .ok (.iload_n 1, 1) := by decide +kernel
theorem dX4_findFar_18 : decode cX4_findFar 18 = .ok (.iaload, 1) := by decide +kernel
theorem dX4_findFar_19 : decode cX4_findFar 19 = .ok (.iload_n 2, 1) := by decide +kernel
theorem dX4_findFar_20 : decode cX4_findFar 20 = .ok (.if_icmp .ne 7, 3) := by decide +kernel
theorem dX4_findFar_23 : decode cX4_findFar 23 = .ok (.iconst 0, 1) := by decide +kernel
theorem dX4_findFar_24 : decode cX4_findFar 24 = .ok (.goto 6, 3) := by decide +kernel
theorem dX4_findFar_27 : decode cX4_findFar 27 = .ok (.sipush 1000, 3) := by decide +kernel
theorem dX4_findFar_30 : decode cX4_findFar 30 = .ok (.iastore, 1) := by decide +kernel
theorem dX4_findFar_31 : decode cX4_findFar 31 = .ok (.iinc 2 1, 3) := by decide +kernel
theorem dX4_findFar_34 : decode cX4_findFar 34 = .ok (.goto (-32), 3) := by decide +kernel
theorem dX4_findFar_37 : decode cX4_findFar 37 = .ok (.iconst 1, 1) := by decide +kernel
theorem dX4_findFar_38 : decode cX4_findFar 38 = .ok (.istore_n 2, 1) := by decide +kernel
theorem dX4_findFar_39 : decode cX4_findFar 39 = .ok (.iload_n 2, 1) := by decide +kernel
theorem dX4_findFar_40 : decode cX4_findFar 40 = .ok (.ifCond .eq 152, 3) := by decide +kernel
theorem dX4_findFar_43 : decode cX4_findFar 43 = .ok (.iconst 0, 1) := by decide +kernel
theorem dX4_findFar_44 : decode cX4_findFar 44 = .ok (.istore_n 2, 1) := by decide +kernel
theorem dX4_findFar_45 : decode cX4_findFar 45 = .ok (.iconst 0, 1) := by decide +kernel
theorem dX4_findFar_46 : decode cX4_findFar 46 = .ok (.istore_n 3, 1) := by decide +kernel
theorem dX4_findFar_47 : decode cX4_findFar 47 = .ok (.iload_n 3, 1) := by decide +kernel
theorem dX4_findFar_48 : decode cX4_findFar 48 = .ok (.aload_n 0, 1) := by decide +kernel
theorem dX4_findFar_49 : decode cX4_findFar 49 = .ok (.getfield 84, 3) := by decide +kernel
theorem dX4_findFar_52 : decode cX4_findFar 52 = .ok (.if_icmp .ge 137, 3) := by decide +kernel
theorem dX4_findFar_55 : decode cX4_findFar 55 = .ok (.aload_n 0, 1) := by decide +kernel
theorem dX4_findFar_56 : decode cX4_findFar 56 = .ok (.getfield 7, 3) := by decide +kernel
theorem dX4_findFar_59 : decode cX4_findFar 59 = .ok (.iload_n 3, 1) := by decide +kernel
theorem dX4_findFar_60 : decode cX4_findFar 60 = .ok (.iaload, 1) := by decide +kernel
theorem dX4_findFar_61 : decode cX4_findFar 61 = .ok (.istore 4, 2) := by decide +kernel
theorem dX4_findFar_63 : decode cX4_findFar 63 = .ok (.aload_n 0, 1) := by decide +kernel
theorem dX4_findFar_64 : decode cX4_findFar 64 = .ok (.getfield 13, 3) := by decide +kernel
theorem dX4_findFar_67 : decode cX4_findFar 67 = .ok (.iload_n 3, 1) := by decide +kernel
theorem dX4_findFar_68 : decode cX4_findFar 68 = .ok (.iaload, 1) := by decide +kernel
theorem dX4_findFar_69 : decode cX4_findFar 69 = .ok (.istore 5, 2) := by decide +kernel
theorem dX4_findFar_71 : decode cX4_findFar 71 = .ok (.aload_n 0, 1) := by decide +kernel
theorem dX4_findFar_72 : decode cX4_findFar 72 = .ok (.getfield 19, 3) := by decide +kernel
theorem dX4_findFar_75 : decode cX4_findFar 75 = .ok (.iload_n 3, 1) := by decide +kernel
theorem dX4_findFar_76 : decode cX4_findFar 76 = .ok (.baload, 1) := by decide +kernel
theorem dX4_findFar_77 : decode cX4_findFar 77 = .ok (.ifCond .eq 50, 3) := by decide +kernel
theorem dX4_findFar_80 : decode cX4_findFar 80 = .ok (.aload_n 0, 1) := by decide +kernel
theorem dX4_findFar_81 : decode cX4_findFar 81 = .ok (.getfield 26, 3) := by decide +kernel
theorem dX4_findFar_84 : decode cX4_findFar 84 = .ok (.iload 4, 2) := by decide +kernel
theorem dX4_findFar_86 : decode cX4_findFar 86 = .ok (.iaload, 1) := by decide +kernel
theorem dX4_findFar_87 : decode cX4_findFar 87 = .ok (.aload_n 0, 1) := by decide +kernel
theorem dX4_findFar_88 : decode cX4_findFar 88 = .ok (.getfield 16, 3) := by decide +kernel
theorem dX4_findFar_91 : decode cX4_findFar 91 = .ok (.iload_n 3, 1) := by decide +kernel
theorem dX4_findFar_92 : decode cX4_findFar 92 = .ok (.iaload, 1) := by decide +kernel
theorem dX4_findFar_93 : decode cX4_findFar 93 = .ok (.iadd, 1) := by decide +kernel
theorem dX4_findFar_94 : decode cX4_findFar 94 = .ok (.aload_n 0, 1) := by decide +kernel
theorem dX4_findFar_95 : decode cX4_findFar 95 = .ok (.getfield 26, 3) := by decide +kernel
theorem dX4_findFar_98 : decode cX4_findFar 98 = .ok (.iload 5, 2) := by decide +kernel
theorem dX4_findFar_100 : decode cX4_findFar 100 = .ok (.iaload, 1) := by decide +kernel
theorem dX4_findFar_101 : decode cX4_findFar 101 = .ok (.if_icmp .ge 26, 3) := by decide +kernel
theorem dX4_findFar_104 : decode cX4_findFar 104 = .ok (.aload_n 0, 1) := by decide +kernel
theorem dX4_findFar_105 : decode cX4_findFar 105 = .ok (.getfield 26, 3) := by decide +kernel
theorem dX4_findFar_108 : decode cX4_findFar 108 = .ok (.iload 5, 2) := by decide +kernel
theorem dX4_findFar_110 : decode cX4_findFar 110 = .ok (.aload_n 0, 1) := by decide +kernel
theorem dX4_findFar_111 : decode cX4_findFar 111 = .ok (.getfield 26, 3) := by decide +kernel
theorem dX4_findFar_114 : decode cX4_findFar 114 = .ok (.iload 4, 2) := by decide +kernel
theorem dX4_findFar_116 : decode cX4_findFar 116 = .ok (.iaload, 1) := by decide +kernel
theorem dX4_findFar_117 : decode cX4_findFar 117 = .ok (.aload_n 0, 1) := by decide +kernel
theorem dX4_findFar_118 : decode cX4_findFar 118 = .ok (.getfield 16, 3) := by decide +kernel
theorem dX4_findFar_121 : decode cX4_findFar 121 = .ok (.iload_n 3, 1) := by decide +kernel
theorem dX4_findFar_122 : decode cX4_findFar 122 = .ok (.iaload, 1) := by decide +kernel
theorem dX4_findFar_123 : decode cX4_findFar 123 = .ok (.iadd, 1) := by decide +kernel
theorem dX4_findFar_124 : decode cX4_findFar 124 = .ok (.iastore, 1) := by decide +kernel
theorem dX4_findFar_125 : decode cX4_findFar 125 = .ok (.iconst 1, 1) := by decide +kernel
theorem dX4_findFar_126 : decode cX4_findFar 126 = .ok (.istore_n 2, 1) := by decide +kernel
theorem dX4_findFar_127 : decode cX4_findFar 127 = .ok (.aload_n 0, 1) := by decide +kernel
theorem dX4_findFar_128 : decode cX4_findFar 128 = .ok (.getfield 19, 3) := by decide +kernel
theorem dX4_findFar_131 : decode cX4_findFar 131 = .ok (.iload_n 3, 1) := by decide +kernel
theorem dX4_findFar_132 : decode cX4_findFar 132 = .ok (.baload, 1) := by decide +kernel
theorem dX4_findFar_133 : decode cX4_findFar 133 = .ok (.ifCond .eq 50, 3) := by decide +kernel
theorem dX4_findFar_136 : decode cX4_findFar 136 = .ok (.aload_n 0, 1) := by decide +kernel
theorem dX4_findFar_137 : decode cX4_findFar 137 = .ok (.getfield 26, 3) := by decide +kernel
theorem dX4_findFar_140 : decode cX4_findFar 140 = .ok (.iload 5, 2) := by decide +kernel
theorem dX4_findFar_142 : decode cX4_findFar 142 = .ok (.iaload, 1) := by decide +kernel
theorem dX4_findFar_143 : decode cX4_findFar 143 = .ok (.aload_n 0, 1) := by decide +kernel
theorem dX4_findFar_144 : decode cX4_findFar 144 = .ok (.getfield 16, 3) := by decide +kernel
theorem dX4_findFar_147 : decode cX4_findFar 147 = .ok (.iload_n 3, 1) := by decide +kernel
theorem dX4_findFar_148 : decode cX4_findFar 148 = .ok (.iaload, 1) := by decide +kernel
theorem dX4_findFar_149 : decode cX4_findFar 149 = .ok (.iadd, 1) := by decide +kernel
theorem dX4_findFar_150 : decode cX4_findFar 150 = .ok (.aload_n 0, 1) := by decide +kernel
theorem dX4_findFar_151 : decode cX4_findFar 151 = .ok (.getfield 26, 3) := by decide +kernel
theorem dX4_findFar_154 : decode cX4_findFar 154 = .ok (.iload 4, 2) := by decide +kernel
theorem dX4_findFar_156 : decode cX4_findFar 156 = .ok (.iaload, 1) := by decide +kernel
theorem dX4_findFar_157 : decode cX4_findFar 157 = .ok (.if_icmp .ge 26, 3) := by decide +kernel
theorem dX4_findFar_160 : decode cX4_findFar 160 = .ok (.aload_n 0, 1) := by decide +kernel
theorem dX4_findFar_161 : decode cX4_findFar 161 = .ok (.getfield 26, 3) := by decide +kernel
theorem dX4_findFar_164 : decode cX4_findFar 164 = .ok (.iload 4, 2) := by decide +kernel
theorem dX4_findFar_166 : decode cX4_findFar 166 = .ok (.aload_n 0, 1) := by decide +kernel
theorem dX4_findFar_167 : decode cX4_findFar 167 = .ok (.getfield 26, 3) := by decide +kernel
theorem dX4_findFar_170 : decode cX4_findFar 170 = .ok (.iload 5, 2) := by decide +kernel
theorem dX4_findFar_172 : decode cX4_findFar 172 = .ok (.iaload, 1) := by decide +kernel
theorem dX4_findFar_173 : decode cX4_findFar 173 = .ok (.aload_n 0, 1) := by decide +kernel
theorem dX4_findFar_174 : decode cX4_findFar 174 = .ok (.getfield 16, 3) := by decide +kernel
theorem dX4_findFar_177 : decode cX4_findFar 177 = .ok (.iload_n 3, 1) := by decide +kernel
theorem dX4_findFar_178 : decode cX4_findFar 178 = .ok (.iaload, 1) := by decide +kernel
theorem dX4_findFar_179 : decode cX4_findFar 179 = .ok (.iadd, 1) := by decide +kernel
theorem dX4_findFar_180 : decode cX4_findFar 180 = .ok (.iastore, 1) := by decide +kernel
theorem dX4_findFar_181 : decode cX4_findFar 181 = .ok (.iconst 1, 1) := by decide +kernel
theorem dX4_findFar_182 : decode cX4_findFar 182 = .ok (.istore_n 2, 1) := by decide +kernel
theorem dX4_findFar_183 : decode cX4_findFar 183 = .ok (.iinc 3 1, 3) := by decide +kernel
theorem dX4_findFar_186 : decode cX4_findFar 186 = .ok (.goto (-139), 3) := by decide +kernel
theorem dX4_findFar_189 : decode cX4_findFar 189 = .ok (.goto (-150), 3) := by decide +kernel
theorem dX4_findFar_192 : decode cX4_findFar 192 = .ok (.return_, 1) := by decide +kernel
theorem dX4_nextOf_0 : decode cX4_nextOf 0 = .ok (.aload_n 0, 1) := by decide +kernel
theorem dX4_nextOf_1 : decode cX4_nextOf 1 = .ok (.iload_n 2, 1) := by decide +kernel
theorem dX4_nextOf_2 : decode cX4_nextOf 2 = .ok (.invokevirtual 102, 3) := by decide +kernel
theorem dX4_nextOf_5 : decode cX4_nextOf 5 = .ok (.iconst 0, 1) := by decide +kernel
theorem dX4_nextOf_6 : decode cX4_nextOf 6 = .ok (.istore_n 3, 1) := by decide +kernel
theorem dX4_nextOf_7 : decode cX4_nextOf 7 = .ok (.iload_n 3, 1) := by decide +kernel
theorem dX4_nextOf_8 : decode cX4_nextOf 8 = .ok (.bipush 7, 2) := by decide +kernel
theorem dX4_nextOf_10 : decode cX4_nextOf 10 = .ok (.if_icmp .ge 80, 3) := by decide +kernel
theorem dX4_nextOf_13 : decode cX4_nextOf 13 = .ok (.aload_n 0, 1) := by decide +kernel
theorem dX4_nextOf_14 : decode cX4_nextOf 14 = .ok (.getfield 26, 3) := by decide +kernel
theorem dX4_nextOf_17 : decode cX4_nextOf 17 = .ok (.iload_n 1, 1) := by decide +kernel
theorem dX4_nextOf_18 : decode cX4_nextOf 18 = .ok (.iaload, 1) := by decide +kernel
theorem dX4_nextOf_19 : decode cX4_nextOf 19 = .ok (.ifCond .le 71, 3) := by decide +kernel
theorem dX4_nextOf_22 : decode cX4_nextOf 22 = .ok (.aload_n 0, 1) := by decide +kernel
theorem dX4_nextOf_23 : decode cX4_nextOf 23 = .ok (.getfield 26, 3) := by decide +kernel
theorem dX4_nextOf_26 : decode cX4_nextOf 26 = .ok (.iload_n 1, 1) := by decide +kernel
theorem dX4_nextOf_27 : decode cX4_nextOf 27 = .ok (.iaload, 1) := by decide +kernel
theorem dX4_nextOf_28 : decode cX4_nextOf 28 = .ok (.sipush 1000, 3) := by decide +kernel
theorem dX4_nextOf_31 : decode cX4_nextOf 31 = .ok (.if_icmp .ge 59, 3) := by decide +kernel
theorem dX4_nextOf_34 : decode cX4_nextOf 34 = .ok (.aload_n 0, 1) := by decide +kernel
theorem dX4_nextOf_35 : decode cX4_nextOf 35 = .ok (.iload_n 1, 1) := by decide +kernel
theorem dX4_nextOf_36 : decode cX4_nextOf 36 = .ok (.iload_n 3, 1) := by decide +kernel
theorem dX4_nextOf_37 : decode cX4_nextOf 37 = .ok (.invokevirtual 92, 3) := by decide +kernel
theorem dX4_nextOf_40 : decode cX4_nextOf 40 = .ok (.istore 4, 2) := by decide +kernel
theorem dX4_nextOf_42 : decode cX4_nextOf 42 = .ok (.iload 4, 2) := by decide +kernel
theorem dX4_nextOf_44 : decode cX4_nextOf 44 = .ok (.bipush (-9), 2) := by decide +kernel
theorem dX4_nextOf_46 : decode cX4_nextOf 46 = .ok (.if_icmp .eq 38, 3) := by decide +kernel
theorem dX4_nextOf_49 : decode cX4_nextOf 49 = .ok (.aload_n 0, 1) := by decide +kernel
theorem dX4_nextOf_50 : decode cX4_nextOf 50 = .ok (.getfield 19, 3) := by decide +kernel
theorem dX4_nextOf_53 : decode cX4_nextOf 53 = .ok (.iload 4, 2) := by decide +kernel
theorem dX4_nextOf_55 : decode cX4_nextOf 55 = .ok (.baload, 1) := by decide +kernel
theorem dX4_nextOf_56 : decode cX4_nextOf 56 = .ok (.ifCond .eq 28, 3) := by decide +kernel
theorem dX4_nextOf_59 : decode cX4_nextOf 59 = .ok (.aload_n 0, 1) := by decide +kernel
theorem dX4_nextOf_60 : decode cX4_nextOf 60 = .ok (.getfield 26, 3) := by decide +kernel
theorem dX4_nextOf_63 : decode cX4_nextOf 63 = .ok (.iload_n 3, 1) := by decide +kernel
theorem dX4_nextOf_64 : decode cX4_nextOf 64 = .ok (.iaload, 1) := by decide +kernel
theorem dX4_nextOf_65 : decode cX4_nextOf 65 = .ok (.aload_n 0, 1) := by decide +kernel
theorem dX4_nextOf_66 : decode cX4_nextOf 66 = .ok (.getfield 16, 3) := by decide +kernel
theorem dX4_nextOf_69 : decode cX4_nextOf 69 = .ok (.iload 4, 2) := by decide +kernel
theorem dX4_nextOf_71 : decode cX4_nextOf 71 = .ok (.iaload, 1) := by decide +kernel
theorem dX4_nextOf_72 : decode cX4_nextOf 72 = .ok (.iadd, 1) := by decide +kernel
theorem dX4_nextOf_73 : decode cX4_nextOf 73 = .ok (.aload_n 0, 1) := by decide +kernel
theorem dX4_nextOf_74 : decode cX4_nextOf 74 = .ok (.getfield 26, 3) := by decide +kernel
theorem dX4_nextOf_77 : decode cX4_nextOf 77 = .ok (.iload_n 1, 1) := by decide +kernel
theorem dX4_nextOf_78 : decode cX4_nextOf 78 = .ok (.iaload, 1) := by decide +kernel
theorem dX4_nextOf_79 : decode cX4_nextOf 79 = .ok (.if_icmp .ne 5, 3) := by decide +kernel
theorem dX4_nextOf_82 : decode cX4_nextOf 82 = .ok (.iload_n 3, 1) := by decide +kernel
theorem dX4_nextOf_83 : decode cX4_nextOf 83 = .ok (.ireturn, 1) := by decide +kernel
theorem dX4_nextOf_84 : decode cX4_nextOf 84 = .ok (.iinc 3 1, 3) := by decide +kernel
theorem dX4_nextOf_87 : decode cX4_nextOf 87 = .ok (.goto (-80), 3) := by decide +kernel
theorem dX4_nextOf_90 : decode cX4_nextOf 90 = .ok (.bipush (-9), 2) := by decide +kernel
theorem dX4_nextOf_92 : decode cX4_nextOf 92 = .ok (.ireturn, 1) := by decide +kernel
theorem dX4_next_0 : decode cX4_next 0 = .ok (.iload_n 1, 1) := by decide +kernel
theorem dX4_next_1 : decode cX4_next 1 = .ok (.invokestatic 88, 3) := by decide +kernel
theorem dX4_next_4 : decode cX4_next 4 = .ok (.ifCond .eq 19, 3) := by decide +kernel
theorem dX4_next_7 : decode cX4_next 7 = .ok (.iload_n 2, 1) := by decide +kernel
theorem dX4_next_8 : decode cX4_next 8 = .ok (.invokestatic 99, 3) := by decide +kernel
theorem dX4_next_11 : decode cX4_next 11 = .ok (.ifCond .eq 12, 3) := by decide +kernel
theorem dX4_next_14 : decode cX4_next 14 = .ok (.aload_n 0, 1) := by decide +kernel
theorem dX4_next_15 : decode cX4_next 15 = .ok (.iload_n 1, 1) := by decide +kernel
theorem dX4_next_16 : decode cX4_next 16 = .ok (.iload_n 2, 1) := by decide +kernel
theorem dX4_next_17 : decode cX4_next 17 = .ok (.invokevirtual 106, 3) := by decide +kernel
theorem dX4_next_20 : decode cX4_next 20 = .ok (.goto 4, 3) := by decide +kernel
theorem dX4_next_23 : decode cX4_next 23 = .ok (.iconst (-1), 1) := by decide +kernel
theorem dX4_next_24 : decode cX4_next 24 = .ok (.ireturn, 1) := by decide +kernel
theorem dX4_far_0 : decode cX4_far 0 = .ok (.iload_n 1, 1) := by decide +kernel
theorem dX4_far_1 : decode cX4_far 1 = .ok (.invokestatic 88, 3) := by decide +kernel
theorem dX4_far_4 : decode cX4_far 4 = .ok (.ifCond .eq 10, 3) := by decide +kernel
theorem dX4_far_7 : decode cX4_far 7 = .ok (.iload_n 2, 1) := by decide +kernel
theorem dX4_far_8 : decode cX4_far 8 = .ok (.invokestatic 99, 3) := by decide +kernel
theorem dX4_far_11 : decode cX4_far 11 = .ok (.ifCond .ne 5, 3) := by decide +kernel
theorem dX4_far_14 : decode cX4_far 14 = .ok (.iconst (-1), 1) := by decide +kernel
theorem dX4_far_15 : decode cX4_far 15 = .ok (.ireturn, 1) := by decide +kernel
theorem dX4_far_16 : decode cX4_far 16 = .ok (.aload_n 0, 1) := by decide +kernel
theorem dX4_far_17 : decode cX4_far 17 = .ok (.iload_n 2, 1) := by decide +kernel
theorem dX4_far_18 : decode cX4_far 18 = .ok (.invokevirtual 102, 3) := by decide +kernel
theorem dX4_far_21 : decode cX4_far 21 = .ok (.aload_n 0, 1) := by decide +kernel
theorem dX4_far_22 : decode cX4_far 22 = .ok (.getfield 26, 3) := by decide +kernel
theorem dX4_far_25 : decode cX4_far 25 = .ok (.iload_n 1, 1) := by decide +kernel
theorem dX4_far_26 : decode cX4_far 26 = .ok (.iaload, 1) := by decide +kernel
theorem dX4_far_27 : decode cX4_far 27 = .ok (.sipush 1000, 3) := by decide +kernel
theorem dX4_far_30 : decode cX4_far 30 = .ok (.if_icmp .ge 12, 3) := by decide +kernel
theorem dX4_far_33 : decode cX4_far 33 = .ok (.aload_n 0, 1) := by decide +kernel
theorem dX4_far_34 : decode cX4_far 34 = .ok (.getfield 26, 3) := by decide +kernel
theorem dX4_far_37 : decode cX4_far 37 = .ok (.iload_n 1, 1) := by decide +kernel
theorem dX4_far_38 : decode cX4_far 38 = .ok (.iaload, 1) := by decide +kernel
theorem dX4_far_39 : decode cX4_far 39 = .ok (.goto 5, 3) := by decide +kernel
theorem dX4_far_42 : decode cX4_far 42 = .ok (.bipush (-9), 2) := by decide +kernel
theorem dX4_far_44 : decode cX4_far 44 = .ok (.ireturn, 1) := by decide +kernel
theorem dX4_at_0 : decode cX4_at 0 = .ok (.iconst 4, 1) := by decide +kernel
theorem dX4_at_1 : decode cX4_at 1 = .ok (.bipush 12, 2) := by decide +kernel
theorem dX4_at_3 : decode cX4_at 3 = .ok (.iload_n 0, 1) := by decide +kernel
theorem dX4_at_4 : decode cX4_at 4 = .ok (.imul, 1) := by decide +kernel
theorem dX4_at_5 : decode cX4_at 5 = .ok (.iload_n 1, 1) := by decide +kernel
theorem dX4_at_6 : decode cX4_at 6 = .ok (.iadd, 1) := by decide +kernel
theorem dX4_at_7 : decode cX4_at 7 = .ok (.imul, 1) := by decide +kernel
theorem dX4_at_8 : decode cX4_at 8 = .ok (.iload_n 2, 1) := by decide +kernel
theorem dX4_at_9 : decode cX4_at 9 = .ok (.iadd, 1) := by decide +kernel
theorem dX4_at_10 : decode cX4_at 10 = .ok (.ireturn, 1) := by decide +kernel
theorem dX4_is_0 : decode cX4_is 0 = .ok (.aload_n 0, 1) := by decide +kernel
theorem dX4_is_1 : decode cX4_is 1 = .ok (.getfield 29, 3) := by decide +kernel
theorem dX4_is_4 : decode cX4_is 4 = .ok (.iconst 4, 1) := by decide +kernel
theorem dX4_is_5 : decode cX4_is 5 = .ok (.iload_n 1, 1) := by decide +kernel
theorem dX4_is_6 : decode cX4_is 6 = .ok (.imul, 1) := by decide +kernel
theorem dX4_is_7 : decode cX4_is 7 = .ok (.iload_n 2, 1) := by decide +kernel
theorem dX4_is_8 : decode cX4_is 8 = .ok (.iadd, 1) := by decide +kernel
theorem dX4_is_9 : decode cX4_is 9 = .ok (.iaload, 1) := by decide +kernel
theorem dX4_is_10 : decode cX4_is 10 = .ok (.iconst 1, 1) := by decide +kernel
theorem dX4_is_11 : decode cX4_is 11 = .ok (.if_icmp .ne 7, 3) := by decide +kernel
theorem dX4_is_14 : decode cX4_is 14 = .ok (.iconst 1, 1) := by decide +kernel
theorem dX4_is_15 : decode cX4_is 15 = .ok (.goto 4, 3) := by decide +kernel
theorem dX4_is_18 : decode cX4_is 18 = .ok (.iconst 0, 1) := by decide +kernel
theorem dX4_is_19 : decode cX4_is 19 = .ok (.ireturn, 1) := by decide +kernel
theorem dX4_mode_0 : decode cX4_mode 0 = .ok (.iload_n 1, 1) := by decide +kernel
theorem dX4_mode_1 : decode cX4_mode 1 = .ok (.invokestatic 88, 3) := by decide +kernel
theorem dX4_mode_4 : decode cX4_mode 4 = .ok (.ifCond .ne 5, 3) := by decide +kernel
theorem dX4_mode_7 : decode cX4_mode 7 = .ok (.iconst (-1), 1) := by decide +kernel
theorem dX4_mode_8 : decode cX4_mode 8 = .ok (.ireturn, 1) := by decide +kernel
theorem dX4_mode_9 : decode cX4_mode 9 = .ok (.iload_n 2, 1) := by decide +kernel
theorem dX4_mode_10 : decode cX4_mode 10 = .ok (.iconst 0, 1) := by decide +kernel
theorem dX4_mode_11 : decode cX4_mode 11 = .ok (.iconst 3, 1) := by decide +kernel
theorem dX4_mode_12 : decode cX4_mode 12 = .ok (.invokestatic 80, 3) := by decide +kernel
theorem dX4_mode_15 : decode cX4_mode 15 = .ok (.ifCond .eq 12, 3) := by decide +kernel
theorem dX4_mode_18 : decode cX4_mode 18 = .ok (.iload_n 3, 1) := by decide +kernel
theorem dX4_mode_19 : decode cX4_mode 19 = .ok (.iconst 0, 1) := by decide +kernel
theorem dX4_mode_20 : decode cX4_mode 20 = .ok (.iconst 1, 1) := by decide +kernel
theorem dX4_mode_21 : decode cX4_mode 21 = .ok (.invokestatic 80, 3) := by decide +kernel
theorem dX4_mode_24 : decode cX4_mode 24 = .ok (.ifCond .ne 6, 3) := by decide +kernel
theorem dX4_mode_27 : decode cX4_mode 27 = .ok (.bipush (-2), 2) := by decide +kernel
theorem dX4_mode_29 : decode cX4_mode 29 = .ok (.ireturn, 1) := by decide +kernel
theorem dX4_mode_30 : decode cX4_mode 30 = .ok (.aload_n 0, 1) := by decide +kernel
theorem dX4_mode_31 : decode cX4_mode 31 = .ok (.getfield 29, 3) := by decide +kernel
theorem dX4_mode_34 : decode cX4_mode 34 = .ok (.iconst 4, 1) := by decide +kernel
theorem dX4_mode_35 : decode cX4_mode 35 = .ok (.iload_n 1, 1) := by decide +kernel
theorem dX4_mode_36 : decode cX4_mode 36 = .ok (.imul, 1) := by decide +kernel
theorem dX4_mode_37 : decode cX4_mode 37 = .ok (.iload_n 2, 1) := by decide +kernel
theorem dX4_mode_38 : decode cX4_mode 38 = .ok (.iadd, 1) := by decide +kernel
theorem dX4_mode_39 : decode cX4_mode 39 = .ok (.iaload, 1) := by decide +kernel
theorem dX4_mode_40 : decode cX4_mode 40 = .ok (.istore 4, 2) := by decide +kernel
theorem dX4_mode_42 : decode cX4_mode 42 = .ok (.aload_n 0, 1) := by decide +kernel
theorem dX4_mode_43 : decode cX4_mode 43 = .ok (.getfield 29, 3) := by decide +kernel
theorem dX4_mode_46 : decode cX4_mode 46 = .ok (.iconst 4, 1) := by decide +kernel
theorem dX4_mode_47 : decode cX4_mode 47 = .ok (.iload_n 1, 1) := by decide +kernel
theorem dX4_mode_48 : decode cX4_mode 48 = .ok (.imul, 1) := by decide +kernel
theorem dX4_mode_49 : decode cX4_mode 49 = .ok (.iload_n 2, 1) := by decide +kernel
theorem dX4_mode_50 : decode cX4_mode 50 = .ok (.iadd, 1) := by decide +kernel
theorem dX4_mode_51 : decode cX4_mode 51 = .ok (.iload_n 3, 1) := by decide +kernel
theorem dX4_mode_52 : decode cX4_mode 52 = .ok (.iastore, 1) := by decide +kernel
theorem dX4_mode_53 : decode cX4_mode 53 = .ok (.iload_n 1, 1) := by decide +kernel
theorem dX4_mode_54 : decode cX4_mode 54 = .ok (.iconst 0, 1) := by decide +kernel
theorem dX4_mode_55 : decode cX4_mode 55 = .ok (.iconst 0, 1) := by decide +kernel
theorem dX4_mode_56 : decode cX4_mode 56 = .ok (.invokestatic 109, 3) := by decide +kernel
theorem dX4_mode_59 : decode cX4_mode 59 = .ok (.istore 5, 2) := by decide +kernel
theorem dX4_mode_61 : decode cX4_mode 61 = .ok (.iload 5, 2) := by decide +kernel
theorem dX4_mode_63 : decode cX4_mode 63 = .ok (.iload_n 1, 1) := by decide +kernel
theorem dX4_mode_64 : decode cX4_mode 64 = .ok (.iconst 1, 1) := by decide +kernel
theorem dX4_mode_65 : decode cX4_mode 65 = .ok (.iadd, 1) := by decide +kernel
theorem dX4_mode_66 : decode cX4_mode 66 = .ok (.iconst 0, 1) := by decide +kernel
theorem dX4_mode_67 : decode cX4_mode 67 = .ok (.iconst 0, 1) := by decide +kernel
theorem dX4_mode_68 : decode cX4_mode 68 = .ok (.invokestatic 109, 3) := by decide +kernel
theorem dX4_mode_71 : decode cX4_mode 71 = .ok (.if_icmp .ge 28, 3) := by decide +kernel
theorem dX4_mode_74 : decode cX4_mode 74 = .ok (.iload_n 2, 1) := by decide +kernel
theorem dX4_mode_75 : decode cX4_mode 75 = .ok (.iconst 2, 1) := by decide +kernel
theorem dX4_mode_76 : decode cX4_mode 76 = .ok (.if_icmp .ne 23, 3) := by decide +kernel
theorem dX4_mode_79 : decode cX4_mode 79 = .ok (.iload 4, 2) := by decide +kernel
theorem dX4_mode_81 : decode cX4_mode 81 = .ok (.iload_n 3, 1) := by decide +kernel
theorem dX4_mode_82 : decode cX4_mode 82 = .ok (.if_icmp .eq 17, 3) := by decide +kernel
theorem dX4_mode_85 : decode cX4_mode 85 = .ok (.aload_n 0, 1) := by decide +kernel
theorem dX4_mode_86 : decode cX4_mode 86 = .ok (.getfield 35, 3) := by decide +kernel
theorem dX4_mode_89 : decode cX4_mode 89 = .ok (.iload 5, 2) := by decide +kernel
theorem dX4_mode_91 : decode cX4_mode 91 = .ok (.iconst 0, 1) := by decide +kernel
theorem dX4_mode_92 : decode cX4_mode 92 = .ok (.iastore, 1) := by decide +kernel
theorem dX4_mode_93 : decode cX4_mode 93 = .ok (.iinc 5 1, 3) := by decide +kernel
theorem dX4_mode_96 : decode cX4_mode 96 = .ok (.goto (-35), 3) := by decide +kernel
theorem dX4_mode_99 : decode cX4_mode 99 = .ok (.iload 4, 2) := by decide +kernel
theorem dX4_mode_101 : decode cX4_mode 101 = .ok (.ireturn, 1) := by decide +kernel
theorem dX4_setting_0 : decode cX4_setting 0 = .ok (.iload_n 1, 1) := by decide +kernel
theorem dX4_setting_1 : decode cX4_setting 1 = .ok (.ifCond .ne 12, 3) := by decide +kernel
theorem dX4_setting_4 : decode cX4_setting 4 = .ok (.iload_n 2, 1) := by decide +kernel
theorem dX4_setting_5 : decode cX4_setting 5 = .ok (.iconst 0, 1) := by decide +kernel
theorem dX4_setting_6 : decode cX4_setting 6 = .ok (.iconst 1, 1) := by decide +kernel
theorem dX4_setting_7 : decode cX4_setting 7 = .ok (.invokestatic 80, 3) := by decide +kernel
theorem dX4_setting_10 : decode cX4_setting 10 = .ok (.goto 23, 3) := by decide +kernel
theorem dX4_setting_13 : decode cX4_setting 13 = .ok (.iload_n 1, 1) := by decide +kernel
theorem dX4_setting_14 : decode cX4_setting 14 = .ok (.iconst 1, 1) := by decide +kernel
theorem dX4_setting_15 : decode cX4_setting 15 = .ok (.if_icmp .ne 17, 3) := by decide +kernel
theorem dX4_setting_18 : decode cX4_setting 18 = .ok (.iload_n 2, 1) := by decide +kernel
theorem dX4_setting_19 : decode cX4_setting 19 = .ok (.iconst 1, 1) := by decide +kernel
theorem dX4_setting_20 : decode cX4_setting 20 = .ok (.bipush 9, 2) := by decide +kernel
theorem dX4_setting_22 : decode cX4_setting 22 = .ok (.invokestatic 80, 3) := by decide +kernel
theorem dX4_setting_25 : decode cX4_setting 25 = .ok (.ifCond .eq 7, 3) := by decide +kernel
theorem dX4_setting_28 : decode cX4_setting 28 = .ok (.iconst 1, 1) := by decide +kernel
theorem dX4_setting_29 : decode cX4_setting 29 = .ok (.goto 4, 3) := by decide +kernel
theorem dX4_setting_32 : decode cX4_setting 32 = .ok (.iconst 0, 1) := by decide +kernel
theorem dX4_setting_33 : decode cX4_setting 33 = .ok (.istore_n 3, 1) := by decide +kernel
theorem dX4_setting_34 : decode cX4_setting 34 = .ok (.iload_n 3, 1) := by decide +kernel
theorem dX4_setting_35 : decode cX4_setting 35 = .ok (.ifCond .ne 6, 3) := by decide +kernel
theorem dX4_setting_38 : decode cX4_setting 38 = .ok (.bipush (-2), 2) := by decide +kernel
theorem dX4_setting_40 : decode cX4_setting 40 = .ok (.ireturn, 1) := by decide +kernel
theorem dX4_setting_41 : decode cX4_setting 41 = .ok (.aload_n 0, 1) := by decide +kernel
theorem dX4_setting_42 : decode cX4_setting 42 = .ok (.getfield 32, 3) := by decide +kernel
theorem dX4_setting_45 : decode cX4_setting 45 = .ok (.iload_n 1, 1) := by decide +kernel
theorem dX4_setting_46 : decode cX4_setting 46 = .ok (.iaload, 1) := by decide +kernel
theorem dX4_setting_47 : decode cX4_setting 47 = .ok (.istore 4, 2) := by decide +kernel
theorem dX4_setting_49 : decode cX4_setting 49 = .ok (.aload_n 0, 1) := by decide +kernel
theorem dX4_setting_50 : decode cX4_setting 50 = .ok (.getfield 32, 3) := by decide +kernel
theorem dX4_setting_53 : decode cX4_setting 53 = .ok (.iload_n 1, 1) := by decide +kernel
theorem dX4_setting_54 : decode cX4_setting 54 = .ok (.iload_n 2, 1) := by decide +kernel
theorem dX4_setting_55 : decode cX4_setting 55 = .ok (.iastore, 1) := by decide +kernel
theorem dX4_setting_56 : decode cX4_setting 56 = .ok (.iload 4, 2) := by decide +kernel
theorem dX4_setting_58 : decode cX4_setting 58 = .ok (.ireturn, 1) := by decide +kernel
theorem dX4_usedAt_0 : decode cX4_usedAt 0 = .ok (.aload_n 0, 1) := by decide +kernel
theorem dX4_usedAt_1 : decode cX4_usedAt 1 = .ok (.iload_n 1, 1) := by decide +kernel
theorem dX4_usedAt_2 : decode cX4_usedAt 2 = .ok (.iload_n 2, 1) := by decide +kernel
theorem dX4_usedAt_3 : decode cX4_usedAt 3 = .ok (.invokevirtual 106, 3) := by decide +kernel
theorem dX4_usedAt_6 : decode cX4_usedAt 6 = .ok (.istore_n 3, 1) := by decide +kernel
theorem dX4_usedAt_7 : decode cX4_usedAt 7 = .ok (.iload_n 3, 1) := by decide +kernel
theorem dX4_usedAt_8 : decode cX4_usedAt 8 = .ok (.bipush (-9), 2) := by decide +kernel
theorem dX4_usedAt_10 : decode cX4_usedAt 10 = .ok (.if_icmp .ne 8, 3) := by decide +kernel
theorem dX4_usedAt_13 : decode cX4_usedAt 13 = .ok (.bipush (-9), 2) := by decide +kernel
theorem dX4_usedAt_15 : decode cX4_usedAt 15 = .ok (.goto 14, 3) := by decide +kernel
theorem dX4_usedAt_18 : decode cX4_usedAt 18 = .ok (.iload_n 1, 1) := by decide +kernel
theorem dX4_usedAt_19 : decode cX4_usedAt 19 = .ok (.aload_n 0, 1) := by decide +kernel
theorem dX4_usedAt_20 : decode cX4_usedAt 20 = .ok (.iload_n 1, 1) := by decide +kernel
theorem dX4_usedAt_21 : decode cX4_usedAt 21 = .ok (.iload_n 3, 1) := by decide +kernel
theorem dX4_usedAt_22 : decode cX4_usedAt 22 = .ok (.invokevirtual 92, 3) := by decide +kernel
theorem dX4_usedAt_25 : decode cX4_usedAt 25 = .ok (.iload_n 2, 1) := by decide +kernel
theorem dX4_usedAt_26 : decode cX4_usedAt 26 = .ok (.invokestatic 109, 3) := by decide +kernel
theorem dX4_usedAt_29 : decode cX4_usedAt 29 = .ok (.ireturn, 1) := by decide +kernel
theorem dX4_countOf_0 : decode cX4_countOf 0 = .ok (.aload_n 0, 1) := by decide +kernel
theorem dX4_countOf_1 : decode cX4_countOf 1 = .ok (.getfield 23, 3) := by decide +kernel
theorem dX4_countOf_4 : decode cX4_countOf 4 = .ok (.iload_n 2, 1) := by decide +kernel
theorem dX4_countOf_5 : decode cX4_countOf 5 = .ok (.iaload, 1) := by decide +kernel
theorem dX4_countOf_6 : decode cX4_countOf 6 = .ok (.iload_n 1, 1) := by decide +kernel
theorem dX4_countOf_7 : decode cX4_countOf 7 = .ok (.if_icmp .ne 5, 3) := by decide +kernel
theorem dX4_countOf_10 : decode cX4_countOf 10 = .ok (.iconst 0, 1) := by decide +kernel
theorem dX4_countOf_11 : decode cX4_countOf 11 = .ok (.ireturn, 1) := by decide +kernel
theorem dX4_countOf_12 : decode cX4_countOf 12 = .ok (.aload_n 0, 1) := by decide +kernel
theorem dX4_countOf_13 : decode cX4_countOf 13 = .ok (.iload_n 1, 1) := by decide +kernel
theorem dX4_countOf_14 : decode cX4_countOf 14 = .ok (.iload_n 2, 1) := by decide +kernel
theorem dX4_countOf_15 : decode cX4_countOf 15 = .ok (.invokevirtual 113, 3) := by decide +kernel
theorem dX4_countOf_18 : decode cX4_countOf 18 = .ok (.istore_n 3, 1) := by decide +kernel
theorem dX4_countOf_19 : decode cX4_countOf 19 = .ok (.iload_n 3, 1) := by decide +kernel
theorem dX4_countOf_20 : decode cX4_countOf 20 = .ok (.bipush (-9), 2) := by decide +kernel
theorem dX4_countOf_22 : decode cX4_countOf 22 = .ok (.if_icmp .ne 6, 3) := by decide +kernel
theorem dX4_countOf_25 : decode cX4_countOf 25 = .ok (.bipush (-9), 2) := by decide +kernel
theorem dX4_countOf_27 : decode cX4_countOf 27 = .ok (.ireturn, 1) := by decide +kernel
theorem dX4_countOf_28 : decode cX4_countOf 28 = .ok (.aload_n 0, 1) := by decide +kernel
theorem dX4_countOf_29 : decode cX4_countOf 29 = .ok (.getfield 41, 3) := by decide +kernel
theorem dX4_countOf_32 : decode cX4_countOf 32 = .ok (.iload_n 3, 1) := by decide +kernel
theorem dX4_countOf_33 : decode cX4_countOf 33 = .ok (.iaload, 1) := by decide +kernel
theorem dX4_countOf_34 : decode cX4_countOf 34 = .ok (.ifCond .ne 20, 3) := by decide +kernel
theorem dX4_countOf_37 : decode cX4_countOf 37 = .ok (.aload_n 0, 1) := by decide +kernel
theorem dX4_countOf_38 : decode cX4_countOf 38 = .ok (.getfield 32, 3) := by decide +kernel
theorem dX4_countOf_41 : decode cX4_countOf 41 = .ok (.iconst 0, 1) := by decide +kernel
theorem dX4_countOf_42 : decode cX4_countOf 42 = .ok (.iaload, 1) := by decide +kernel
theorem dX4_countOf_43 : decode cX4_countOf 43 = .ok (.iconst 1, 1) := by decide +kernel
theorem dX4_countOf_44 : decode cX4_countOf 44 = .ok (.if_icmp .ne 8, 3) := by decide +kernel
theorem dX4_countOf_47 : decode cX4_countOf 47 = .ok (.bipush (-9), 2) := by decide +kernel
theorem dX4_countOf_49 : decode cX4_countOf 49 = .ok (.goto 4, 3) := by decide +kernel
theorem dX4_countOf_52 : decode cX4_countOf 52 = .ok (.iconst 1, 1) := by decide +kernel
theorem dX4_countOf_53 : decode cX4_countOf 53 = .ok (.ireturn, 1) := by decide +kernel
theorem dX4_countOf_54 : decode cX4_countOf 54 = .ok (.aload_n 0, 1) := by decide +kernel
theorem dX4_countOf_55 : decode cX4_countOf 55 = .ok (.getfield 44, 3) := by decide +kernel
theorem dX4_countOf_58 : decode cX4_countOf 58 = .ok (.iload_n 3, 1) := by decide +kernel
theorem dX4_countOf_59 : decode cX4_countOf 59 = .ok (.iaload, 1) := by decide +kernel
theorem dX4_countOf_60 : decode cX4_countOf 60 = .ok (.iconst 1, 1) := by decide +kernel
theorem dX4_countOf_61 : decode cX4_countOf 61 = .ok (.iadd, 1) := by decide +kernel
theorem dX4_countOf_62 : decode cX4_countOf 62 = .ok (.aload_n 0, 1) := by decide +kernel
theorem dX4_countOf_63 : decode cX4_countOf 63 = .ok (.getfield 32, 3) := by decide +kernel
theorem dX4_countOf_66 : decode cX4_countOf 66 = .ok (.iconst 1, 1) := by decide +kernel
theorem dX4_countOf_67 : decode cX4_countOf 67 = .ok (.iaload, 1) := by decide +kernel
theorem dX4_countOf_68 : decode cX4_countOf 68 = .ok (.if_icmp .le 8, 3) := by decide +kernel
theorem dX4_countOf_71 : decode cX4_countOf 71 = .ok (.bipush (-9), 2) := by decide +kernel
theorem dX4_countOf_73 : decode cX4_countOf 73 = .ok (.goto 11, 3) := by decide +kernel
theorem dX4_countOf_76 : decode cX4_countOf 76 = .ok (.aload_n 0, 1) := by decide +kernel
theorem dX4_countOf_77 : decode cX4_countOf 77 = .ok (.getfield 44, 3) := by decide +kernel
theorem dX4_countOf_80 : decode cX4_countOf 80 = .ok (.iload_n 3, 1) := by decide +kernel
theorem dX4_countOf_81 : decode cX4_countOf 81 = .ok (.iaload, 1) := by decide +kernel
theorem dX4_countOf_82 : decode cX4_countOf 82 = .ok (.iconst 1, 1) := by decide +kernel
theorem dX4_countOf_83 : decode cX4_countOf 83 = .ok (.iadd, 1) := by decide +kernel
theorem dX4_countOf_84 : decode cX4_countOf 84 = .ok (.ireturn, 1) := by decide +kernel
theorem dX4_hands_0 : decode cX4_hands 0 = .ok (.aload_n 0, 1) := by decide +kernel
theorem dX4_hands_1 : decode cX4_hands 1 = .ok (.iload_n 2, 1) := by decide +kernel
theorem dX4_hands_2 : decode cX4_hands 2 = .ok (.iload_n 1, 1) := by decide +kernel
theorem dX4_hands_3 : decode cX4_hands 3 = .ok (.invokevirtual 116, 3) := by decide +kernel
theorem dX4_hands_6 : decode cX4_hands 6 = .ok (.ifCond .eq 27, 3) := by decide +kernel
theorem dX4_hands_9 : decode cX4_hands 9 = .ok (.aload_n 0, 1) := by decide +kernel
theorem dX4_hands_10 : decode cX4_hands 10 = .ok (.getfield 19, 3) := by decide +kernel
theorem dX4_hands_13 : decode cX4_hands 13 = .ok (.iload_n 2, 1) := by decide +kernel
theorem dX4_hands_14 : decode cX4_hands 14 = .ok (.baload, 1) := by decide +kernel
theorem dX4_hands_15 : decode cX4_hands 15 = .ok (.ifCond .eq 18, 3) := by decide +kernel
theorem dX4_hands_18 : decode cX4_hands 18 = .ok (.aload_n 0, 1) := by decide +kernel
theorem dX4_hands_19 : decode cX4_hands 19 = .ok (.getfield 62, 3) := by decide +kernel
theorem dX4_hands_22 : decode cX4_hands 22 = .ok (.iconst 4, 1) := by decide +kernel
theorem dX4_hands_23 : decode cX4_hands 23 = .ok (.iload_n 1, 1) := by decide +kernel
theorem dX4_hands_24 : decode cX4_hands 24 = .ok (.imul, 1) := by decide +kernel
theorem dX4_hands_25 : decode cX4_hands 25 = .ok (.iload_n 3, 1) := by decide +kernel
theorem dX4_hands_26 : decode cX4_hands 26 = .ok (.iadd, 1) := by decide +kernel
theorem dX4_hands_27 : decode cX4_hands 27 = .ok (.iaload, 1) := by decide +kernel
theorem dX4_hands_28 : decode cX4_hands 28 = .ok (.bipush (-9), 2) := by decide +kernel
theorem dX4_hands_30 : decode cX4_hands 30 = .ok (.if_icmp .ne 5, 3) := by decide +kernel
theorem dX4_hands_33 : decode cX4_hands 33 = .ok (.iconst 0, 1) := by decide +kernel
theorem dX4_hands_34 : decode cX4_hands 34 = .ok (.ireturn, 1) := by decide +kernel
theorem dX4_hands_35 : decode cX4_hands 35 = .ok (.aload_n 0, 1) := by decide +kernel
theorem dX4_hands_36 : decode cX4_hands 36 = .ok (.iload_n 1, 1) := by decide +kernel
theorem dX4_hands_37 : decode cX4_hands 37 = .ok (.iconst 0, 1) := by decide +kernel
theorem dX4_hands_38 : decode cX4_hands 38 = .ok (.invokevirtual 120, 3) := by decide +kernel
theorem dX4_hands_41 : decode cX4_hands 41 = .ok (.ifCond .eq 22, 3) := by decide +kernel
theorem dX4_hands_44 : decode cX4_hands 44 = .ok (.aload_n 0, 1) := by decide +kernel
theorem dX4_hands_45 : decode cX4_hands 45 = .ok (.getfield 59, 3) := by decide +kernel
theorem dX4_hands_48 : decode cX4_hands 48 = .ok (.iconst 4, 1) := by decide +kernel
theorem dX4_hands_49 : decode cX4_hands 49 = .ok (.aload_n 0, 1) := by decide +kernel
theorem dX4_hands_50 : decode cX4_hands 50 = .ok (.iload_n 2, 1) := by decide +kernel
theorem dX4_hands_51 : decode cX4_hands 51 = .ok (.iload_n 1, 1) := by decide +kernel
theorem dX4_hands_52 : decode cX4_hands 52 = .ok (.invokevirtual 123, 3) := by decide +kernel
theorem dX4_hands_55 : decode cX4_hands 55 = .ok (.imul, 1) := by decide +kernel
theorem dX4_hands_56 : decode cX4_hands 56 = .ok (.iload_n 3, 1) := by decide +kernel
theorem dX4_hands_57 : decode cX4_hands 57 = .ok (.iadd, 1) := by decide +kernel
theorem dX4_hands_58 : decode cX4_hands 58 = .ok (.iaload, 1) := by decide +kernel
theorem dX4_hands_59 : decode cX4_hands 59 = .ok (.iload_n 1, 1) := by decide +kernel
theorem dX4_hands_60 : decode cX4_hands 60 = .ok (.if_icmp .ne 7, 3) := by decide +kernel
theorem dX4_hands_63 : decode cX4_hands 63 = .ok (.iconst 1, 1) := by decide +kernel
theorem dX4_hands_64 : decode cX4_hands 64 = .ok (.goto 4, 3) := by decide +kernel
theorem dX4_hands_67 : decode cX4_hands 67 = .ok (.iconst 0, 1) := by decide +kernel
theorem dX4_hands_68 : decode cX4_hands 68 = .ok (.ireturn, 1) := by decide +kernel
theorem dX4_labelWas_0 : decode cX4_labelWas 0 = .ok (.iconst 0, 1) := by decide +kernel
theorem dX4_labelWas_1 : decode cX4_labelWas 1 = .ok (.istore 4, 2) := by decide +kernel
theorem dX4_labelWas_3 : decode cX4_labelWas 3 = .ok (.iload 4, 2) := by decide +kernel
theorem dX4_labelWas_5 : decode cX4_labelWas 5 = .ok (.aload_n 0, 1) := by decide +kernel
theorem dX4_labelWas_6 : decode cX4_labelWas 6 = .ok (.getfield 84, 3) := by decide +kernel
theorem dX4_labelWas_9 : decode cX4_labelWas 9 = .ok (.if_icmp .ge 45, 3) := by decide +kernel
theorem dX4_labelWas_12 : decode cX4_labelWas 12 = .ok (.aload_n 0, 1) := by decide +kernel
theorem dX4_labelWas_13 : decode cX4_labelWas 13 = .ok (.getfield 47, 3) := by decide +kernel
theorem dX4_labelWas_16 : decode cX4_labelWas 16 = .ok (.iload_n 1, 1) := by decide +kernel
theorem dX4_labelWas_17 : decode cX4_labelWas 17 = .ok (.iload 4, 2) := by decide +kernel
theorem dX4_labelWas_19 : decode cX4_labelWas 19 = .ok (.iload_n 3, 1) := by decide +kernel
theorem dX4_labelWas_20 : decode cX4_labelWas 20 = .ok (.invokestatic 109, 3) := by decide +kernel
theorem dX4_labelWas_23 : decode cX4_labelWas 23 = .ok (.iaload, 1) := by decide +kernel
theorem dX4_labelWas_24 : decode cX4_labelWas 24 = .ok (.istore 5, 2) := by decide +kernel
theorem dX4_labelWas_26 : decode cX4_labelWas 26 = .ok (.iload_n 2, 1) := by decide +kernel
theorem dX4_labelWas_27 : decode cX4_labelWas 27 = .ok (.bipush (-9), 2) := by decide +kernel
theorem dX4_labelWas_29 : decode cX4_labelWas 29 = .ok (.if_icmp .eq 9, 3) := by decide +kernel
theorem dX4_labelWas_32 : decode cX4_labelWas 32 = .ok (.iload_n 2, 1) := by decide +kernel
theorem dX4_labelWas_33 : decode cX4_labelWas 33 = .ok (.iload 4, 2) := by decide +kernel
theorem dX4_labelWas_35 : decode cX4_labelWas 35 = .ok (.if_icmp .ne 13, 3) := by decide +kernel
theorem dX4_labelWas_38 : decode cX4_labelWas 38 = .ok (.iload 5, 2) := by decide +kernel
theorem dX4_labelWas_40 : decode cX4_labelWas 40 = .ok (.bipush 16, 2) := by decide +kernel
theorem dX4_labelWas_42 : decode cX4_labelWas 42 = .ok (.if_icmp .lt 6, 3) := by decide +kernel
theorem dX4_labelWas_45 : decode cX4_labelWas 45 = .ok (.iload 5, 2) := by decide +kernel
theorem dX4_labelWas_47 : decode cX4_labelWas 47 = .ok (.ireturn, 1) := by decide +kernel
theorem dX4_labelWas_48 : decode cX4_labelWas 48 = .ok (.iinc 4 1, 3) := by decide +kernel
theorem dX4_labelWas_51 : decode cX4_labelWas 51 = .ok (.goto (-48), 3) := by decide +kernel
theorem dX4_labelWas_54 : decode cX4_labelWas 54 = .ok (.iconst 0, 1) := by decide +kernel
theorem dX4_labelWas_55 : decode cX4_labelWas 55 = .ok (.ireturn, 1) := by decide +kernel
theorem dX4_isInRow_0 : decode cX4_isInRow 0 = .ok (.iconst 0, 1) := by decide +kernel
theorem dX4_isInRow_1 : decode cX4_isInRow 1 = .ok (.istore 4, 2) := by decide +kernel
theorem dX4_isInRow_3 : decode cX4_isInRow 3 = .ok (.iload 4, 2) := by decide +kernel
theorem dX4_isInRow_5 : decode cX4_isInRow 5 = .ok (.aload_n 0, 1) := by decide +kernel
theorem dX4_isInRow_6 : decode cX4_isInRow 6 = .ok (.getfield 84, 3) := by decide +kernel
theorem dX4_isInRow_9 : decode cX4_isInRow 9 = .ok (.if_icmp .ge 55, 3) := by decide +kernel
theorem dX4_isInRow_12 : decode cX4_isInRow 12 = .ok (.iconst 0, 1) := by decide +kernel
theorem dX4_isInRow_13 : decode cX4_isInRow 13 = .ok (.istore 5, 2) := by decide +kernel
theorem dX4_isInRow_15 : decode cX4_isInRow 15 = .ok (.iload 5, 2) := by decide +kernel
theorem dX4_isInRow_17 : decode cX4_isInRow 17 = .ok (.iconst 4, 1) := by decide +kernel
theorem dX4_isInRow_18 : decode cX4_isInRow 18 = .ok (.if_icmp .ge 40, 3) := by decide +kernel
theorem dX4_isInRow_21 : decode cX4_isInRow 21 = .ok (.iload_n 2, 1) := by decide +kernel
theorem dX4_isInRow_22 : decode cX4_isInRow 22 = .ok (.bipush (-9), 2) := by decide +kernel
theorem dX4_isInRow_24 : decode cX4_isInRow 24 = .ok (.if_icmp .eq 9, 3) := by decide +kernel
theorem dX4_isInRow_27 : decode cX4_isInRow 27 = .ok (.iload_n 2, 1) := by decide +kernel
theorem dX4_isInRow_28 : decode cX4_isInRow 28 = .ok (.iload 4, 2) := by decide +kernel
theorem dX4_isInRow_30 : decode cX4_isInRow 30 = .ok (.if_icmp .ne 22, 3) := by decide +kernel
theorem dX4_isInRow_33 : decode cX4_isInRow 33 = .ok (.aload_n 0, 1) := by decide +kernel
theorem dX4_isInRow_34 : decode cX4_isInRow 34 = .ok (.getfield 35, 3) := by decide +kernel
theorem dX4_isInRow_37 : decode cX4_isInRow 37 = .ok (.iload_n 1, 1) := by decide +kernel
theorem dX4_isInRow_38 : decode cX4_isInRow 38 = .ok (.iload 4, 2) := by decide +kernel
theorem dX4_isInRow_40 : decode cX4_isInRow 40 = .ok (.iload 5, 2) := by decide +kernel
theorem dX4_isInRow_42 : decode cX4_isInRow 42 = .ok (.invokestatic 109, 3) := by decide +kernel
theorem dX4_isInRow_45 : decode cX4_isInRow 45 = .ok (.iaload, 1) := by decide +kernel
theorem dX4_isInRow_46 : decode cX4_isInRow 46 = .ok (.iload_n 3, 1) := by decide +kernel
theorem dX4_isInRow_47 : decode cX4_isInRow 47 = .ok (.if_icmp .ne 5, 3) := by decide +kernel
theorem dX4_isInRow_50 : decode cX4_isInRow 50 = .ok (.iconst 1, 1) := by decide +kernel
theorem dX4_isInRow_51 : decode cX4_isInRow 51 = .ok (.ireturn, 1) := by decide +kernel
theorem dX4_isInRow_52 : decode cX4_isInRow 52 = .ok (.iinc 5 1, 3) := by decide +kernel
theorem dX4_isInRow_55 : decode cX4_isInRow 55 = .ok (.goto (-40), 3) := by decide +kernel
theorem dX4_isInRow_58 : decode cX4_isInRow 58 = .ok (.iinc 4 1, 3) := by decide +kernel
theorem dX4_isInRow_61 : decode cX4_isInRow 61 = .ok (.goto (-58), 3) := by decide +kernel
theorem dX4_isInRow_64 : decode cX4_isInRow 64 = .ok (.iconst 0, 1) := by decide +kernel
theorem dX4_isInRow_65 : decode cX4_isInRow 65 = .ok (.ireturn, 1) := by decide +kernel
theorem dX4_isNew_0 : decode cX4_isNew 0 = .ok (.aload_n 0, 1) := by decide +kernel
theorem dX4_isNew_1 : decode cX4_isNew 1 = .ok (.getfield 23, 3) := by decide +kernel
theorem dX4_isNew_4 : decode cX4_isNew 4 = .ok (.iload_n 3, 1) := by decide +kernel
theorem dX4_isNew_5 : decode cX4_isNew 5 = .ok (.iaload, 1) := by decide +kernel
theorem dX4_isNew_6 : decode cX4_isNew 6 = .ok (.iload_n 1, 1) := by decide +kernel
theorem dX4_isNew_7 : decode cX4_isNew 7 = .ok (.if_icmp .ne 12, 3) := by decide +kernel
theorem dX4_isNew_10 : decode cX4_isNew 10 = .ok (.aload_n 0, 1) := by decide +kernel
theorem dX4_isNew_11 : decode cX4_isNew 11 = .ok (.iload_n 1, 1) := by decide +kernel
theorem dX4_isNew_12 : decode cX4_isNew 12 = .ok (.iconst 3, 1) := by decide +kernel
theorem dX4_isNew_13 : decode cX4_isNew 13 = .ok (.invokevirtual 120, 3) := by decide +kernel
theorem dX4_isNew_16 : decode cX4_isNew 16 = .ok (.ifCond .ne 17, 3) := by decide +kernel
theorem dX4_isNew_19 : decode cX4_isNew 19 = .ok (.aload_n 0, 1) := by decide +kernel
theorem dX4_isNew_20 : decode cX4_isNew 20 = .ok (.iload_n 1, 1) := by decide +kernel
theorem dX4_isNew_21 : decode cX4_isNew 21 = .ok (.iload_n 2, 1) := by decide +kernel
theorem dX4_isNew_22 : decode cX4_isNew 22 = .ok (.iload_n 3, 1) := by decide +kernel
theorem dX4_isNew_23 : decode cX4_isNew 23 = .ok (.invokevirtual 126, 3) := by decide +kernel
theorem dX4_isNew_26 : decode cX4_isNew 26 = .ok (.ifCond .ne 7, 3) := by decide +kernel
theorem dX4_isNew_29 : decode cX4_isNew 29 = .ok (.iconst 1, 1) := by decide +kernel
theorem dX4_isNew_30 : decode cX4_isNew 30 = .ok (.goto 4, 3) := by decide +kernel
theorem dX4_isNew_33 : decode cX4_isNew 33 = .ok (.iconst 0, 1) := by decide +kernel
theorem dX4_isNew_34 : decode cX4_isNew 34 = .ok (.ireturn, 1) := by decide +kernel
theorem dX4_labels_0 : decode cX4_labels 0 = .ok (.iconst 0, 1) := by decide +kernel
theorem dX4_labels_1 : decode cX4_labels 1 = .ok (.istore 5, 2) := by decide +kernel
theorem dX4_labels_3 : decode cX4_labels 3 = .ok (.iload 5, 2) := by decide +kernel
theorem dX4_labels_5 : decode cX4_labels 5 = .ok (.aload_n 0, 1) := by decide +kernel
theorem dX4_labels_6 : decode cX4_labels 6 = .ok (.getfield 84, 3) := by decide +kernel
theorem dX4_labels_9 : decode cX4_labels 9 = .ok (.if_icmp .ge 68, 3) := by decide +kernel
theorem dX4_labels_12 : decode cX4_labels 12 = .ok (.iload_n 2, 1) := by decide +kernel
theorem dX4_labels_13 : decode cX4_labels 13 = .ok (.bipush (-9), 2) := by decide +kernel
theorem dX4_labels_15 : decode cX4_labels 15 = .ok (.if_icmp .eq 9, 3) := by decide +kernel
theorem dX4_labels_18 : decode cX4_labels 18 = .ok (.iload_n 2, 1) := by decide +kernel
theorem dX4_labels_19 : decode cX4_labels 19 = .ok (.iload 5, 2) := by decide +kernel
theorem dX4_labels_21 : decode cX4_labels 21 = .ok (.if_icmp .ne 50, 3) := by decide +kernel
theorem dX4_labels_24 : decode cX4_labels 24 = .ok (.aload_n 0, 1) := by decide +kernel
theorem dX4_labels_25 : decode cX4_labels 25 = .ok (.iload_n 1, 1) := by decide +kernel
theorem dX4_labels_26 : decode cX4_labels 26 = .ok (.iload 5, 2) := by decide +kernel
theorem dX4_labels_28 : decode cX4_labels 28 = .ok (.iload_n 3, 1) := by decide +kernel
theorem dX4_labels_29 : decode cX4_labels 29 = .ok (.invokevirtual 129, 3) := by decide +kernel
theorem dX4_labels_32 : decode cX4_labels 32 = .ok (.ifCond .eq 39, 3) := by decide +kernel
theorem dX4_labels_35 : decode cX4_labels 35 = .ok (.aload_n 0, 1) := by decide +kernel
theorem dX4_labels_36 : decode cX4_labels 36 = .ok (.getfield 35, 3) := by decide +kernel
theorem dX4_labels_39 : decode cX4_labels 39 = .ok (.iload_n 1, 1) := by decide +kernel
theorem dX4_labels_40 : decode cX4_labels 40 = .ok (.iload 5, 2) := by decide +kernel
theorem dX4_labels_42 : decode cX4_labels 42 = .ok (.iload_n 3, 1) := by decide +kernel
theorem dX4_labels_43 : decode cX4_labels 43 = .ok (.invokestatic 109, 3) := by decide +kernel
theorem dX4_labels_46 : decode cX4_labels 46 = .ok (.iload 4, 2) := by decide +kernel
theorem dX4_labels_48 : decode cX4_labels 48 = .ok (.iastore, 1) := by decide +kernel
theorem dX4_labels_49 : decode cX4_labels 49 = .ok (.aload_n 0, 1) := by decide +kernel
theorem dX4_labels_50 : decode cX4_labels 50 = .ok (.getfield 38, 3) := by decide +kernel
theorem dX4_labels_53 : decode cX4_labels 53 = .ok (.iload_n 1, 1) := by decide +kernel
theorem dX4_labels_54 : decode cX4_labels 54 = .ok (.iload 5, 2) := by decide +kernel
theorem dX4_labels_56 : decode cX4_labels 56 = .ok (.iload_n 3, 1) := by decide +kernel
theorem dX4_labels_57 : decode cX4_labels 57 = .ok (.invokestatic 109, 3) := by decide +kernel
theorem dX4_labels_60 : decode cX4_labels 60 = .ok (.aload_n 0, 1) := by decide +kernel
theorem dX4_labels_61 : decode cX4_labels 61 = .ok (.getfield 62, 3) := by decide +kernel
theorem dX4_labels_64 : decode cX4_labels 64 = .ok (.iconst 4, 1) := by decide +kernel
theorem dX4_labels_65 : decode cX4_labels 65 = .ok (.iload_n 1, 1) := by decide +kernel
theorem dX4_labels_66 : decode cX4_labels 66 = .ok (.imul, 1) := by decide +kernel
theorem dX4_labels_67 : decode cX4_labels 67 = .ok (.iload_n 3, 1) := by decide +kernel
theorem dX4_labels_68 : decode cX4_labels 68 = .ok (.iadd, 1) := by decide +kernel
theorem dX4_labels_69 : decode cX4_labels 69 = .ok (.iaload, 1) := by decide +kernel
theorem dX4_labels_70 : decode cX4_labels 70 = .ok (.iastore, 1) := by decide +kernel
theorem dX4_labels_71 : decode cX4_labels 71 = .ok (.iinc 5 1, 3) := by decide +kernel
theorem dX4_labels_74 : decode cX4_labels 74 = .ok (.goto (-71), 3) := by decide +kernel
theorem dX4_labels_77 : decode cX4_labels 77 = .ok (.return_, 1) := by decide +kernel
theorem dX4_handsInRow_0 : decode cX4_handsInRow 0 = .ok (.iconst 0, 1) := by decide +kernel
theorem dX4_handsInRow_1 : decode cX4_handsInRow 1 = .ok (.istore 4, 2) := by decide +kernel
theorem dX4_handsInRow_3 : decode cX4_handsInRow 3 = .ok (.iload 4, 2) := by decide +kernel
theorem dX4_handsInRow_5 : decode cX4_handsInRow 5 = .ok (.aload_n 0, 1) := by decide +kernel
theorem dX4_handsInRow_6 : decode cX4_handsInRow 6 = .ok (.getfield 84, 3) := by decide +kernel
theorem dX4_handsInRow_9 : decode cX4_handsInRow 9 = .ok (.if_icmp .ge 34, 3) := by decide +kernel
theorem dX4_handsInRow_12 : decode cX4_handsInRow 12 = .ok (.iload_n 2, 1) := by decide +kernel
theorem dX4_handsInRow_13 : decode cX4_handsInRow 13 = .ok (.bipush (-9), 2) := by decide +kernel
theorem dX4_handsInRow_15 : decode cX4_handsInRow 15 = .ok (.if_icmp .eq 9, 3) := by decide +kernel
theorem dX4_handsInRow_18 : decode cX4_handsInRow 18 = .ok (.iload_n 2, 1) := by decide +kernel
theorem dX4_handsInRow_19 : decode cX4_handsInRow 19 = .ok (.iload 4, 2) := by decide +kernel
theorem dX4_handsInRow_21 : decode cX4_handsInRow 21 = .ok (.if_icmp .ne 16, 3) := by decide +kernel
theorem dX4_handsInRow_24 : decode cX4_handsInRow 24 = .ok (.aload_n 0, 1) := by decide +kernel
theorem dX4_handsInRow_25 : decode cX4_handsInRow 25 = .ok (.iload_n 1, 1) := by decide +kernel
theorem dX4_handsInRow_26 : decode cX4_handsInRow 26 = .ok (.iload 4, 2) := by decide +kernel
theorem dX4_handsInRow_28 : decode cX4_handsInRow 28 = .ok (.iload_n 3, 1) := by decide +kernel
theorem dX4_handsInRow_29 : decode cX4_handsInRow 29 = .ok (.invokevirtual 129, 3) := by decide +kernel
theorem dX4_handsInRow_32 : decode cX4_handsInRow 32 = .ok (.ifCond .eq 5, 3) := by decide +kernel
theorem dX4_handsInRow_35 : decode cX4_handsInRow 35 = .ok (.iconst 1, 1) := by decide +kernel
theorem dX4_handsInRow_36 : decode cX4_handsInRow 36 = .ok (.ireturn, 1) := by decide +kernel
theorem dX4_handsInRow_37 : decode cX4_handsInRow 37 = .ok (.iinc 4 1, 3) := by decide +kernel
theorem dX4_handsInRow_40 : decode cX4_handsInRow 40 = .ok (.goto (-37), 3) := by decide +kernel
theorem dX4_handsInRow_43 : decode cX4_handsInRow 43 = .ok (.iconst 0, 1) := by decide +kernel
theorem dX4_handsInRow_44 : decode cX4_handsInRow 44 = .ok (.ireturn, 1) := by decide +kernel
theorem dX4_handsRow_0 : decode cX4_handsRow 0 = .ok (.iconst 0, 1) := by decide +kernel
theorem dX4_handsRow_1 : decode cX4_handsRow 1 = .ok (.istore_n 3, 1) := by decide +kernel
theorem dX4_handsRow_2 : decode cX4_handsRow 2 = .ok (.iload_n 3, 1) := by decide +kernel
theorem dX4_handsRow_3 : decode cX4_handsRow 3 = .ok (.iconst 4, 1) := by decide +kernel
theorem dX4_handsRow_4 : decode cX4_handsRow 4 = .ok (.if_icmp .ge 56, 3) := by decide +kernel
theorem dX4_handsRow_7 : decode cX4_handsRow 7 = .ok (.aload_n 0, 1) := by decide +kernel
theorem dX4_handsRow_8 : decode cX4_handsRow 8 = .ok (.iload_n 1, 1) := by decide +kernel
theorem dX4_handsRow_9 : decode cX4_handsRow 9 = .ok (.iload_n 2, 1) := by decide +kernel
theorem dX4_handsRow_10 : decode cX4_handsRow 10 = .ok (.iload_n 3, 1) := by decide +kernel
theorem dX4_handsRow_11 : decode cX4_handsRow 11 = .ok (.invokevirtual 132, 3) := by decide +kernel
theorem dX4_handsRow_14 : decode cX4_handsRow 14 = .ok (.ifCond .ne 40, 3) := by decide +kernel
theorem dX4_handsRow_17 : decode cX4_handsRow 17 = .ok (.aload_n 0, 1) := by decide +kernel
theorem dX4_handsRow_18 : decode cX4_handsRow 18 = .ok (.iload_n 1, 1) := by decide +kernel
theorem dX4_handsRow_19 : decode cX4_handsRow 19 = .ok (.iload_n 2, 1) := by decide +kernel
theorem dX4_handsRow_20 : decode cX4_handsRow 20 = .ok (.iload_n 3, 1) := by decide +kernel
theorem dX4_handsRow_21 : decode cX4_handsRow 21 = .ok (.aload_n 0, 1) := by decide +kernel
theorem dX4_handsRow_22 : decode cX4_handsRow 22 = .ok (.getfield 23, 3) := by decide +kernel
theorem dX4_handsRow_25 : decode cX4_handsRow 25 = .ok (.iload_n 3, 1) := by decide +kernel
theorem dX4_handsRow_26 : decode cX4_handsRow 26 = .ok (.iaload, 1) := by decide +kernel
theorem dX4_handsRow_27 : decode cX4_handsRow 27 = .ok (.iload_n 1, 1) := by decide +kernel
theorem dX4_handsRow_28 : decode cX4_handsRow 28 = .ok (.if_icmp .ne 16, 3) := by decide +kernel
theorem dX4_handsRow_31 : decode cX4_handsRow 31 = .ok (.aload_n 0, 1) := by decide +kernel
theorem dX4_handsRow_32 : decode cX4_handsRow 32 = .ok (.iload_n 1, 1) := by decide +kernel
theorem dX4_handsRow_33 : decode cX4_handsRow 33 = .ok (.iconst 3, 1) := by decide +kernel
theorem dX4_handsRow_34 : decode cX4_handsRow 34 = .ok (.invokevirtual 120, 3) := by decide +kernel
theorem dX4_handsRow_37 : decode cX4_handsRow 37 = .ok (.ifCond .eq 7, 3) := by decide +kernel
theorem dX4_handsRow_40 : decode cX4_handsRow 40 = .ok (.iconst 3, 1) := by decide +kernel
theorem dX4_handsRow_41 : decode cX4_handsRow 41 = .ok (.goto 10, 3) := by decide +kernel
theorem dX4_handsRow_44 : decode cX4_handsRow 44 = .ok (.aload_n 0, 1) := by decide +kernel
theorem dX4_handsRow_45 : decode cX4_handsRow 45 = .ok (.iload_n 1, 1) := by decide +kernel
theorem dX4_handsRow_46 : decode cX4_handsRow 46 = .ok (.iload_n 2, 1) := by decide +kernel
theorem dX4_handsRow_47 : decode cX4_handsRow 47 = .ok (.iload_n 3, 1) := by decide +kernel
theorem dX4_handsRow_48 : decode cX4_handsRow 48 = .ok (.invokevirtual 126, 3) := by decide +kernel
theorem dX4_handsRow_51 : decode cX4_handsRow 51 = .ok (.invokevirtual 135, 3) := by decide +kernel
theorem dX4_handsRow_54 : decode cX4_handsRow 54 = .ok (.iinc 3 1, 3) := by decide +kernel
theorem dX4_handsRow_57 : decode cX4_handsRow 57 = .ok (.goto (-55), 3) := by decide +kernel
theorem dX4_handsRow_60 : decode cX4_handsRow 60 = .ok (.iconst 0, 1) := by decide +kernel
theorem dX4_handsRow_61 : decode cX4_handsRow 61 = .ok (.istore_n 3, 1) := by decide +kernel
theorem dX4_handsRow_62 : decode cX4_handsRow 62 = .ok (.iload_n 3, 1) := by decide +kernel
theorem dX4_handsRow_63 : decode cX4_handsRow 63 = .ok (.iconst 4, 1) := by decide +kernel
theorem dX4_handsRow_64 : decode cX4_handsRow 64 = .ok (.if_icmp .ge 59, 3) := by decide +kernel
theorem dX4_handsRow_67 : decode cX4_handsRow 67 = .ok (.aload_n 0, 1) := by decide +kernel
theorem dX4_handsRow_68 : decode cX4_handsRow 68 = .ok (.iload_n 1, 1) := by decide +kernel
theorem dX4_handsRow_69 : decode cX4_handsRow 69 = .ok (.iload_n 2, 1) := by decide +kernel
theorem dX4_handsRow_70 : decode cX4_handsRow 70 = .ok (.iload_n 3, 1) := by decide +kernel
theorem dX4_handsRow_71 : decode cX4_handsRow 71 = .ok (.invokevirtual 132, 3) := by decide +kernel
theorem dX4_handsRow_74 : decode cX4_handsRow 74 = .ok (.ifCond .eq 43, 3) := by decide +kernel
theorem dX4_handsRow_77 : decode cX4_handsRow 77 = .ok (.aload_n 0, 1) := by decide +kernel
theorem dX4_handsRow_78 : decode cX4_handsRow 78 = .ok (.iload_n 1, 1) := by decide +kernel
theorem dX4_handsRow_79 : decode cX4_handsRow 79 = .ok (.iload_n 2, 1) := by decide +kernel
theorem dX4_handsRow_80 : decode cX4_handsRow 80 = .ok (.iload_n 3, 1) := by decide +kernel
theorem dX4_handsRow_81 : decode cX4_handsRow 81 = .ok (.invokevirtual 139, 3) := by decide +kernel
theorem dX4_handsRow_84 : decode cX4_handsRow 84 = .ok (.ifCond .eq 33, 3) := by decide +kernel
theorem dX4_handsRow_87 : decode cX4_handsRow 87 = .ok (.bipush 16, 2) := by decide +kernel
theorem dX4_handsRow_89 : decode cX4_handsRow 89 = .ok (.istore 4, 2) := by decide +kernel
theorem dX4_handsRow_91 : decode cX4_handsRow 91 = .ok (.aload_n 0, 1) := by decide +kernel
theorem dX4_handsRow_92 : decode cX4_handsRow 92 = .ok (.iload_n 1, 1) := by decide +kernel
theorem dX4_handsRow_93 : decode cX4_handsRow 93 = .ok (.iload_n 2, 1) := by decide +kernel
theorem dX4_handsRow_94 : decode cX4_handsRow 94 = .ok (.iload 4, 2) := by decide +kernel
theorem dX4_handsRow_96 : decode cX4_handsRow 96 = .ok (.invokevirtual 142, 3) := by decide +kernel
theorem dX4_handsRow_99 : decode cX4_handsRow 99 = .ok (.ifCond .eq 9, 3) := by decide +kernel
theorem dX4_handsRow_102 : decode cX4_handsRow 102 = .ok (.iinc 4 1, 3) := by decide +kernel
theorem dX4_handsRow_105 : decode cX4_handsRow 105 = .ok (.goto (-14), 3) := by decide +kernel
theorem dX4_handsRow_108 : decode cX4_handsRow 108 = .ok (.aload_n 0, 1) := by decide +kernel
theorem dX4_handsRow_109 : decode cX4_handsRow 109 = .ok (.iload_n 1, 1) := by decide +kernel
theorem dX4_handsRow_110 : decode cX4_handsRow 110 = .ok (.iload_n 2, 1) := by decide +kernel
theorem dX4_handsRow_111 : decode cX4_handsRow 111 = .ok (.iload_n 3, 1) := by decide +kernel
theorem dX4_handsRow_112 : decode cX4_handsRow 112 = .ok (.iload 4, 2) := by decide +kernel
theorem dX4_handsRow_114 : decode cX4_handsRow 114 = .ok (.invokevirtual 135, 3) := by decide +kernel
theorem dX4_handsRow_117 : decode cX4_handsRow 117 = .ok (.iinc 3 1, 3) := by decide +kernel
theorem dX4_handsRow_120 : decode cX4_handsRow 120 = .ok (.goto (-58), 3) := by decide +kernel
theorem dX4_handsRow_123 : decode cX4_handsRow 123 = .ok (.return_, 1) := by decide +kernel
theorem dX4_handsAll_0 : decode cX4_handsAll 0 = .ok (.aload_n 0, 1) := by decide +kernel
theorem dX4_handsAll_1 : decode cX4_handsAll 1 = .ok (.iload_n 1, 1) := by decide +kernel
theorem dX4_handsAll_2 : decode cX4_handsAll 2 = .ok (.iconst 2, 1) := by decide +kernel
theorem dX4_handsAll_3 : decode cX4_handsAll 3 = .ok (.invokevirtual 120, 3) := by decide +kernel
theorem dX4_handsAll_6 : decode cX4_handsAll 6 = .ok (.ifCond .ne 11, 3) := by decide +kernel
theorem dX4_handsAll_9 : decode cX4_handsAll 9 = .ok (.aload_n 0, 1) := by decide +kernel
theorem dX4_handsAll_10 : decode cX4_handsAll 10 = .ok (.iload_n 1, 1) := by decide +kernel
theorem dX4_handsAll_11 : decode cX4_handsAll 11 = .ok (.bipush (-9), 2) := by decide +kernel
theorem dX4_handsAll_13 : decode cX4_handsAll 13 = .ok (.invokevirtual 145, 3) := by decide +kernel
theorem dX4_handsAll_16 : decode cX4_handsAll 16 = .ok (.return_, 1) := by decide +kernel
theorem dX4_handsAll_17 : decode cX4_handsAll 17 = .ok (.iconst 0, 1) := by decide +kernel
theorem dX4_handsAll_18 : decode cX4_handsAll 18 = .ok (.istore_n 2, 1) := by decide +kernel
theorem dX4_handsAll_19 : decode cX4_handsAll 19 = .ok (.iload_n 2, 1) := by decide +kernel
theorem dX4_handsAll_20 : decode cX4_handsAll 20 = .ok (.aload_n 0, 1) := by decide +kernel
theorem dX4_handsAll_21 : decode cX4_handsAll 21 = .ok (.getfield 84, 3) := by decide +kernel
theorem dX4_handsAll_24 : decode cX4_handsAll 24 = .ok (.if_icmp .ge 15, 3) := by decide +kernel
theorem dX4_handsAll_27 : decode cX4_handsAll 27 = .ok (.aload_n 0, 1) := by decide +kernel
theorem dX4_handsAll_28 : decode cX4_handsAll 28 = .ok (.iload_n 1, 1) := by decide +kernel
theorem dX4_handsAll_29 : decode cX4_handsAll 29 = .ok (.iload_n 2, 1) := by decide +kernel
theorem dX4_handsAll_30 : decode cX4_handsAll 30 = .ok (.invokevirtual 145, 3) := by decide +kernel
theorem dX4_handsAll_33 : decode cX4_handsAll 33 = .ok (.iinc 2 1, 3) := by decide +kernel
theorem dX4_handsAll_36 : decode cX4_handsAll 36 = .ok (.goto (-17), 3) := by decide +kernel
theorem dX4_handsAll_39 : decode cX4_handsAll 39 = .ok (.return_, 1) := by decide +kernel
theorem dX4_keeps_0 : decode cX4_keeps 0 = .ok (.iconst 0, 1) := by decide +kernel
theorem dX4_keeps_1 : decode cX4_keeps 1 = .ok (.istore_n 1, 1) := by decide +kernel
theorem dX4_keeps_2 : decode cX4_keeps 2 = .ok (.iload_n 1, 1) := by decide +kernel
theorem dX4_keeps_3 : decode cX4_keeps 3 = .ok (.sipush 336, 3) := by decide +kernel
theorem dX4_keeps_6 : decode cX4_keeps 6 = .ok (.if_icmp .ge 146, 3) := by decide +kernel
theorem dX4_keeps_9 : decode cX4_keeps 9 = .ok (.iload_n 1, 1) := by decide +kernel
theorem dX4_keeps_10 : decode cX4_keeps 10 = .ok (.bipush 48, 2) := by decide +kernel
theorem dX4_keeps_12 : decode cX4_keeps 12 = .ok (.idiv, 1) := by decide +kernel
theorem dX4_keeps_13 : decode cX4_keeps 13 = .ok (.istore_n 2, 1) := by decide +kernel
theorem dX4_keeps_14 : decode cX4_keeps 14 = .ok (.iload_n 1, 1) := by decide +kernel
theorem dX4_keeps_15 : decode cX4_keeps 15 = .ok (.iconst 4, 1) := by decide +kernel
theorem dX4_keeps_16 : decode cX4_keeps 16 = .ok (.idiv, 1) := by decide +kernel
theorem dX4_keeps_17 : decode cX4_keeps 17 = .ok (.bipush 12, 2) := by decide +kernel
theorem dX4_keeps_19 : decode cX4_keeps 19 = .ok (.irem, 1) := by decide +kernel
theorem dX4_keeps_20 : decode cX4_keeps 20 = .ok (.istore_n 3, 1) := by decide +kernel
theorem dX4_keeps_21 : decode cX4_keeps 21 = .ok (.iload_n 1, 1) := by decide +kernel
theorem dX4_keeps_22 : decode cX4_keeps 22 = .ok (.iconst 4, 1) := by decide +kernel
theorem dX4_keeps_23 : decode cX4_keeps 23 = .ok (.irem, 1) := by decide +kernel
theorem dX4_keeps_24 : decode cX4_keeps 24 = .ok (.istore 4, 2) := by decide +kernel
theorem dX4_keeps_26 : decode cX4_keeps 26 = .ok (.aload_n 0, 1) := by decide +kernel
theorem dX4_keeps_27 : decode cX4_keeps 27 = .ok (.getfield 41, 3) := by decide +kernel
theorem dX4_keeps_30 : decode cX4_keeps 30 = .ok (.iload_n 1, 1) := by decide +kernel
theorem dX4_keeps_31 : decode cX4_keeps 31 = .ok (.iconst 0, 1) := by decide +kernel
theorem dX4_keeps_32 : decode cX4_keeps 32 = .ok (.iastore, 1) := by decide +kernel
theorem dX4_keeps_33 : decode cX4_keeps 33 = .ok (.aload_n 0, 1) := by decide +kernel
theorem dX4_keeps_34 : decode cX4_keeps 34 = .ok (.iload_n 3, 1) := by decide +kernel
theorem dX4_keeps_35 : decode cX4_keeps 35 = .ok (.invokevirtual 96, 3) := by decide +kernel
theorem dX4_keeps_38 : decode cX4_keeps 38 = .ok (.ifCond .eq 108, 3) := by decide +kernel
theorem dX4_keeps_41 : decode cX4_keeps 41 = .ok (.aload_n 0, 1) := by decide +kernel
theorem dX4_keeps_42 : decode cX4_keeps 42 = .ok (.iload_n 3, 1) := by decide +kernel
theorem dX4_keeps_43 : decode cX4_keeps 43 = .ok (.iload_n 2, 1) := by decide +kernel
theorem dX4_keeps_44 : decode cX4_keeps 44 = .ok (.invokevirtual 116, 3) := by decide +kernel
theorem dX4_keeps_47 : decode cX4_keeps 47 = .ok (.ifCond .eq 99, 3) := by decide +kernel
theorem dX4_keeps_50 : decode cX4_keeps 50 = .ok (.aload_n 0, 1) := by decide +kernel
theorem dX4_keeps_51 : decode cX4_keeps 51 = .ok (.getfield 19, 3) := by decide +kernel
theorem dX4_keeps_54 : decode cX4_keeps 54 = .ok (.iload_n 3, 1) := by decide +kernel
theorem dX4_keeps_55 : decode cX4_keeps 55 = .ok (.baload, 1) := by decide +kernel
theorem dX4_keeps_56 : decode cX4_keeps 56 = .ok (.ifCond .eq 90, 3) := by decide +kernel
theorem dX4_keeps_59 : decode cX4_keeps 59 = .ok (.aload_n 0, 1) := by decide +kernel
theorem dX4_keeps_60 : decode cX4_keeps 60 = .ok (.iload_n 3, 1) := by decide +kernel
theorem dX4_keeps_61 : decode cX4_keeps 61 = .ok (.iload_n 2, 1) := by decide +kernel
theorem dX4_keeps_62 : decode cX4_keeps 62 = .ok (.invokevirtual 123, 3) := by decide +kernel
theorem dX4_keeps_65 : decode cX4_keeps 65 = .ok (.istore 5, 2) := by decide +kernel
theorem dX4_keeps_67 : decode cX4_keeps 67 = .ok (.aload_n 0, 1) := by decide +kernel
theorem dX4_keeps_68 : decode cX4_keeps 68 = .ok (.iload_n 2, 1) := by decide +kernel
theorem dX4_keeps_69 : decode cX4_keeps 69 = .ok (.iconst 1, 1) := by decide +kernel
theorem dX4_keeps_70 : decode cX4_keeps 70 = .ok (.invokevirtual 120, 3) := by decide +kernel
theorem dX4_keeps_73 : decode cX4_keeps 73 = .ok (.ifCond .eq 19, 3) := by decide +kernel
theorem dX4_keeps_76 : decode cX4_keeps 76 = .ok (.aload_n 0, 1) := by decide +kernel
theorem dX4_keeps_77 : decode cX4_keeps 77 = .ok (.getfield 59, 3) := by decide +kernel
theorem dX4_keeps_80 : decode cX4_keeps 80 = .ok (.iconst 4, 1) := by decide +kernel
theorem dX4_keeps_81 : decode cX4_keeps 81 = .ok (.iload_n 2, 1) := by decide +kernel
theorem dX4_keeps_82 : decode cX4_keeps 82 = .ok (.imul, 1) := by decide +kernel
theorem dX4_keeps_83 : decode cX4_keeps 83 = .ok (.iload 4, 2) := by decide +kernel
theorem dX4_keeps_85 : decode cX4_keeps 85 = .ok (.iadd, 1) := by decide +kernel
theorem dX4_keeps_86 : decode cX4_keeps 86 = .ok (.iaload, 1) := by decide +kernel
theorem dX4_keeps_87 : decode cX4_keeps 87 = .ok (.iload 5, 2) := by decide +kernel
theorem dX4_keeps_89 : decode cX4_keeps 89 = .ok (.if_icmp .ne 7, 3) := by decide +kernel
theorem dX4_keeps_92 : decode cX4_keeps 92 = .ok (.iconst 1, 1) := by decide +kernel
theorem dX4_keeps_93 : decode cX4_keeps 93 = .ok (.goto 4, 3) := by decide +kernel
theorem dX4_keeps_96 : decode cX4_keeps 96 = .ok (.iconst 0, 1) := by decide +kernel
theorem dX4_keeps_97 : decode cX4_keeps 97 = .ok (.istore 6, 2) := by decide +kernel
theorem dX4_keeps_99 : decode cX4_keeps 99 = .ok (.aload_n 0, 1) := by decide +kernel
theorem dX4_keeps_100 : decode cX4_keeps 100 = .ok (.getfield 41, 3) := by decide +kernel
theorem dX4_keeps_103 : decode cX4_keeps 103 = .ok (.iload_n 1, 1) := by decide +kernel
theorem dX4_keeps_104 : decode cX4_keeps 104 = .ok (.iload 6, 2) := by decide +kernel
theorem dX4_keeps_106 : decode cX4_keeps 106 = .ok (.ifCond .eq 19, 3) := by decide +kernel
theorem dX4_keeps_109 : decode cX4_keeps 109 = .ok (.aload_n 0, 1) := by decide +kernel
theorem dX4_keeps_110 : decode cX4_keeps 110 = .ok (.getfield 35, 3) := by decide +kernel
theorem dX4_keeps_113 : decode cX4_keeps 113 = .ok (.iload 5, 2) := by decide +kernel
theorem dX4_keeps_115 : decode cX4_keeps 115 = .ok (.iload_n 3, 1) := by decide +kernel
theorem dX4_keeps_116 : decode cX4_keeps 116 = .ok (.iload 4, 2) := by decide +kernel
theorem dX4_keeps_118 : decode cX4_keeps 118 = .ok (.invokestatic 109, 3) := by decide +kernel
theorem dX4_keeps_121 : decode cX4_keeps 121 = .ok (.iaload, 1) := by decide +kernel
theorem dX4_keeps_122 : decode cX4_keeps 122 = .ok (.goto 4, 3) := by decide +kernel
theorem dX4_keeps_125 : decode cX4_keeps 125 = .ok (.iconst 0, 1) := by decide +kernel
theorem dX4_keeps_126 : decode cX4_keeps 126 = .ok (.iastore, 1) := by decide +kernel
theorem dX4_keeps_127 : decode cX4_keeps 127 = .ok (.aload_n 0, 1) := by decide +kernel
theorem dX4_keeps_128 : decode cX4_keeps 128 = .ok (.getfield 44, 3) := by decide +kernel
theorem dX4_keeps_131 : decode cX4_keeps 131 = .ok (.iload_n 1, 1) := by decide +kernel
theorem dX4_keeps_132 : decode cX4_keeps 132 = .ok (.aload_n 0, 1) := by decide +kernel
theorem dX4_keeps_133 : decode cX4_keeps 133 = .ok (.getfield 38, 3) := by decide +kernel
theorem dX4_keeps_136 : decode cX4_keeps 136 = .ok (.iload 5, 2) := by decide +kernel
theorem dX4_keeps_138 : decode cX4_keeps 138 = .ok (.iload_n 3, 1) := by decide +kernel
theorem dX4_keeps_139 : decode cX4_keeps 139 = .ok (.iload 4, 2) := by decide +kernel
theorem dX4_keeps_141 : decode cX4_keeps 141 = .ok (.invokestatic 109, 3) := by decide +kernel
theorem dX4_keeps_144 : decode cX4_keeps 144 = .ok (.iaload, 1) := by decide +kernel
theorem dX4_keeps_145 : decode cX4_keeps 145 = .ok (.iastore, 1) := by decide +kernel
theorem dX4_keeps_146 : decode cX4_keeps 146 = .ok (.iinc 1 1, 3) := by decide +kernel
theorem dX4_keeps_149 : decode cX4_keeps 149 = .ok (.goto (-147), 3) := by decide +kernel
theorem dX4_keeps_152 : decode cX4_keeps 152 = .ok (.return_, 1) := by decide +kernel
theorem dX4_goesOn_0 : decode cX4_goesOn 0 = .ok (.iconst 0, 1) := by decide +kernel
theorem dX4_goesOn_1 : decode cX4_goesOn 1 = .ok (.istore_n 1, 1) := by decide +kernel
theorem dX4_goesOn_2 : decode cX4_goesOn 2 = .ok (.iload_n 1, 1) := by decide +kernel
theorem dX4_goesOn_3 : decode cX4_goesOn 3 = .ok (.bipush 28, 2) := by decide +kernel
theorem dX4_goesOn_5 : decode cX4_goesOn 5 = .ok (.if_icmp .ge 41, 3) := by decide +kernel
theorem dX4_goesOn_8 : decode cX4_goesOn 8 = .ok (.aload_n 0, 1) := by decide +kernel
theorem dX4_goesOn_9 : decode cX4_goesOn 9 = .ok (.getfield 59, 3) := by decide +kernel
theorem dX4_goesOn_12 : decode cX4_goesOn 12 = .ok (.iload_n 1, 1) := by decide +kernel
theorem dX4_goesOn_13 : decode cX4_goesOn 13 = .ok (.aload_n 0, 1) := by decide +kernel
theorem dX4_goesOn_14 : decode cX4_goesOn 14 = .ok (.iload_n 1, 1) := by decide +kernel
theorem dX4_goesOn_15 : decode cX4_goesOn 15 = .ok (.iconst 4, 1) := by decide +kernel
theorem dX4_goesOn_16 : decode cX4_goesOn 16 = .ok (.idiv, 1) := by decide +kernel
theorem dX4_goesOn_17 : decode cX4_goesOn 17 = .ok (.iload_n 1, 1) := by decide +kernel
theorem dX4_goesOn_18 : decode cX4_goesOn 18 = .ok (.iconst 4, 1) := by decide +kernel
theorem dX4_goesOn_19 : decode cX4_goesOn 19 = .ok (.irem, 1) := by decide +kernel
theorem dX4_goesOn_20 : decode cX4_goesOn 20 = .ok (.invokevirtual 106, 3) := by decide +kernel
theorem dX4_goesOn_23 : decode cX4_goesOn 23 = .ok (.iastore, 1) := by decide +kernel
theorem dX4_goesOn_24 : decode cX4_goesOn 24 = .ok (.aload_n 0, 1) := by decide +kernel
theorem dX4_goesOn_25 : decode cX4_goesOn 25 = .ok (.getfield 62, 3) := by decide +kernel
theorem dX4_goesOn_28 : decode cX4_goesOn 28 = .ok (.iload_n 1, 1) := by decide +kernel
theorem dX4_goesOn_29 : decode cX4_goesOn 29 = .ok (.aload_n 0, 1) := by decide +kernel
theorem dX4_goesOn_30 : decode cX4_goesOn 30 = .ok (.iload_n 1, 1) := by decide +kernel
theorem dX4_goesOn_31 : decode cX4_goesOn 31 = .ok (.iconst 4, 1) := by decide +kernel
theorem dX4_goesOn_32 : decode cX4_goesOn 32 = .ok (.idiv, 1) := by decide +kernel
theorem dX4_goesOn_33 : decode cX4_goesOn 33 = .ok (.iload_n 1, 1) := by decide +kernel
theorem dX4_goesOn_34 : decode cX4_goesOn 34 = .ok (.iconst 4, 1) := by decide +kernel
theorem dX4_goesOn_35 : decode cX4_goesOn 35 = .ok (.irem, 1) := by decide +kernel
theorem dX4_goesOn_36 : decode cX4_goesOn 36 = .ok (.invokevirtual 149, 3) := by decide +kernel
theorem dX4_goesOn_39 : decode cX4_goesOn 39 = .ok (.iastore, 1) := by decide +kernel
theorem dX4_goesOn_40 : decode cX4_goesOn 40 = .ok (.iinc 1 1, 3) := by decide +kernel
theorem dX4_goesOn_43 : decode cX4_goesOn 43 = .ok (.goto (-41), 3) := by decide +kernel
theorem dX4_goesOn_46 : decode cX4_goesOn 46 = .ok (.iconst 0, 1) := by decide +kernel
theorem dX4_goesOn_47 : decode cX4_goesOn 47 = .ok (.istore_n 1, 1) := by decide +kernel
theorem dX4_goesOn_48 : decode cX4_goesOn 48 = .ok (.iload_n 1, 1) := by decide +kernel
theorem dX4_goesOn_49 : decode cX4_goesOn 49 = .ok (.sipush 336, 3) := by decide +kernel
theorem dX4_goesOn_52 : decode cX4_goesOn 52 = .ok (.if_icmp .ge 64, 3) := by decide +kernel
theorem dX4_goesOn_55 : decode cX4_goesOn 55 = .ok (.aload_n 0, 1) := by decide +kernel
theorem dX4_goesOn_56 : decode cX4_goesOn 56 = .ok (.getfield 47, 3) := by decide +kernel
theorem dX4_goesOn_59 : decode cX4_goesOn 59 = .ok (.iload_n 1, 1) := by decide +kernel
theorem dX4_goesOn_60 : decode cX4_goesOn 60 = .ok (.aload_n 0, 1) := by decide +kernel
theorem dX4_goesOn_61 : decode cX4_goesOn 61 = .ok (.getfield 35, 3) := by decide +kernel
theorem dX4_goesOn_64 : decode cX4_goesOn 64 = .ok (.iload_n 1, 1) := by decide +kernel
theorem dX4_goesOn_65 : decode cX4_goesOn 65 = .ok (.iaload, 1) := by decide +kernel
theorem dX4_goesOn_66 : decode cX4_goesOn 66 = .ok (.iastore, 1) := by decide +kernel
theorem dX4_goesOn_67 : decode cX4_goesOn 67 = .ok (.aload_n 0, 1) := by decide +kernel
theorem dX4_goesOn_68 : decode cX4_goesOn 68 = .ok (.getfield 50, 3) := by decide +kernel
theorem dX4_goesOn_71 : decode cX4_goesOn 71 = .ok (.iload_n 1, 1) := by decide +kernel
theorem dX4_goesOn_72 : decode cX4_goesOn 72 = .ok (.aload_n 0, 1) := by decide +kernel
theorem dX4_goesOn_73 : decode cX4_goesOn 73 = .ok (.getfield 38, 3) := by decide +kernel
theorem dX4_goesOn_76 : decode cX4_goesOn 76 = .ok (.iload_n 1, 1) := by decide +kernel
theorem dX4_goesOn_77 : decode cX4_goesOn 77 = .ok (.iaload, 1) := by decide +kernel
theorem dX4_goesOn_78 : decode cX4_goesOn 78 = .ok (.iastore, 1) := by decide +kernel
theorem dX4_goesOn_79 : decode cX4_goesOn 79 = .ok (.aload_n 0, 1) := by decide +kernel
theorem dX4_goesOn_80 : decode cX4_goesOn 80 = .ok (.getfield 53, 3) := by decide +kernel
theorem dX4_goesOn_83 : decode cX4_goesOn 83 = .ok (.iload_n 1, 1) := by decide +kernel
theorem dX4_goesOn_84 : decode cX4_goesOn 84 = .ok (.aload_n 0, 1) := by decide +kernel
theorem dX4_goesOn_85 : decode cX4_goesOn 85 = .ok (.getfield 41, 3) := by decide +kernel
theorem dX4_goesOn_88 : decode cX4_goesOn 88 = .ok (.iload_n 1, 1) := by decide +kernel
theorem dX4_goesOn_89 : decode cX4_goesOn 89 = .ok (.iaload, 1) := by decide +kernel
theorem dX4_goesOn_90 : decode cX4_goesOn 90 = .ok (.iastore, 1) := by decide +kernel
theorem dX4_goesOn_91 : decode cX4_goesOn 91 = .ok (.aload_n 0, 1) := by decide +kernel
theorem dX4_goesOn_92 : decode cX4_goesOn 92 = .ok (.getfield 56, 3) := by decide +kernel
theorem dX4_goesOn_95 : decode cX4_goesOn 95 = .ok (.iload_n 1, 1) := by decide +kernel
theorem dX4_goesOn_96 : decode cX4_goesOn 96 = .ok (.aload_n 0, 1) := by decide +kernel
theorem dX4_goesOn_97 : decode cX4_goesOn 97 = .ok (.getfield 44, 3) := by decide +kernel
theorem dX4_goesOn_100 : decode cX4_goesOn 100 = .ok (.iload_n 1, 1) := by decide +kernel
theorem dX4_goesOn_101 : decode cX4_goesOn 101 = .ok (.iaload, 1) := by decide +kernel
theorem dX4_goesOn_102 : decode cX4_goesOn 102 = .ok (.iastore, 1) := by decide +kernel
theorem dX4_goesOn_103 : decode cX4_goesOn 103 = .ok (.aload_n 0, 1) := by decide +kernel
theorem dX4_goesOn_104 : decode cX4_goesOn 104 = .ok (.getfield 35, 3) := by decide +kernel
theorem dX4_goesOn_107 : decode cX4_goesOn 107 = .ok (.iload_n 1, 1) := by decide +kernel
theorem dX4_goesOn_108 : decode cX4_goesOn 108 = .ok (.iconst 0, 1) := by decide +kernel
theorem dX4_goesOn_109 : decode cX4_goesOn 109 = .ok (.iastore, 1) := by decide +kernel
theorem dX4_goesOn_110 : decode cX4_goesOn 110 = .ok (.iinc 1 1, 3) := by decide +kernel
theorem dX4_goesOn_113 : decode cX4_goesOn 113 = .ok (.goto (-65), 3) := by decide +kernel
theorem dX4_goesOn_116 : decode cX4_goesOn 116 = .ok (.iconst 0, 1) := by decide +kernel
theorem dX4_goesOn_117 : decode cX4_goesOn 117 = .ok (.istore_n 1, 1) := by decide +kernel
theorem dX4_goesOn_118 : decode cX4_goesOn 118 = .ok (.iload_n 1, 1) := by decide +kernel
theorem dX4_goesOn_119 : decode cX4_goesOn 119 = .ok (.bipush 7, 2) := by decide +kernel
theorem dX4_goesOn_121 : decode cX4_goesOn 121 = .ok (.if_icmp .ge 14, 3) := by decide +kernel
theorem dX4_goesOn_124 : decode cX4_goesOn 124 = .ok (.aload_n 0, 1) := by decide +kernel
theorem dX4_goesOn_125 : decode cX4_goesOn 125 = .ok (.iload_n 1, 1) := by decide +kernel
theorem dX4_goesOn_126 : decode cX4_goesOn 126 = .ok (.invokevirtual 152, 3) := by decide +kernel
theorem dX4_goesOn_129 : decode cX4_goesOn 129 = .ok (.iinc 1 1, 3) := by decide +kernel
theorem dX4_goesOn_132 : decode cX4_goesOn 132 = .ok (.goto (-14), 3) := by decide +kernel
theorem dX4_goesOn_135 : decode cX4_goesOn 135 = .ok (.aload_n 0, 1) := by decide +kernel
theorem dX4_goesOn_136 : decode cX4_goesOn 136 = .ok (.invokevirtual 155, 3) := by decide +kernel
theorem dX4_goesOn_139 : decode cX4_goesOn 139 = .ok (.return_, 1) := by decide +kernel
theorem dX4_isChanged_0 : decode cX4_isChanged 0 = .ok (.iconst 0, 1) := by decide +kernel
theorem dX4_isChanged_1 : decode cX4_isChanged 1 = .ok (.istore_n 2, 1) := by decide +kernel
theorem dX4_isChanged_2 : decode cX4_isChanged 2 = .ok (.iload_n 2, 1) := by decide +kernel
theorem dX4_isChanged_3 : decode cX4_isChanged 3 = .ok (.sipush 336, 3) := by decide +kernel
theorem dX4_isChanged_6 : decode cX4_isChanged 6 = .ok (.if_icmp .ge 115, 3) := by decide +kernel
theorem dX4_isChanged_9 : decode cX4_isChanged 9 = .ok (.aload_n 0, 1) := by decide +kernel
theorem dX4_isChanged_10 : decode cX4_isChanged 10 = .ok (.getfield 35, 3) := by decide +kernel
theorem dX4_isChanged_13 : decode cX4_isChanged 13 = .ok (.iload_n 2, 1) := by decide +kernel
theorem dX4_isChanged_14 : decode cX4_isChanged 14 = .ok (.iaload, 1) := by decide +kernel
theorem dX4_isChanged_15 : decode cX4_isChanged 15 = .ok (.aload_n 0, 1) := by decide +kernel
theorem dX4_isChanged_16 : decode cX4_isChanged 16 = .ok (.getfield 47, 3) := by decide +kernel
theorem dX4_isChanged_19 : decode cX4_isChanged 19 = .ok (.iload_n 2, 1) := by decide +kernel
theorem dX4_isChanged_20 : decode cX4_isChanged 20 = .ok (.iaload, 1) := by decide +kernel
theorem dX4_isChanged_21 : decode cX4_isChanged 21 = .ok (.if_icmp .ne 27, 3) := by decide +kernel
theorem dX4_isChanged_24 : decode cX4_isChanged 24 = .ok (.aload_n 0, 1) := by decide +kernel
theorem dX4_isChanged_25 : decode cX4_isChanged 25 = .ok (.getfield 35, 3) := by decide +kernel
theorem dX4_isChanged_28 : decode cX4_isChanged 28 = .ok (.iload_n 2, 1) := by decide +kernel
theorem dX4_isChanged_29 : decode cX4_isChanged 29 = .ok (.iaload, 1) := by decide +kernel
theorem dX4_isChanged_30 : decode cX4_isChanged 30 = .ok (.ifCond .le 22, 3) := by decide +kernel
theorem dX4_isChanged_33 : decode cX4_isChanged 33 = .ok (.aload_n 0, 1) := by decide +kernel
theorem dX4_isChanged_34 : decode cX4_isChanged 34 = .ok (.getfield 38, 3) := by decide +kernel
theorem dX4_isChanged_37 : decode cX4_isChanged 37 = .ok (.iload_n 2, 1) := by decide +kernel
theorem dX4_isChanged_38 : decode cX4_isChanged 38 = .ok (.iaload, 1) := by decide +kernel
theorem dX4_isChanged_39 : decode cX4_isChanged 39 = .ok (.aload_n 0, 1) := by decide +kernel
theorem dX4_isChanged_40 : decode cX4_isChanged 40 = .ok (.getfield 50, 3) := by decide +kernel
theorem dX4_isChanged_43 : decode cX4_isChanged 43 = .ok (.iload_n 2, 1) := by decide +kernel
theorem dX4_isChanged_44 : decode cX4_isChanged 44 = .ok (.iaload, 1) := by decide +kernel
theorem dX4_isChanged_45 : decode cX4_isChanged 45 = .ok (.if_icmp .eq 7, 3) := by decide +kernel
theorem dX4_isChanged_48 : decode cX4_isChanged 48 = .ok (.iconst 1, 1) := by decide +kernel
theorem dX4_isChanged_49 : decode cX4_isChanged 49 = .ok (.goto 4, 3) := by decide +kernel
theorem dX4_isChanged_52 : decode cX4_isChanged 52 = .ok (.iconst 0, 1) := by decide +kernel
theorem dX4_isChanged_53 : decode cX4_isChanged 53 = .ok (.istore_n 3, 1) := by decide +kernel
theorem dX4_isChanged_54 : decode cX4_isChanged 54 = .ok (.aload_n 0, 1) := by decide +kernel
theorem dX4_isChanged_55 : decode cX4_isChanged 55 = .ok (.getfield 41, 3) := by decide +kernel
theorem dX4_isChanged_58 : decode cX4_isChanged 58 = .ok (.iload_n 2, 1) := by decide +kernel
theorem dX4_isChanged_59 : decode cX4_isChanged 59 = .ok (.iaload, 1) := by decide +kernel
theorem dX4_isChanged_60 : decode cX4_isChanged 60 = .ok (.aload_n 0, 1) := by decide +kernel
theorem dX4_isChanged_61 : decode cX4_isChanged 61 = .ok (.getfield 53, 3) := by decide +kernel
theorem dX4_isChanged_64 : decode cX4_isChanged 64 = .ok (.iload_n 2, 1) := by decide +kernel
theorem dX4_isChanged_65 : decode cX4_isChanged 65 = .ok (.iaload, 1) := by decide +kernel
theorem dX4_isChanged_66 : decode cX4_isChanged 66 = .ok (.if_icmp .ne 27, 3) := by decide +kernel
theorem dX4_isChanged_69 : decode cX4_isChanged 69 = .ok (.aload_n 0, 1) := by decide +kernel
theorem dX4_isChanged_70 : decode cX4_isChanged 70 = .ok (.getfield 41, 3) := by decide +kernel
theorem dX4_isChanged_73 : decode cX4_isChanged 73 = .ok (.iload_n 2, 1) := by decide +kernel
theorem dX4_isChanged_74 : decode cX4_isChanged 74 = .ok (.iaload, 1) := by decide +kernel
theorem dX4_isChanged_75 : decode cX4_isChanged 75 = .ok (.ifCond .le 22, 3) := by decide +kernel
theorem dX4_isChanged_78 : decode cX4_isChanged 78 = .ok (.aload_n 0, 1) := by decide +kernel
theorem dX4_isChanged_79 : decode cX4_isChanged 79 = .ok (.getfield 44, 3) := by decide +kernel
theorem dX4_isChanged_82 : decode cX4_isChanged 82 = .ok (.iload_n 2, 1) := by decide +kernel
theorem dX4_isChanged_83 : decode cX4_isChanged 83 = .ok (.iaload, 1) := by decide +kernel
theorem dX4_isChanged_84 : decode cX4_isChanged 84 = .ok (.aload_n 0, 1) := by decide +kernel
theorem dX4_isChanged_85 : decode cX4_isChanged 85 = .ok (.getfield 56, 3) := by decide +kernel
theorem dX4_isChanged_88 : decode cX4_isChanged 88 = .ok (.iload_n 2, 1) := by decide +kernel
theorem dX4_isChanged_89 : decode cX4_isChanged 89 = .ok (.iaload, 1) := by decide +kernel
theorem dX4_isChanged_90 : decode cX4_isChanged 90 = .ok (.if_icmp .eq 7, 3) := by decide +kernel
theorem dX4_isChanged_93 : decode cX4_isChanged 93 = .ok (.iconst 1, 1) := by decide +kernel
theorem dX4_isChanged_94 : decode cX4_isChanged 94 = .ok (.goto 4, 3) := by decide +kernel
theorem dX4_isChanged_97 : decode cX4_isChanged 97 = .ok (.iconst 0, 1) := by decide +kernel
theorem dX4_isChanged_98 : decode cX4_isChanged 98 = .ok (.istore 4, 2) := by decide +kernel
theorem dX4_isChanged_100 : decode cX4_isChanged 100 = .ok (.iload_n 3, 1) := by decide +kernel
theorem dX4_isChanged_101 : decode cX4_isChanged 101 = .ok (.ifCond .ne 12, 3) := by decide +kernel
theorem dX4_isChanged_104 : decode cX4_isChanged 104 = .ok (.iload_n 1, 1) := by decide +kernel
theorem dX4_isChanged_105 : decode cX4_isChanged 105 = .ok (.ifCond .eq 10, 3) := by decide +kernel
theorem dX4_isChanged_108 : decode cX4_isChanged 108 = .ok (.iload 4, 2) := by decide +kernel
theorem dX4_isChanged_110 : decode cX4_isChanged 110 = .ok (.ifCond .eq 5, 3) := by decide +kernel
theorem dX4_isChanged_113 : decode cX4_isChanged 113 = .ok (.iconst 1, 1) := by decide +kernel
theorem dX4_isChanged_114 : decode cX4_isChanged 114 = .ok (.ireturn, 1) := by decide +kernel
theorem dX4_isChanged_115 : decode cX4_isChanged 115 = .ok (.iinc 2 1, 3) := by decide +kernel
theorem dX4_isChanged_118 : decode cX4_isChanged 118 = .ok (.goto (-116), 3) := by decide +kernel
theorem dX4_isChanged_121 : decode cX4_isChanged 121 = .ok (.iconst 0, 1) := by decide +kernel
theorem dX4_isChanged_122 : decode cX4_isChanged 122 = .ok (.ireturn, 1) := by decide +kernel
theorem dX4_ticks_0 : decode cX4_ticks 0 = .ok (.iload_n 1, 1) := by decide +kernel
theorem dX4_ticks_1 : decode cX4_ticks 1 = .ok (.iconst 0, 1) := by decide +kernel
theorem dX4_ticks_2 : decode cX4_ticks 2 = .ok (.bipush 20, 2) := by decide +kernel
theorem dX4_ticks_4 : decode cX4_ticks 4 = .ok (.invokestatic 80, 3) := by decide +kernel
theorem dX4_ticks_7 : decode cX4_ticks 7 = .ok (.ifCond .ne 6, 3) := by decide +kernel
theorem dX4_ticks_10 : decode cX4_ticks 10 = .ok (.bipush (-2), 2) := by decide +kernel
theorem dX4_ticks_12 : decode cX4_ticks 12 = .ok (.ireturn, 1) := by decide +kernel
theorem dX4_ticks_13 : decode cX4_ticks 13 = .ok (.iconst 0, 1) := by decide +kernel
theorem dX4_ticks_14 : decode cX4_ticks 14 = .ok (.istore_n 2, 1) := by decide +kernel
theorem dX4_ticks_15 : decode cX4_ticks 15 = .ok (.iconst 0, 1) := by decide +kernel
theorem dX4_ticks_16 : decode cX4_ticks 16 = .ok (.istore_n 3, 1) := by decide +kernel
theorem dX4_ticks_17 : decode cX4_ticks 17 = .ok (.iload_n 3, 1) := by decide +kernel
theorem dX4_ticks_18 : decode cX4_ticks 18 = .ok (.iload_n 1, 1) := by decide +kernel
theorem dX4_ticks_19 : decode cX4_ticks 19 = .ok (.if_icmp .ge 39, 3) := by decide +kernel
theorem dX4_ticks_22 : decode cX4_ticks 22 = .ok (.aload_n 0, 1) := by decide +kernel
theorem dX4_ticks_23 : decode cX4_ticks 23 = .ok (.invokevirtual 158, 3) := by decide +kernel
theorem dX4_ticks_26 : decode cX4_ticks 26 = .ok (.aload_n 0, 1) := by decide +kernel
theorem dX4_ticks_27 : decode cX4_ticks 27 = .ok (.dup, 1) := by decide +kernel
theorem dX4_ticks_28 : decode cX4_ticks 28 = .ok (.getfield 161, 3) := by decide +kernel
theorem dX4_ticks_31 : decode cX4_ticks 31 = .ok (.iconst 1, 1) := by decide +kernel
theorem dX4_ticks_32 : decode cX4_ticks 32 = .ok (.iadd, 1) := by decide +kernel
theorem dX4_ticks_33 : decode cX4_ticks 33 = .ok (.putfield 161, 3) := by decide +kernel
theorem dX4_ticks_36 : decode cX4_ticks 36 = .ok (.iload_n 2, 1) := by decide +kernel
theorem dX4_ticks_37 : decode cX4_ticks 37 = .ok (.aload_n 0, 1) := by decide +kernel
theorem dX4_ticks_38 : decode cX4_ticks 38 = .ok (.iconst 0, 1) := by decide +kernel
theorem dX4_ticks_39 : decode cX4_ticks 39 = .ok (.invokevirtual 164, 3) := by decide +kernel
theorem dX4_ticks_42 : decode cX4_ticks 42 = .ok (.ifCond .eq 7, 3) := by decide +kernel
theorem dX4_ticks_45 : decode cX4_ticks 45 = .ok (.iconst 1, 1) := by decide +kernel
theorem dX4_ticks_46 : decode cX4_ticks 46 = .ok (.goto 4, 3) := by decide +kernel
theorem dX4_ticks_49 : decode cX4_ticks 49 = .ok (.iconst 0, 1) := by decide +kernel
theorem dX4_ticks_50 : decode cX4_ticks 50 = .ok (.iadd, 1) := by decide +kernel
theorem dX4_ticks_51 : decode cX4_ticks 51 = .ok (.istore_n 2, 1) := by decide +kernel
theorem dX4_ticks_52 : decode cX4_ticks 52 = .ok (.iinc 3 1, 3) := by decide +kernel
theorem dX4_ticks_55 : decode cX4_ticks 55 = .ok (.goto (-38), 3) := by decide +kernel
theorem dX4_ticks_58 : decode cX4_ticks 58 = .ok (.iload_n 2, 1) := by decide +kernel
theorem dX4_ticks_59 : decode cX4_ticks 59 = .ok (.ireturn, 1) := by decide +kernel
theorem dX4_isThere_0 : decode cX4_isThere 0 = .ok (.iload_n 1, 1) := by decide +kernel
theorem dX4_isThere_1 : decode cX4_isThere 1 = .ok (.invokestatic 88, 3) := by decide +kernel
theorem dX4_isThere_4 : decode cX4_isThere 4 = .ok (.ifCond .eq 24, 3) := by decide +kernel
theorem dX4_isThere_7 : decode cX4_isThere 7 = .ok (.aload_n 0, 1) := by decide +kernel
theorem dX4_isThere_8 : decode cX4_isThere 8 = .ok (.iload_n 2, 1) := by decide +kernel
theorem dX4_isThere_9 : decode cX4_isThere 9 = .ok (.invokevirtual 96, 3) := by decide +kernel
theorem dX4_isThere_12 : decode cX4_isThere 12 = .ok (.ifCond .eq 16, 3) := by decide +kernel
theorem dX4_isThere_15 : decode cX4_isThere 15 = .ok (.aload_n 0, 1) := by decide +kernel
theorem dX4_isThere_16 : decode cX4_isThere 16 = .ok (.iload_n 2, 1) := by decide +kernel
theorem dX4_isThere_17 : decode cX4_isThere 17 = .ok (.iload_n 1, 1) := by decide +kernel
theorem dX4_isThere_18 : decode cX4_isThere 18 = .ok (.invokevirtual 116, 3) := by decide +kernel
theorem dX4_isThere_21 : decode cX4_isThere 21 = .ok (.ifCond .eq 7, 3) := by decide +kernel
theorem dX4_isThere_24 : decode cX4_isThere 24 = .ok (.iconst 1, 1) := by decide +kernel
theorem dX4_isThere_25 : decode cX4_isThere 25 = .ok (.goto 4, 3) := by decide +kernel
theorem dX4_isThere_28 : decode cX4_isThere 28 = .ok (.iconst 0, 1) := by decide +kernel
theorem dX4_isThere_29 : decode cX4_isThere 29 = .ok (.ireturn, 1) := by decide +kernel
theorem dX4_tell_0 : decode cX4_tell 0 = .ok (.iload_n 2, 1) := by decide +kernel
theorem dX4_tell_1 : decode cX4_tell 1 = .ok (.iconst 0, 1) := by decide +kernel
theorem dX4_tell_2 : decode cX4_tell 2 = .ok (.iconst 1, 1) := by decide +kernel
theorem dX4_tell_3 : decode cX4_tell 3 = .ok (.invokestatic 80, 3) := by decide +kernel
theorem dX4_tell_6 : decode cX4_tell 6 = .ok (.ifCond .ne 6, 3) := by decide +kernel
theorem dX4_tell_9 : decode cX4_tell 9 = .ok (.bipush (-2), 2) := by decide +kernel
theorem dX4_tell_11 : decode cX4_tell 11 = .ok (.ireturn, 1) := by decide +kernel
theorem dX4_tell_12 : decode cX4_tell 12 = .ok (.iload_n 0, 1) := by decide +kernel
theorem dX4_tell_13 : decode cX4_tell 13 = .ok (.ifCond .ne 8, 3) := by decide +kernel
theorem dX4_tell_16 : decode cX4_tell 16 = .ok (.bipush (-9), 2) := by decide +kernel
theorem dX4_tell_18 : decode cX4_tell 18 = .ok (.goto 12, 3) := by decide +kernel
theorem dX4_tell_21 : decode cX4_tell 21 = .ok (.iload_n 2, 1) := by decide +kernel
theorem dX4_tell_22 : decode cX4_tell 22 = .ok (.ifCond .ne 7, 3) := by decide +kernel
theorem dX4_tell_25 : decode cX4_tell 25 = .ok (.iload_n 0, 1) := by decide +kernel
theorem dX4_tell_26 : decode cX4_tell 26 = .ok (.goto 4, 3) := by decide +kernel
theorem dX4_tell_29 : decode cX4_tell 29 = .ok (.iload_n 1, 1) := by decide +kernel
theorem dX4_tell_30 : decode cX4_tell 30 = .ok (.ireturn, 1) := by decide +kernel
theorem dX4_handed_0 : decode cX4_handed 0 = .ok (.aload_n 0, 1) := by decide +kernel
theorem dX4_handed_1 : decode cX4_handed 1 = .ok (.iload_n 1, 1) := by decide +kernel
theorem dX4_handed_2 : decode cX4_handed 2 = .ok (.iload_n 2, 1) := by decide +kernel
theorem dX4_handed_3 : decode cX4_handed 3 = .ok (.invokevirtual 168, 3) := by decide +kernel
theorem dX4_handed_6 : decode cX4_handed 6 = .ok (.ifCond .eq 10, 3) := by decide +kernel
theorem dX4_handed_9 : decode cX4_handed 9 = .ok (.iload_n 3, 1) := by decide +kernel
theorem dX4_handed_10 : decode cX4_handed 10 = .ok (.invokestatic 99, 3) := by decide +kernel
theorem dX4_handed_13 : decode cX4_handed 13 = .ok (.ifCond .ne 5, 3) := by decide +kernel
theorem dX4_handed_16 : decode cX4_handed 16 = .ok (.iconst (-1), 1) := by decide +kernel
theorem dX4_handed_17 : decode cX4_handed 17 = .ok (.ireturn, 1) := by decide +kernel
theorem dX4_handed_18 : decode cX4_handed 18 = .ok (.aload_n 0, 1) := by decide +kernel
theorem dX4_handed_19 : decode cX4_handed 19 = .ok (.getfield 35, 3) := by decide +kernel
theorem dX4_handed_22 : decode cX4_handed 22 = .ok (.iload_n 1, 1) := by decide +kernel
theorem dX4_handed_23 : decode cX4_handed 23 = .ok (.iload_n 2, 1) := by decide +kernel
theorem dX4_handed_24 : decode cX4_handed 24 = .ok (.iload_n 3, 1) := by decide +kernel
theorem dX4_handed_25 : decode cX4_handed 25 = .ok (.invokestatic 109, 3) := by decide +kernel
theorem dX4_handed_28 : decode cX4_handed 28 = .ok (.iaload, 1) := by decide +kernel
theorem dX4_handed_29 : decode cX4_handed 29 = .ok (.aload_n 0, 1) := by decide +kernel
theorem dX4_handed_30 : decode cX4_handed 30 = .ok (.getfield 38, 3) := by decide +kernel
theorem dX4_handed_33 : decode cX4_handed 33 = .ok (.iload_n 1, 1) := by decide +kernel
theorem dX4_handed_34 : decode cX4_handed 34 = .ok (.iload_n 2, 1) := by decide +kernel
theorem dX4_handed_35 : decode cX4_handed 35 = .ok (.iload_n 3, 1) := by decide +kernel
theorem dX4_handed_36 : decode cX4_handed 36 = .ok (.invokestatic 109, 3) := by decide +kernel
theorem dX4_handed_39 : decode cX4_handed 39 = .ok (.iaload, 1) := by decide +kernel
theorem dX4_handed_40 : decode cX4_handed 40 = .ok (.iload 4, 2) := by decide +kernel
theorem dX4_handed_42 : decode cX4_handed 42 = .ok (.invokestatic 171, 3) := by decide +kernel
theorem dX4_handed_45 : decode cX4_handed 45 = .ok (.ireturn, 1) := by decide +kernel
theorem dX4_kept_0 : decode cX4_kept 0 = .ok (.aload_n 0, 1) := by decide +kernel
theorem dX4_kept_1 : decode cX4_kept 1 = .ok (.iload_n 1, 1) := by decide +kernel
theorem dX4_kept_2 : decode cX4_kept 2 = .ok (.iload_n 2, 1) := by decide +kernel
theorem dX4_kept_3 : decode cX4_kept 3 = .ok (.invokevirtual 168, 3) := by decide +kernel
theorem dX4_kept_6 : decode cX4_kept 6 = .ok (.ifCond .eq 10, 3) := by decide +kernel
theorem dX4_kept_9 : decode cX4_kept 9 = .ok (.iload_n 3, 1) := by decide +kernel
theorem dX4_kept_10 : decode cX4_kept 10 = .ok (.invokestatic 99, 3) := by decide +kernel
theorem dX4_kept_13 : decode cX4_kept 13 = .ok (.ifCond .ne 5, 3) := by decide +kernel
theorem dX4_kept_16 : decode cX4_kept 16 = .ok (.iconst (-1), 1) := by decide +kernel
theorem dX4_kept_17 : decode cX4_kept 17 = .ok (.ireturn, 1) := by decide +kernel
theorem dX4_kept_18 : decode cX4_kept 18 = .ok (.aload_n 0, 1) := by decide +kernel
theorem dX4_kept_19 : decode cX4_kept 19 = .ok (.getfield 41, 3) := by decide +kernel
theorem dX4_kept_22 : decode cX4_kept 22 = .ok (.iload_n 1, 1) := by decide +kernel
theorem dX4_kept_23 : decode cX4_kept 23 = .ok (.iload_n 2, 1) := by decide +kernel
theorem dX4_kept_24 : decode cX4_kept 24 = .ok (.iload_n 3, 1) := by decide +kernel
theorem dX4_kept_25 : decode cX4_kept 25 = .ok (.invokestatic 109, 3) := by decide +kernel
theorem dX4_kept_28 : decode cX4_kept 28 = .ok (.iaload, 1) := by decide +kernel
theorem dX4_kept_29 : decode cX4_kept 29 = .ok (.aload_n 0, 1) := by decide +kernel
theorem dX4_kept_30 : decode cX4_kept 30 = .ok (.getfield 44, 3) := by decide +kernel
theorem dX4_kept_33 : decode cX4_kept 33 = .ok (.iload_n 1, 1) := by decide +kernel
theorem dX4_kept_34 : decode cX4_kept 34 = .ok (.iload_n 2, 1) := by decide +kernel
theorem dX4_kept_35 : decode cX4_kept 35 = .ok (.iload_n 3, 1) := by decide +kernel
theorem dX4_kept_36 : decode cX4_kept 36 = .ok (.invokestatic 109, 3) := by decide +kernel
theorem dX4_kept_39 : decode cX4_kept 39 = .ok (.iaload, 1) := by decide +kernel
theorem dX4_kept_40 : decode cX4_kept 40 = .ok (.iload 4, 2) := by decide +kernel
theorem dX4_kept_42 : decode cX4_kept 42 = .ok (.invokestatic 171, 3) := by decide +kernel
theorem dX4_kept_45 : decode cX4_kept 45 = .ok (.ireturn, 1) := by decide +kernel
theorem dX4_usedLabel_0 : decode cX4_usedLabel 0 = .ok (.aload_n 0, 1) := by decide +kernel
theorem dX4_usedLabel_1 : decode cX4_usedLabel 1 = .ok (.iload_n 1, 1) := by decide +kernel
theorem dX4_usedLabel_2 : decode cX4_usedLabel 2 = .ok (.iload_n 2, 1) := by decide +kernel
theorem dX4_usedLabel_3 : decode cX4_usedLabel 3 = .ok (.invokevirtual 113, 3) := by decide +kernel
theorem dX4_usedLabel_6 : decode cX4_usedLabel 6 = .ok (.istore_n 3, 1) := by decide +kernel
theorem dX4_usedLabel_7 : decode cX4_usedLabel 7 = .ok (.iload_n 3, 1) := by decide +kernel
theorem dX4_usedLabel_8 : decode cX4_usedLabel 8 = .ok (.bipush (-9), 2) := by decide +kernel
theorem dX4_usedLabel_10 : decode cX4_usedLabel 10 = .ok (.if_icmp .ne 7, 3) := by decide +kernel
theorem dX4_usedLabel_13 : decode cX4_usedLabel 13 = .ok (.iconst 0, 1) := by decide +kernel
theorem dX4_usedLabel_14 : decode cX4_usedLabel 14 = .ok (.goto 9, 3) := by decide +kernel
theorem dX4_usedLabel_17 : decode cX4_usedLabel 17 = .ok (.aload_n 0, 1) := by decide +kernel
theorem dX4_usedLabel_18 : decode cX4_usedLabel 18 = .ok (.getfield 41, 3) := by decide +kernel
theorem dX4_usedLabel_21 : decode cX4_usedLabel 21 = .ok (.iload_n 3, 1) := by decide +kernel
theorem dX4_usedLabel_22 : decode cX4_usedLabel 22 = .ok (.iaload, 1) := by decide +kernel
theorem dX4_usedLabel_23 : decode cX4_usedLabel 23 = .ok (.ireturn, 1) := by decide +kernel
theorem dX4_used_0 : decode cX4_used 0 = .ok (.iload_n 1, 1) := by decide +kernel
theorem dX4_used_1 : decode cX4_used 1 = .ok (.invokestatic 88, 3) := by decide +kernel
theorem dX4_used_4 : decode cX4_used 4 = .ok (.ifCond .eq 10, 3) := by decide +kernel
theorem dX4_used_7 : decode cX4_used 7 = .ok (.iload_n 2, 1) := by decide +kernel
theorem dX4_used_8 : decode cX4_used 8 = .ok (.invokestatic 99, 3) := by decide +kernel
theorem dX4_used_11 : decode cX4_used 11 = .ok (.ifCond .ne 5, 3) := by decide +kernel
theorem dX4_used_14 : decode cX4_used 14 = .ok (.iconst (-1), 1) := by decide +kernel
theorem dX4_used_15 : decode cX4_used 15 = .ok (.ireturn, 1) := by decide +kernel
theorem dX4_used_16 : decode cX4_used 16 = .ok (.aload_n 0, 1) := by decide +kernel
theorem dX4_used_17 : decode cX4_used 17 = .ok (.iload_n 1, 1) := by decide +kernel
theorem dX4_used_18 : decode cX4_used 18 = .ok (.iload_n 2, 1) := by decide +kernel
theorem dX4_used_19 : decode cX4_used 19 = .ok (.invokevirtual 174, 3) := by decide +kernel
theorem dX4_used_22 : decode cX4_used 22 = .ok (.istore_n 3, 1) := by decide +kernel
theorem dX4_used_23 : decode cX4_used 23 = .ok (.iload_n 3, 1) := by decide +kernel
theorem dX4_used_24 : decode cX4_used 24 = .ok (.ifCond .ne 8, 3) := by decide +kernel
theorem dX4_used_27 : decode cX4_used 27 = .ok (.bipush (-9), 2) := by decide +kernel
theorem dX4_used_29 : decode cX4_used 29 = .ok (.goto 4, 3) := by decide +kernel
theorem dX4_used_32 : decode cX4_used 32 = .ok (.iload_n 3, 1) := by decide +kernel
theorem dX4_used_33 : decode cX4_used 33 = .ok (.ireturn, 1) := by decide +kernel
theorem dX4_meaningOf_0 : decode cX4_meaningOf 0 = .ok (.iconst 0, 1) := by decide +kernel
theorem dX4_meaningOf_1 : decode cX4_meaningOf 1 = .ok (.istore 4, 2) := by decide +kernel
theorem dX4_meaningOf_3 : decode cX4_meaningOf 3 = .ok (.iload 4, 2) := by decide +kernel
theorem dX4_meaningOf_5 : decode cX4_meaningOf 5 = .ok (.iconst 4, 1) := by decide +kernel
theorem dX4_meaningOf_6 : decode cX4_meaningOf 6 = .ok (.if_icmp .ge 90, 3) := by decide +kernel
theorem dX4_meaningOf_9 : decode cX4_meaningOf 9 = .ok (.iconst 0, 1) := by decide +kernel
theorem dX4_meaningOf_10 : decode cX4_meaningOf 10 = .ok (.istore 5, 2) := by decide +kernel
theorem dX4_meaningOf_12 : decode cX4_meaningOf 12 = .ok (.iload 5, 2) := by decide +kernel
theorem dX4_meaningOf_14 : decode cX4_meaningOf 14 = .ok (.aload_n 0, 1) := by decide +kernel
theorem dX4_meaningOf_15 : decode cX4_meaningOf 15 = .ok (.getfield 84, 3) := by decide +kernel
theorem dX4_meaningOf_18 : decode cX4_meaningOf 18 = .ok (.if_icmp .ge 72, 3) := by decide +kernel
theorem dX4_meaningOf_21 : decode cX4_meaningOf 21 = .ok (.aload_n 0, 1) := by decide +kernel
theorem dX4_meaningOf_22 : decode cX4_meaningOf 22 = .ok (.getfield 35, 3) := by decide +kernel
theorem dX4_meaningOf_25 : decode cX4_meaningOf 25 = .ok (.iload_n 1, 1) := by decide +kernel
theorem dX4_meaningOf_26 : decode cX4_meaningOf 26 = .ok (.iload 5, 2) := by decide +kernel
theorem dX4_meaningOf_28 : decode cX4_meaningOf 28 = .ok (.iload 4, 2) := by decide +kernel
theorem dX4_meaningOf_30 : decode cX4_meaningOf 30 = .ok (.invokestatic 109, 3) := by decide +kernel
end
section
theorem dX4_meaningOf_33 : decode cX4_meaningOf 33 = .ok (.iaload, 1) := by decide +kernel
theorem dX4_meaningOf_34 : decode cX4_meaningOf 34 = .ok (.ifCond .le 24, 3) := by decide +kernel
theorem dX4_meaningOf_37 : decode cX4_meaningOf 37 = .ok (.aload_n 0, 1) := by decide +kernel
theorem dX4_meaningOf_38 : decode cX4_meaningOf 38 = .ok (.getfield 35, 3) := by decide +kernel
theorem dX4_meaningOf_41 : decode cX4_meaningOf 41 = .ok (.iload_n 1, 1) := by decide +kernel
theorem dX4_meaningOf_42 : decode cX4_meaningOf 42 = .ok (.iload 5, 2) := by decide +kernel
theorem dX4_meaningOf_44 : decode cX4_meaningOf 44 = .ok (.iload 4, 2) := by decide +kernel
theorem dX4_meaningOf_46 : decode cX4_meaningOf 46 = .ok (.invokestatic 109, 3) := by decide +kernel
theorem dX4_meaningOf_49 : decode cX4_meaningOf 49 = .ok (.iaload, 1) := by decide +kernel
theorem dX4_meaningOf_50 : decode cX4_meaningOf 50 = .ok (.iload_n 3, 1) := by decide +kernel
theorem dX4_meaningOf_51 : decode cX4_meaningOf 51 = .ok (.if_icmp .ne 7, 3) := by decide +kernel
theorem dX4_meaningOf_54 : decode cX4_meaningOf 54 = .ok (.iconst 1, 1) := by decide +kernel
theorem dX4_meaningOf_55 : decode cX4_meaningOf 55 = .ok (.goto 4, 3) := by decide +kernel
theorem dX4_meaningOf_58 : decode cX4_meaningOf 58 = .ok (.iconst 0, 1) := by decide +kernel
theorem dX4_meaningOf_59 : decode cX4_meaningOf 59 = .ok (.istore 6, 2) := by decide +kernel
theorem dX4_meaningOf_61 : decode cX4_meaningOf 61 = .ok (.iload 6, 2) := by decide +kernel
theorem dX4_meaningOf_63 : decode cX4_meaningOf 63 = .ok (.ifCond .eq 21, 3) := by decide +kernel
theorem dX4_meaningOf_66 : decode cX4_meaningOf 66 = .ok (.aload_n 0, 1) := by decide +kernel
theorem dX4_meaningOf_67 : decode cX4_meaningOf 67 = .ok (.iload_n 1, 1) := by decide +kernel
theorem dX4_meaningOf_68 : decode cX4_meaningOf 68 = .ok (.iconst 2, 1) := by decide +kernel
theorem dX4_meaningOf_69 : decode cX4_meaningOf 69 = .ok (.invokevirtual 120, 3) := by decide +kernel
theorem dX4_meaningOf_72 : decode cX4_meaningOf 72 = .ok (.ifCond .eq 9, 3) := by decide +kernel
theorem dX4_meaningOf_75 : decode cX4_meaningOf 75 = .ok (.iload 5, 2) := by decide +kernel
theorem dX4_meaningOf_77 : decode cX4_meaningOf 77 = .ok (.iload_n 2, 1) := by decide +kernel
theorem dX4_meaningOf_78 : decode cX4_meaningOf 78 = .ok (.if_icmp .ne 6, 3) := by decide +kernel
theorem dX4_meaningOf_81 : decode cX4_meaningOf 81 = .ok (.iload 4, 2) := by decide +kernel
theorem dX4_meaningOf_83 : decode cX4_meaningOf 83 = .ok (.ireturn, 1) := by decide +kernel
theorem dX4_meaningOf_84 : decode cX4_meaningOf 84 = .ok (.iinc 5 1, 3) := by decide +kernel
theorem dX4_meaningOf_87 : decode cX4_meaningOf 87 = .ok (.goto (-75), 3) := by decide +kernel
theorem dX4_meaningOf_90 : decode cX4_meaningOf 90 = .ok (.iinc 4 1, 3) := by decide +kernel
theorem dX4_meaningOf_93 : decode cX4_meaningOf 93 = .ok (.goto (-90), 3) := by decide +kernel
theorem dX4_meaningOf_96 : decode cX4_meaningOf 96 = .ok (.bipush (-9), 2) := by decide +kernel
theorem dX4_meaningOf_98 : decode cX4_meaningOf 98 = .ok (.ireturn, 1) := by decide +kernel
theorem dX4_meaning_0 : decode cX4_meaning 0 = .ok (.aload_n 0, 1) := by decide +kernel
theorem dX4_meaning_1 : decode cX4_meaning 1 = .ok (.iload_n 1, 1) := by decide +kernel
theorem dX4_meaning_2 : decode cX4_meaning 2 = .ok (.iload_n 2, 1) := by decide +kernel
theorem dX4_meaning_3 : decode cX4_meaning 3 = .ok (.invokevirtual 168, 3) := by decide +kernel
theorem dX4_meaning_6 : decode cX4_meaning 6 = .ok (.ifCond .ne 5, 3) := by decide +kernel
theorem dX4_meaning_9 : decode cX4_meaning 9 = .ok (.iconst (-1), 1) := by decide +kernel
theorem dX4_meaning_10 : decode cX4_meaning 10 = .ok (.ireturn, 1) := by decide +kernel
theorem dX4_meaning_11 : decode cX4_meaning 11 = .ok (.iload_n 3, 1) := by decide +kernel
theorem dX4_meaning_12 : decode cX4_meaning 12 = .ok (.iconst 0, 1) := by decide +kernel
theorem dX4_meaning_13 : decode cX4_meaning 13 = .ok (.bipush 99, 2) := by decide +kernel
theorem dX4_meaning_15 : decode cX4_meaning 15 = .ok (.invokestatic 80, 3) := by decide +kernel
theorem dX4_meaning_18 : decode cX4_meaning 18 = .ok (.ifCond .eq 13, 3) := by decide +kernel
theorem dX4_meaning_21 : decode cX4_meaning 21 = .ok (.aload_n 0, 1) := by decide +kernel
theorem dX4_meaning_22 : decode cX4_meaning 22 = .ok (.iload_n 1, 1) := by decide +kernel
theorem dX4_meaning_23 : decode cX4_meaning 23 = .ok (.iload_n 2, 1) := by decide +kernel
theorem dX4_meaning_24 : decode cX4_meaning 24 = .ok (.iload_n 3, 1) := by decide +kernel
theorem dX4_meaning_25 : decode cX4_meaning 25 = .ok (.invokevirtual 177, 3) := by decide +kernel
theorem dX4_meaning_28 : decode cX4_meaning 28 = .ok (.goto 5, 3) := by decide +kernel
theorem dX4_meaning_31 : decode cX4_meaning 31 = .ok (.bipush (-2), 2) := by decide +kernel
theorem dX4_meaning_33 : decode cX4_meaning 33 = .ok (.ireturn, 1) := by decide +kernel
theorem dX4_putsAside_0 : decode cX4_putsAside 0 = .ok (.iconst 0, 1) := by decide +kernel
theorem dX4_putsAside_1 : decode cX4_putsAside 1 = .ok (.istore_n 2, 1) := by decide +kernel
theorem dX4_putsAside_2 : decode cX4_putsAside 2 = .ok (.iload_n 2, 1) := by decide +kernel
theorem dX4_putsAside_3 : decode cX4_putsAside 3 = .ok (.sipush 336, 3) := by decide +kernel
theorem dX4_putsAside_6 : decode cX4_putsAside 6 = .ok (.if_icmp .ge 136, 3) := by decide +kernel
theorem dX4_putsAside_9 : decode cX4_putsAside 9 = .ok (.iload_n 1, 1) := by decide +kernel
theorem dX4_putsAside_10 : decode cX4_putsAside 10 = .ok (.ifCond .eq 66, 3) := by decide +kernel
theorem dX4_putsAside_13 : decode cX4_putsAside 13 = .ok (.aload_n 0, 1) := by decide +kernel
theorem dX4_putsAside_14 : decode cX4_putsAside 14 = .ok (.getfield 35, 3) := by decide +kernel
theorem dX4_putsAside_17 : decode cX4_putsAside 17 = .ok (.iload_n 2, 1) := by decide +kernel
theorem dX4_putsAside_18 : decode cX4_putsAside 18 = .ok (.aload_n 0, 1) := by decide +kernel
theorem dX4_putsAside_19 : decode cX4_putsAside 19 = .ok (.getfield 65, 3) := by decide +kernel
theorem dX4_putsAside_22 : decode cX4_putsAside 22 = .ok (.iload_n 2, 1) := by decide +kernel
theorem dX4_putsAside_23 : decode cX4_putsAside 23 = .ok (.iaload, 1) := by decide +kernel
theorem dX4_putsAside_24 : decode cX4_putsAside 24 = .ok (.iastore, 1) := by decide +kernel
theorem dX4_putsAside_25 : decode cX4_putsAside 25 = .ok (.aload_n 0, 1) := by decide +kernel
theorem dX4_putsAside_26 : decode cX4_putsAside 26 = .ok (.getfield 38, 3) := by decide +kernel
theorem dX4_putsAside_29 : decode cX4_putsAside 29 = .ok (.iload_n 2, 1) := by decide +kernel
theorem dX4_putsAside_30 : decode cX4_putsAside 30 = .ok (.aload_n 0, 1) := by decide +kernel
theorem dX4_putsAside_31 : decode cX4_putsAside 31 = .ok (.getfield 65, 3) := by decide +kernel
theorem dX4_putsAside_34 : decode cX4_putsAside 34 = .ok (.sipush 336, 3) := by decide +kernel
theorem dX4_putsAside_37 : decode cX4_putsAside 37 = .ok (.iload_n 2, 1) := by decide +kernel
theorem dX4_putsAside_38 : decode cX4_putsAside 38 = .ok (.iadd, 1) := by decide +kernel
theorem dX4_putsAside_39 : decode cX4_putsAside 39 = .ok (.iaload, 1) := by decide +kernel
theorem dX4_putsAside_40 : decode cX4_putsAside 40 = .ok (.iastore, 1) := by decide +kernel
theorem dX4_putsAside_41 : decode cX4_putsAside 41 = .ok (.aload_n 0, 1) := by decide +kernel
theorem dX4_putsAside_42 : decode cX4_putsAside 42 = .ok (.getfield 41, 3) := by decide +kernel
theorem dX4_putsAside_45 : decode cX4_putsAside 45 = .ok (.iload_n 2, 1) := by decide +kernel
theorem dX4_putsAside_46 : decode cX4_putsAside 46 = .ok (.aload_n 0, 1) := by decide +kernel
theorem dX4_putsAside_47 : decode cX4_putsAside 47 = .ok (.getfield 65, 3) := by decide +kernel
theorem dX4_putsAside_50 : decode cX4_putsAside 50 = .ok (.sipush 672, 3) := by decide +kernel
theorem dX4_putsAside_53 : decode cX4_putsAside 53 = .ok (.iload_n 2, 1) := by decide +kernel
theorem dX4_putsAside_54 : decode cX4_putsAside 54 = .ok (.iadd, 1) := by decide +kernel
theorem dX4_putsAside_55 : decode cX4_putsAside 55 = .ok (.iaload, 1) := by decide +kernel
theorem dX4_putsAside_56 : decode cX4_putsAside 56 = .ok (.iastore, 1) := by decide +kernel
theorem dX4_putsAside_57 : decode cX4_putsAside 57 = .ok (.aload_n 0, 1) := by decide +kernel
theorem dX4_putsAside_58 : decode cX4_putsAside 58 = .ok (.getfield 44, 3) := by decide +kernel
theorem dX4_putsAside_61 : decode cX4_putsAside 61 = .ok (.iload_n 2, 1) := by decide +kernel
theorem dX4_putsAside_62 : decode cX4_putsAside 62 = .ok (.aload_n 0, 1) := by decide +kernel
theorem dX4_putsAside_63 : decode cX4_putsAside 63 = .ok (.getfield 65, 3) := by decide +kernel
theorem dX4_putsAside_66 : decode cX4_putsAside 66 = .ok (.sipush 1008, 3) := by decide +kernel
theorem dX4_putsAside_69 : decode cX4_putsAside 69 = .ok (.iload_n 2, 1) := by decide +kernel
theorem dX4_putsAside_70 : decode cX4_putsAside 70 = .ok (.iadd, 1) := by decide +kernel
theorem dX4_putsAside_71 : decode cX4_putsAside 71 = .ok (.iaload, 1) := by decide +kernel
theorem dX4_putsAside_72 : decode cX4_putsAside 72 = .ok (.iastore, 1) := by decide +kernel
theorem dX4_putsAside_73 : decode cX4_putsAside 73 = .ok (.goto 63, 3) := by decide +kernel
theorem dX4_putsAside_76 : decode cX4_putsAside 76 = .ok (.aload_n 0, 1) := by decide +kernel
theorem dX4_putsAside_77 : decode cX4_putsAside 77 = .ok (.getfield 65, 3) := by decide +kernel
theorem dX4_putsAside_80 : decode cX4_putsAside 80 = .ok (.iload_n 2, 1) := by decide +kernel
theorem dX4_putsAside_81 : decode cX4_putsAside 81 = .ok (.aload_n 0, 1) := by decide +kernel
theorem dX4_putsAside_82 : decode cX4_putsAside 82 = .ok (.getfield 35, 3) := by decide +kernel
theorem dX4_putsAside_85 : decode cX4_putsAside 85 = .ok (.iload_n 2, 1) := by decide +kernel
theorem dX4_putsAside_86 : decode cX4_putsAside 86 = .ok (.iaload, 1) := by decide +kernel
theorem dX4_putsAside_87 : decode cX4_putsAside 87 = .ok (.iastore, 1) := by decide +kernel
theorem dX4_putsAside_88 : decode cX4_putsAside 88 = .ok (.aload_n 0, 1) := by decide +kernel
theorem dX4_putsAside_89 : decode cX4_putsAside 89 = .ok (.getfield 65, 3) := by decide +kernel
theorem dX4_putsAside_92 : decode cX4_putsAside 92 = .ok (.sipush 336, 3) := by decide +kernel
theorem dX4_putsAside_95 : decode cX4_putsAside 95 = .ok (.iload_n 2, 1) := by decide +kernel
theorem dX4_putsAside_96 : decode cX4_putsAside 96 = .ok (.iadd, 1) := by decide +kernel
theorem dX4_putsAside_97 : decode cX4_putsAside 97 = .ok (.aload_n 0, 1) := by decide +kernel
theorem dX4_putsAside_98 : decode cX4_putsAside 98 = .ok (.getfield 38, 3) := by decide +kernel
theorem dX4_putsAside_101 : decode cX4_putsAside 101 = .ok (.iload_n 2, 1) := by decide +kernel
theorem dX4_putsAside_102 : decode cX4_putsAside 102 = .ok (.iaload, 1) := by decide +kernel
theorem dX4_putsAside_103 : decode cX4_putsAside 103 = .ok (.iastore, 1) := by decide +kernel
theorem dX4_putsAside_104 : decode cX4_putsAside 104 = .ok (.aload_n 0, 1) := by decide +kernel
theorem dX4_putsAside_105 : decode cX4_putsAside 105 = .ok (.getfield 65, 3) := by decide +kernel
theorem dX4_putsAside_108 : decode cX4_putsAside 108 = .ok (.sipush 672, 3) := by decide +kernel
theorem dX4_putsAside_111 : decode cX4_putsAside 111 = .ok (.iload_n 2, 1) := by decide +kernel
theorem dX4_putsAside_112 : decode cX4_putsAside 112 = .ok (.iadd, 1) := by decide +kernel
theorem dX4_putsAside_113 : decode cX4_putsAside 113 = .ok (.aload_n 0, 1) := by decide +kernel
theorem dX4_putsAside_114 : decode cX4_putsAside 114 = .ok (.getfield 41, 3) := by decide +kernel
theorem dX4_putsAside_117 : decode cX4_putsAside 117 = .ok (.iload_n 2, 1) := by decide +kernel
theorem dX4_putsAside_118 : decode cX4_putsAside 118 = .ok (.iaload, 1) := by decide +kernel
theorem dX4_putsAside_119 : decode cX4_putsAside 119 = .ok (.iastore, 1) := by decide +kernel
theorem dX4_putsAside_120 : decode cX4_putsAside 120 = .ok (.aload_n 0, 1) := by decide +kernel
theorem dX4_putsAside_121 : decode cX4_putsAside 121 = .ok (.getfield 65, 3) := by decide +kernel
theorem dX4_putsAside_124 : decode cX4_putsAside 124 = .ok (.sipush 1008, 3) := by decide +kernel
theorem dX4_putsAside_127 : decode cX4_putsAside 127 = .ok (.iload_n 2, 1) := by decide +kernel
theorem dX4_putsAside_128 : decode cX4_putsAside 128 = .ok (.iadd, 1) := by decide +kernel
theorem dX4_putsAside_129 : decode cX4_putsAside 129 = .ok (.aload_n 0, 1) := by decide +kernel
theorem dX4_putsAside_130 : decode cX4_putsAside 130 = .ok (.getfield 44, 3) := by decide +kernel
theorem dX4_putsAside_133 : decode cX4_putsAside 133 = .ok (.iload_n 2, 1) := by decide +kernel
theorem dX4_putsAside_134 : decode cX4_putsAside 134 = .ok (.iaload, 1) := by decide +kernel
theorem dX4_putsAside_135 : decode cX4_putsAside 135 = .ok (.iastore, 1) := by decide +kernel
theorem dX4_putsAside_136 : decode cX4_putsAside 136 = .ok (.iinc 2 1, 3) := by decide +kernel
theorem dX4_putsAside_139 : decode cX4_putsAside 139 = .ok (.goto (-137), 3) := by decide +kernel
theorem dX4_putsAside_142 : decode cX4_putsAside 142 = .ok (.return_, 1) := by decide +kernel
theorem dX4_settles_0 : decode cX4_settles 0 = .ok (.aload_n 0, 1) := by decide +kernel
theorem dX4_settles_1 : decode cX4_settles 1 = .ok (.iconst 0, 1) := by decide +kernel
theorem dX4_settles_2 : decode cX4_settles 2 = .ok (.invokevirtual 180, 3) := by decide +kernel
theorem dX4_settles_5 : decode cX4_settles 5 = .ok (.iconst 0, 1) := by decide +kernel
theorem dX4_settles_6 : decode cX4_settles 6 = .ok (.istore_n 1, 1) := by decide +kernel
theorem dX4_settles_7 : decode cX4_settles 7 = .ok (.iconst 1, 1) := by decide +kernel
theorem dX4_settles_8 : decode cX4_settles 8 = .ok (.istore_n 2, 1) := by decide +kernel
theorem dX4_settles_9 : decode cX4_settles 9 = .ok (.iload_n 2, 1) := by decide +kernel
theorem dX4_settles_10 : decode cX4_settles 10 = .ok (.ifCond .eq 34, 3) := by decide +kernel
theorem dX4_settles_13 : decode cX4_settles 13 = .ok (.iload_n 1, 1) := by decide +kernel
theorem dX4_settles_14 : decode cX4_settles 14 = .ok (.bipush 30, 2) := by decide +kernel
theorem dX4_settles_16 : decode cX4_settles 16 = .ok (.if_icmp .ge 28, 3) := by decide +kernel
theorem dX4_settles_19 : decode cX4_settles 19 = .ok (.aload_n 0, 1) := by decide +kernel
theorem dX4_settles_20 : decode cX4_settles 20 = .ok (.invokevirtual 158, 3) := by decide +kernel
theorem dX4_settles_23 : decode cX4_settles 23 = .ok (.aload_n 0, 1) := by decide +kernel
theorem dX4_settles_24 : decode cX4_settles 24 = .ok (.iconst 1, 1) := by decide +kernel
theorem dX4_settles_25 : decode cX4_settles 25 = .ok (.invokevirtual 164, 3) := by decide +kernel
theorem dX4_settles_28 : decode cX4_settles 28 = .ok (.istore_n 2, 1) := by decide +kernel
theorem dX4_settles_29 : decode cX4_settles 29 = .ok (.iload_n 1, 1) := by decide +kernel
theorem dX4_settles_30 : decode cX4_settles 30 = .ok (.iload_n 2, 1) := by decide +kernel
theorem dX4_settles_31 : decode cX4_settles 31 = .ok (.ifCond .eq 7, 3) := by decide +kernel
theorem dX4_settles_34 : decode cX4_settles 34 = .ok (.iconst 1, 1) := by decide +kernel
theorem dX4_settles_35 : decode cX4_settles 35 = .ok (.goto 4, 3) := by decide +kernel
theorem dX4_settles_38 : decode cX4_settles 38 = .ok (.iconst 0, 1) := by decide +kernel
theorem dX4_settles_39 : decode cX4_settles 39 = .ok (.iadd, 1) := by decide +kernel
theorem dX4_settles_40 : decode cX4_settles 40 = .ok (.istore_n 1, 1) := by decide +kernel
theorem dX4_settles_41 : decode cX4_settles 41 = .ok (.goto (-32), 3) := by decide +kernel
theorem dX4_settles_44 : decode cX4_settles 44 = .ok (.aload_n 0, 1) := by decide +kernel
theorem dX4_settles_45 : decode cX4_settles 45 = .ok (.iconst 1, 1) := by decide +kernel
theorem dX4_settles_46 : decode cX4_settles 46 = .ok (.invokevirtual 180, 3) := by decide +kernel
theorem dX4_settles_49 : decode cX4_settles 49 = .ok (.iload_n 2, 1) := by decide +kernel
theorem dX4_settles_50 : decode cX4_settles 50 = .ok (.ifCond .eq 8, 3) := by decide +kernel
theorem dX4_settles_53 : decode cX4_settles 53 = .ok (.bipush (-9), 2) := by decide +kernel
theorem dX4_settles_55 : decode cX4_settles 55 = .ok (.goto 4, 3) := by decide +kernel
theorem dX4_settles_58 : decode cX4_settles 58 = .ok (.iload_n 1, 1) := by decide +kernel
theorem dX4_settles_59 : decode cX4_settles 59 = .ok (.ireturn, 1) := by decide +kernel
theorem dX4_goes_0 : decode cX4_goes 0 = .ok (.iload_n 1, 1) := by decide +kernel
theorem dX4_goes_1 : decode cX4_goes 1 = .ok (.istore_n 3, 1) := by decide +kernel
theorem dX4_goes_2 : decode cX4_goes 2 = .ok (.iconst 0, 1) := by decide +kernel
theorem dX4_goes_3 : decode cX4_goes 3 = .ok (.istore 4, 2) := by decide +kernel
theorem dX4_goes_5 : decode cX4_goes 5 = .ok (.bipush (-9), 2) := by decide +kernel
theorem dX4_goes_7 : decode cX4_goes 7 = .ok (.istore 5, 2) := by decide +kernel
theorem dX4_goes_9 : decode cX4_goes 9 = .ok (.aload_n 0, 1) := by decide +kernel
theorem dX4_goes_10 : decode cX4_goes 10 = .ok (.iconst 0, 1) := by decide +kernel
theorem dX4_goes_11 : decode cX4_goes 11 = .ok (.putfield 184, 3) := by decide +kernel
theorem dX4_goes_14 : decode cX4_goes 14 = .ok (.aload_n 0, 1) := by decide +kernel
theorem dX4_goes_15 : decode cX4_goes 15 = .ok (.getfield 68, 3) := by decide +kernel
theorem dX4_goes_18 : decode cX4_goes 18 = .ok (.aload_n 0, 1) := by decide +kernel
theorem dX4_goes_19 : decode cX4_goes 19 = .ok (.getfield 184, 3) := by decide +kernel
theorem dX4_goes_22 : decode cX4_goes 22 = .ok (.iload_n 3, 1) := by decide +kernel
theorem dX4_goes_23 : decode cX4_goes 23 = .ok (.iastore, 1) := by decide +kernel
theorem dX4_goes_24 : decode cX4_goes 24 = .ok (.aload_n 0, 1) := by decide +kernel
theorem dX4_goes_25 : decode cX4_goes 25 = .ok (.getfield 71, 3) := by decide +kernel
theorem dX4_goes_28 : decode cX4_goes 28 = .ok (.aload_n 0, 1) := by decide +kernel
theorem dX4_goes_29 : decode cX4_goes 29 = .ok (.getfield 184, 3) := by decide +kernel
theorem dX4_goes_32 : decode cX4_goes 32 = .ok (.iload 4, 2) := by decide +kernel
theorem dX4_goes_34 : decode cX4_goes 34 = .ok (.iastore, 1) := by decide +kernel
theorem dX4_goes_35 : decode cX4_goes 35 = .ok (.aload_n 0, 1) := by decide +kernel
theorem dX4_goes_36 : decode cX4_goes 36 = .ok (.dup, 1) := by decide +kernel
theorem dX4_goes_37 : decode cX4_goes 37 = .ok (.getfield 184, 3) := by decide +kernel
theorem dX4_goes_40 : decode cX4_goes 40 = .ok (.iconst 1, 1) := by decide +kernel
theorem dX4_goes_41 : decode cX4_goes 41 = .ok (.iadd, 1) := by decide +kernel
theorem dX4_goes_42 : decode cX4_goes 42 = .ok (.putfield 184, 3) := by decide +kernel
theorem dX4_goes_45 : decode cX4_goes 45 = .ok (.iload 4, 2) := by decide +kernel
theorem dX4_goes_47 : decode cX4_goes 47 = .ok (.ifCond .ne 7, 3) := by decide +kernel
theorem dX4_goes_50 : decode cX4_goes 50 = .ok (.iload_n 2, 1) := by decide +kernel
theorem dX4_goes_51 : decode cX4_goes 51 = .ok (.goto 12, 3) := by decide +kernel
theorem dX4_goes_54 : decode cX4_goes 54 = .ok (.aload_n 0, 1) := by decide +kernel
theorem dX4_goes_55 : decode cX4_goes 55 = .ok (.iload_n 3, 1) := by decide +kernel
theorem dX4_goes_56 : decode cX4_goes 56 = .ok (.iload 5, 2) := by decide +kernel
theorem dX4_goes_58 : decode cX4_goes 58 = .ok (.iload 4, 2) := by decide +kernel
theorem dX4_goes_60 : decode cX4_goes 60 = .ok (.invokevirtual 177, 3) := by decide +kernel
theorem dX4_goes_63 : decode cX4_goes 63 = .ok (.istore 6, 2) := by decide +kernel
theorem dX4_goes_65 : decode cX4_goes 65 = .ok (.iload 6, 2) := by decide +kernel
theorem dX4_goes_67 : decode cX4_goes 67 = .ok (.bipush (-9), 2) := by decide +kernel
theorem dX4_goes_69 : decode cX4_goes 69 = .ok (.if_icmp .ne 5, 3) := by decide +kernel
theorem dX4_goes_72 : decode cX4_goes 72 = .ok (.iconst 2, 1) := by decide +kernel
theorem dX4_goes_73 : decode cX4_goes 73 = .ok (.ireturn, 1) := by decide +kernel
theorem dX4_goes_74 : decode cX4_goes 74 = .ok (.aload_n 0, 1) := by decide +kernel
theorem dX4_goes_75 : decode cX4_goes 75 = .ok (.getfield 23, 3) := by decide +kernel
theorem dX4_goes_78 : decode cX4_goes 78 = .ok (.iload 6, 2) := by decide +kernel
theorem dX4_goes_80 : decode cX4_goes 80 = .ok (.iaload, 1) := by decide +kernel
theorem dX4_goes_81 : decode cX4_goes 81 = .ok (.iload_n 3, 1) := by decide +kernel
theorem dX4_goes_82 : decode cX4_goes 82 = .ok (.if_icmp .ne 5, 3) := by decide +kernel
theorem dX4_goes_85 : decode cX4_goes 85 = .ok (.iconst 0, 1) := by decide +kernel
theorem dX4_goes_86 : decode cX4_goes 86 = .ok (.ireturn, 1) := by decide +kernel
theorem dX4_goes_87 : decode cX4_goes 87 = .ok (.aload_n 0, 1) := by decide +kernel
theorem dX4_goes_88 : decode cX4_goes 88 = .ok (.iload_n 3, 1) := by decide +kernel
theorem dX4_goes_89 : decode cX4_goes 89 = .ok (.iload 6, 2) := by decide +kernel
theorem dX4_goes_91 : decode cX4_goes 91 = .ok (.invokevirtual 106, 3) := by decide +kernel
theorem dX4_goes_94 : decode cX4_goes 94 = .ok (.istore 7, 2) := by decide +kernel
theorem dX4_goes_96 : decode cX4_goes 96 = .ok (.iload 7, 2) := by decide +kernel
theorem dX4_goes_98 : decode cX4_goes 98 = .ok (.bipush (-9), 2) := by decide +kernel
theorem dX4_goes_100 : decode cX4_goes 100 = .ok (.if_icmp .ne 5, 3) := by decide +kernel
theorem dX4_goes_103 : decode cX4_goes 103 = .ok (.iconst 1, 1) := by decide +kernel
theorem dX4_goes_104 : decode cX4_goes 104 = .ok (.ireturn, 1) := by decide +kernel
theorem dX4_goes_105 : decode cX4_goes 105 = .ok (.aload_n 0, 1) := by decide +kernel
theorem dX4_goes_106 : decode cX4_goes 106 = .ok (.iload_n 3, 1) := by decide +kernel
theorem dX4_goes_107 : decode cX4_goes 107 = .ok (.iload 6, 2) := by decide +kernel
theorem dX4_goes_109 : decode cX4_goes 109 = .ok (.invokevirtual 174, 3) := by decide +kernel
theorem dX4_goes_112 : decode cX4_goes 112 = .ok (.istore 8, 2) := by decide +kernel
theorem dX4_goes_114 : decode cX4_goes 114 = .ok (.iload 8, 2) := by decide +kernel
theorem dX4_goes_116 : decode cX4_goes 116 = .ok (.ifCond .ne 10, 3) := by decide +kernel
theorem dX4_goes_119 : decode cX4_goes 119 = .ok (.iload 4, 2) := by decide +kernel
theorem dX4_goes_121 : decode cX4_goes 121 = .ok (.ifCond .le 5, 3) := by decide +kernel
theorem dX4_goes_124 : decode cX4_goes 124 = .ok (.iconst 3, 1) := by decide +kernel
theorem dX4_goes_125 : decode cX4_goes 125 = .ok (.ireturn, 1) := by decide +kernel
theorem dX4_goes_126 : decode cX4_goes 126 = .ok (.aload_n 0, 1) := by decide +kernel
theorem dX4_goes_127 : decode cX4_goes 127 = .ok (.getfield 184, 3) := by decide +kernel
theorem dX4_goes_130 : decode cX4_goes 130 = .ok (.bipush 14, 2) := by decide +kernel
theorem dX4_goes_132 : decode cX4_goes 132 = .ok (.if_icmp .le 5, 3) := by decide +kernel
theorem dX4_goes_135 : decode cX4_goes 135 = .ok (.iconst 4, 1) := by decide +kernel
theorem dX4_goes_136 : decode cX4_goes 136 = .ok (.ireturn, 1) := by decide +kernel
theorem dX4_goes_137 : decode cX4_goes 137 = .ok (.iload 8, 2) := by decide +kernel
theorem dX4_goes_139 : decode cX4_goes 139 = .ok (.iconst 3, 1) := by decide +kernel
theorem dX4_goes_140 : decode cX4_goes 140 = .ok (.if_icmp .ne 7, 3) := by decide +kernel
theorem dX4_goes_143 : decode cX4_goes 143 = .ok (.iconst 0, 1) := by decide +kernel
theorem dX4_goes_144 : decode cX4_goes 144 = .ok (.goto 5, 3) := by decide +kernel
theorem dX4_goes_147 : decode cX4_goes 147 = .ok (.iload 8, 2) := by decide +kernel
theorem dX4_goes_149 : decode cX4_goes 149 = .ok (.istore 4, 2) := by decide +kernel
theorem dX4_goes_151 : decode cX4_goes 151 = .ok (.aload_n 0, 1) := by decide +kernel
theorem dX4_goes_152 : decode cX4_goes 152 = .ok (.iload_n 3, 1) := by decide +kernel
theorem dX4_goes_153 : decode cX4_goes 153 = .ok (.iload 7, 2) := by decide +kernel
theorem dX4_goes_155 : decode cX4_goes 155 = .ok (.invokevirtual 92, 3) := by decide +kernel
theorem dX4_goes_158 : decode cX4_goes 158 = .ok (.istore 5, 2) := by decide +kernel
theorem dX4_goes_160 : decode cX4_goes 160 = .ok (.iload 7, 2) := by decide +kernel
theorem dX4_goes_162 : decode cX4_goes 162 = .ok (.istore_n 3, 1) := by decide +kernel
theorem dX4_goes_163 : decode cX4_goes 163 = .ok (.goto (-149), 3) := by decide +kernel
theorem dX4_letter_0 : decode cX4_letter 0 = .ok (.iload_n 1, 1) := by decide +kernel
theorem dX4_letter_1 : decode cX4_letter 1 = .ok (.invokestatic 88, 3) := by decide +kernel
theorem dX4_letter_4 : decode cX4_letter 4 = .ok (.ifCond .eq 10, 3) := by decide +kernel
theorem dX4_letter_7 : decode cX4_letter 7 = .ok (.iload_n 2, 1) := by decide +kernel
theorem dX4_letter_8 : decode cX4_letter 8 = .ok (.invokestatic 99, 3) := by decide +kernel
theorem dX4_letter_11 : decode cX4_letter 11 = .ok (.ifCond .ne 5, 3) := by decide +kernel
theorem dX4_letter_14 : decode cX4_letter 14 = .ok (.iconst (-1), 1) := by decide +kernel
theorem dX4_letter_15 : decode cX4_letter 15 = .ok (.ireturn, 1) := by decide +kernel
theorem dX4_letter_16 : decode cX4_letter 16 = .ok (.aload_n 0, 1) := by decide +kernel
theorem dX4_letter_17 : decode cX4_letter 17 = .ok (.iload_n 1, 1) := by decide +kernel
theorem dX4_letter_18 : decode cX4_letter 18 = .ok (.iload_n 2, 1) := by decide +kernel
theorem dX4_letter_19 : decode cX4_letter 19 = .ok (.invokevirtual 187, 3) := by decide +kernel
theorem dX4_letter_22 : decode cX4_letter 22 = .ok (.istore_n 3, 1) := by decide +kernel
theorem dX4_letter_23 : decode cX4_letter 23 = .ok (.aload_n 0, 1) := by decide +kernel
theorem dX4_letter_24 : decode cX4_letter 24 = .ok (.aload_n 0, 1) := by decide +kernel
theorem dX4_letter_25 : decode cX4_letter 25 = .ok (.getfield 184, 3) := by decide +kernel
theorem dX4_letter_28 : decode cX4_letter 28 = .ok (.putfield 190, 3) := by decide +kernel
theorem dX4_letter_31 : decode cX4_letter 31 = .ok (.iconst 0, 1) := by decide +kernel
theorem dX4_letter_32 : decode cX4_letter 32 = .ok (.istore 4, 2) := by decide +kernel
theorem dX4_letter_34 : decode cX4_letter 34 = .ok (.iload 4, 2) := by decide +kernel
theorem dX4_letter_36 : decode cX4_letter 36 = .ok (.aload_n 0, 1) := by decide +kernel
theorem dX4_letter_37 : decode cX4_letter 37 = .ok (.getfield 184, 3) := by decide +kernel
theorem dX4_letter_40 : decode cX4_letter 40 = .ok (.if_icmp .ge 37, 3) := by decide +kernel
theorem dX4_letter_43 : decode cX4_letter 43 = .ok (.aload_n 0, 1) := by decide +kernel
theorem dX4_letter_44 : decode cX4_letter 44 = .ok (.getfield 74, 3) := by decide +kernel
theorem dX4_letter_47 : decode cX4_letter 47 = .ok (.iload 4, 2) := by decide +kernel
theorem dX4_letter_49 : decode cX4_letter 49 = .ok (.aload_n 0, 1) := by decide +kernel
theorem dX4_letter_50 : decode cX4_letter 50 = .ok (.getfield 68, 3) := by decide +kernel
theorem dX4_letter_53 : decode cX4_letter 53 = .ok (.iload 4, 2) := by decide +kernel
theorem dX4_letter_55 : decode cX4_letter 55 = .ok (.iaload, 1) := by decide +kernel
theorem dX4_letter_56 : decode cX4_letter 56 = .ok (.iastore, 1) := by decide +kernel
theorem dX4_letter_57 : decode cX4_letter 57 = .ok (.aload_n 0, 1) := by decide +kernel
theorem dX4_letter_58 : decode cX4_letter 58 = .ok (.getfield 77, 3) := by decide +kernel
theorem dX4_letter_61 : decode cX4_letter 61 = .ok (.iload 4, 2) := by decide +kernel
theorem dX4_letter_63 : decode cX4_letter 63 = .ok (.aload_n 0, 1) := by decide +kernel
theorem dX4_letter_64 : decode cX4_letter 64 = .ok (.getfield 71, 3) := by decide +kernel
theorem dX4_letter_67 : decode cX4_letter 67 = .ok (.iload 4, 2) := by decide +kernel
theorem dX4_letter_69 : decode cX4_letter 69 = .ok (.iaload, 1) := by decide +kernel
theorem dX4_letter_70 : decode cX4_letter 70 = .ok (.iastore, 1) := by decide +kernel
theorem dX4_letter_71 : decode cX4_letter 71 = .ok (.iinc 4 1, 3) := by decide +kernel
theorem dX4_letter_74 : decode cX4_letter 74 = .ok (.goto (-40), 3) := by decide +kernel
theorem dX4_letter_77 : decode cX4_letter 77 = .ok (.iload_n 3, 1) := by decide +kernel
theorem dX4_letter_78 : decode cX4_letter 78 = .ok (.ireturn, 1) := by decide +kernel
theorem dX4_trace_0 : decode cX4_trace 0 = .ok (.iload_n 1, 1) := by decide +kernel
theorem dX4_trace_1 : decode cX4_trace 1 = .ok (.iconst 0, 1) := by decide +kernel
theorem dX4_trace_2 : decode cX4_trace 2 = .ok (.bipush 14, 2) := by decide +kernel
theorem dX4_trace_4 : decode cX4_trace 4 = .ok (.invokestatic 80, 3) := by decide +kernel
theorem dX4_trace_7 : decode cX4_trace 7 = .ok (.ifCond .eq 12, 3) := by decide +kernel
theorem dX4_trace_10 : decode cX4_trace 10 = .ok (.iload_n 2, 1) := by decide +kernel
theorem dX4_trace_11 : decode cX4_trace 11 = .ok (.iconst 0, 1) := by decide +kernel
theorem dX4_trace_12 : decode cX4_trace 12 = .ok (.iconst 1, 1) := by decide +kernel
theorem dX4_trace_13 : decode cX4_trace 13 = .ok (.invokestatic 80, 3) := by decide +kernel
theorem dX4_trace_16 : decode cX4_trace 16 = .ok (.ifCond .ne 6, 3) := by decide +kernel
theorem dX4_trace_19 : decode cX4_trace 19 = .ok (.bipush (-2), 2) := by decide +kernel
theorem dX4_trace_21 : decode cX4_trace 21 = .ok (.ireturn, 1) := by decide +kernel
theorem dX4_trace_22 : decode cX4_trace 22 = .ok (.iload_n 1, 1) := by decide +kernel
theorem dX4_trace_23 : decode cX4_trace 23 = .ok (.aload_n 0, 1) := by decide +kernel
theorem dX4_trace_24 : decode cX4_trace 24 = .ok (.getfield 190, 3) := by decide +kernel
theorem dX4_trace_27 : decode cX4_trace 27 = .ok (.if_icmp .lt 6, 3) := by decide +kernel
theorem dX4_trace_30 : decode cX4_trace 30 = .ok (.bipush (-9), 2) := by decide +kernel
theorem dX4_trace_32 : decode cX4_trace 32 = .ok (.ireturn, 1) := by decide +kernel
theorem dX4_trace_33 : decode cX4_trace 33 = .ok (.iload_n 2, 1) := by decide +kernel
theorem dX4_trace_34 : decode cX4_trace 34 = .ok (.ifCond .ne 12, 3) := by decide +kernel
theorem dX4_trace_37 : decode cX4_trace 37 = .ok (.aload_n 0, 1) := by decide +kernel
theorem dX4_trace_38 : decode cX4_trace 38 = .ok (.getfield 74, 3) := by decide +kernel
theorem dX4_trace_41 : decode cX4_trace 41 = .ok (.iload_n 1, 1) := by decide +kernel
theorem dX4_trace_42 : decode cX4_trace 42 = .ok (.iaload, 1) := by decide +kernel
theorem dX4_trace_43 : decode cX4_trace 43 = .ok (.goto 9, 3) := by decide +kernel
theorem dX4_trace_46 : decode cX4_trace 46 = .ok (.aload_n 0, 1) := by decide +kernel
theorem dX4_trace_47 : decode cX4_trace 47 = .ok (.getfield 77, 3) := by decide +kernel
theorem dX4_trace_50 : decode cX4_trace 50 = .ok (.iload_n 1, 1) := by decide +kernel
theorem dX4_trace_51 : decode cX4_trace 51 = .ok (.iaload, 1) := by decide +kernel
theorem dX4_trace_52 : decode cX4_trace 52 = .ok (.ireturn, 1) := by decide +kernel
theorem dX4_isCarried_0 : decode cX4_isCarried 0 = .ok (.iconst 1, 1) := by decide +kernel
theorem dX4_isCarried_1 : decode cX4_isCarried 1 = .ok (.istore_n 1, 1) := by decide +kernel
theorem dX4_isCarried_2 : decode cX4_isCarried 2 = .ok (.iload_n 1, 1) := by decide +kernel
theorem dX4_isCarried_3 : decode cX4_isCarried 3 = .ok (.aload_n 0, 1) := by decide +kernel
theorem dX4_isCarried_4 : decode cX4_isCarried 4 = .ok (.getfield 184, 3) := by decide +kernel
theorem dX4_isCarried_7 : decode cX4_isCarried 7 = .ok (.iconst 1, 1) := by decide +kernel
theorem dX4_isCarried_8 : decode cX4_isCarried 8 = .ok (.isub, 1) := by decide +kernel
theorem dX4_isCarried_9 : decode cX4_isCarried 9 = .ok (.if_icmp .ge 20, 3) := by decide +kernel
theorem dX4_isCarried_12 : decode cX4_isCarried 12 = .ok (.aload_n 0, 1) := by decide +kernel
theorem dX4_isCarried_13 : decode cX4_isCarried 13 = .ok (.getfield 71, 3) := by decide +kernel
theorem dX4_isCarried_16 : decode cX4_isCarried 16 = .ok (.iload_n 1, 1) := by decide +kernel
theorem dX4_isCarried_17 : decode cX4_isCarried 17 = .ok (.iaload, 1) := by decide +kernel
theorem dX4_isCarried_18 : decode cX4_isCarried 18 = .ok (.ifCond .ne 5, 3) := by decide +kernel
theorem dX4_isCarried_21 : decode cX4_isCarried 21 = .ok (.iconst 0, 1) := by decide +kernel
theorem dX4_isCarried_22 : decode cX4_isCarried 22 = .ok (.ireturn, 1) := by decide +kernel
theorem dX4_isCarried_23 : decode cX4_isCarried 23 = .ok (.iinc 1 1, 3) := by decide +kernel
theorem dX4_isCarried_26 : decode cX4_isCarried 26 = .ok (.goto (-24), 3) := by decide +kernel
theorem dX4_isCarried_29 : decode cX4_isCarried 29 = .ok (.iconst 1, 1) := by decide +kernel
theorem dX4_isCarried_30 : decode cX4_isCarried 30 = .ok (.ireturn, 1) := by decide +kernel
theorem dX4_served_0 : decode cX4_served 0 = .ok (.iload_n 1, 1) := by decide +kernel
theorem dX4_served_1 : decode cX4_served 1 = .ok (.invokestatic 99, 3) := by decide +kernel
theorem dX4_served_4 : decode cX4_served 4 = .ok (.ifCond .ne 5, 3) := by decide +kernel
theorem dX4_served_7 : decode cX4_served 7 = .ok (.iconst (-1), 1) := by decide +kernel
theorem dX4_served_8 : decode cX4_served 8 = .ok (.ireturn, 1) := by decide +kernel
theorem dX4_served_9 : decode cX4_served 9 = .ok (.iload_n 2, 1) := by decide +kernel
theorem dX4_served_10 : decode cX4_served 10 = .ok (.iconst 0, 1) := by decide +kernel
theorem dX4_served_11 : decode cX4_served 11 = .ok (.iconst 2, 1) := by decide +kernel
theorem dX4_served_12 : decode cX4_served 12 = .ok (.invokestatic 80, 3) := by decide +kernel
theorem dX4_served_15 : decode cX4_served 15 = .ok (.ifCond .ne 6, 3) := by decide +kernel
theorem dX4_served_18 : decode cX4_served 18 = .ok (.bipush (-2), 2) := by decide +kernel
theorem dX4_served_20 : decode cX4_served 20 = .ok (.ireturn, 1) := by decide +kernel
theorem dX4_served_21 : decode cX4_served 21 = .ok (.iconst 0, 1) := by decide +kernel
theorem dX4_served_22 : decode cX4_served 22 = .ok (.istore_n 3, 1) := by decide +kernel
theorem dX4_served_23 : decode cX4_served 23 = .ok (.iconst 0, 1) := by decide +kernel
theorem dX4_served_24 : decode cX4_served 24 = .ok (.istore 4, 2) := by decide +kernel
theorem dX4_served_26 : decode cX4_served 26 = .ok (.iload 4, 2) := by decide +kernel
theorem dX4_served_28 : decode cX4_served 28 = .ok (.bipush 7, 2) := by decide +kernel
theorem dX4_served_30 : decode cX4_served 30 = .ok (.if_icmp .ge 88, 3) := by decide +kernel
theorem dX4_served_33 : decode cX4_served 33 = .ok (.aload_n 0, 1) := by decide +kernel
theorem dX4_served_34 : decode cX4_served 34 = .ok (.iload 4, 2) := by decide +kernel
theorem dX4_served_36 : decode cX4_served 36 = .ok (.iload_n 1, 1) := by decide +kernel
theorem dX4_served_37 : decode cX4_served 37 = .ok (.invokevirtual 187, 3) := by decide +kernel
theorem dX4_served_40 : decode cX4_served 40 = .ok (.ifCond .ne 7, 3) := by decide +kernel
theorem dX4_served_43 : decode cX4_served 43 = .ok (.iconst 1, 1) := by decide +kernel
theorem dX4_served_44 : decode cX4_served 44 = .ok (.goto 4, 3) := by decide +kernel
theorem dX4_served_47 : decode cX4_served 47 = .ok (.iconst 0, 1) := by decide +kernel
theorem dX4_served_48 : decode cX4_served 48 = .ok (.istore 5, 2) := by decide +kernel
theorem dX4_served_50 : decode cX4_served 50 = .ok (.iload_n 2, 1) := by decide +kernel
theorem dX4_served_51 : decode cX4_served 51 = .ok (.ifCond .ne 8, 3) := by decide +kernel
theorem dX4_served_54 : decode cX4_served 54 = .ok (.iload 5, 2) := by decide +kernel
theorem dX4_served_56 : decode cX4_served 56 = .ok (.goto 38, 3) := by decide +kernel
theorem dX4_served_59 : decode cX4_served 59 = .ok (.iload_n 2, 1) := by decide +kernel
theorem dX4_served_60 : decode cX4_served 60 = .ok (.iconst 1, 1) := by decide +kernel
theorem dX4_served_61 : decode cX4_served 61 = .ok (.if_icmp .ne 16, 3) := by decide +kernel
theorem dX4_served_64 : decode cX4_served 64 = .ok (.iload 5, 2) := by decide +kernel
theorem dX4_served_66 : decode cX4_served 66 = .ok (.ifCond .ne 7, 3) := by decide +kernel
theorem dX4_served_69 : decode cX4_served 69 = .ok (.iconst 1, 1) := by decide +kernel
theorem dX4_served_70 : decode cX4_served 70 = .ok (.goto 24, 3) := by decide +kernel
theorem dX4_served_73 : decode cX4_served 73 = .ok (.iconst 0, 1) := by decide +kernel
theorem dX4_served_74 : decode cX4_served 74 = .ok (.goto 20, 3) := by decide +kernel
theorem dX4_served_77 : decode cX4_served 77 = .ok (.iload 5, 2) := by decide +kernel
theorem dX4_served_79 : decode cX4_served 79 = .ok (.ifCond .eq 14, 3) := by decide +kernel
theorem dX4_served_82 : decode cX4_served 82 = .ok (.aload_n 0, 1) := by decide +kernel
theorem dX4_served_83 : decode cX4_served 83 = .ok (.invokevirtual 193, 3) := by decide +kernel
theorem dX4_served_86 : decode cX4_served 86 = .ok (.ifCond .eq 7, 3) := by decide +kernel
theorem dX4_served_89 : decode cX4_served 89 = .ok (.iconst 1, 1) := by decide +kernel
theorem dX4_served_90 : decode cX4_served 90 = .ok (.goto 4, 3) := by decide +kernel
theorem dX4_served_93 : decode cX4_served 93 = .ok (.iconst 0, 1) := by decide +kernel
theorem dX4_served_94 : decode cX4_served 94 = .ok (.istore 6, 2) := by decide +kernel
theorem dX4_served_96 : decode cX4_served 96 = .ok (.iload_n 3, 1) := by decide +kernel
theorem dX4_served_97 : decode cX4_served 97 = .ok (.iload 6, 2) := by decide +kernel
theorem dX4_served_99 : decode cX4_served 99 = .ok (.ifCond .eq 10, 3) := by decide +kernel
theorem dX4_served_102 : decode cX4_served 102 = .ok (.iconst 1, 1) := by decide +kernel
theorem dX4_served_103 : decode cX4_served 103 = .ok (.iload 4, 2) := by decide +kernel
theorem dX4_served_105 : decode cX4_served 105 = .ok (.ishl, 1) := by decide +kernel
theorem dX4_served_106 : decode cX4_served 106 = .ok (.goto 4, 3) := by decide +kernel
theorem dX4_served_109 : decode cX4_served 109 = .ok (.iconst 0, 1) := by decide +kernel
theorem dX4_served_110 : decode cX4_served 110 = .ok (.ior, 1) := by decide +kernel
theorem dX4_served_111 : decode cX4_served 111 = .ok (.istore_n 3, 1) := by decide +kernel
theorem dX4_served_112 : decode cX4_served 112 = .ok (.iinc 4 1, 3) := by decide +kernel
theorem dX4_served_115 : decode cX4_served 115 = .ok (.goto (-89), 3) := by decide +kernel
theorem dX4_served_118 : decode cX4_served 118 = .ok (.iload_n 3, 1) := by decide +kernel
theorem dX4_served_119 : decode cX4_served 119 = .ok (.ireturn, 1) := by decide +kernel
theorem dX4_merged_0 : decode cX4_merged 0 = .ok (.iload_n 1, 1) := by decide +kernel
theorem dX4_merged_1 : decode cX4_merged 1 = .ok (.invokestatic 88, 3) := by decide +kernel
theorem dX4_merged_4 : decode cX4_merged 4 = .ok (.ifCond .eq 10, 3) := by decide +kernel
theorem dX4_merged_7 : decode cX4_merged 7 = .ok (.iload_n 2, 1) := by decide +kernel
theorem dX4_merged_8 : decode cX4_merged 8 = .ok (.invokestatic 99, 3) := by decide +kernel
theorem dX4_merged_11 : decode cX4_merged 11 = .ok (.ifCond .ne 5, 3) := by decide +kernel
theorem dX4_merged_14 : decode cX4_merged 14 = .ok (.iconst (-1), 1) := by decide +kernel
theorem dX4_merged_15 : decode cX4_merged 15 = .ok (.ireturn, 1) := by decide +kernel
theorem dX4_merged_16 : decode cX4_merged 16 = .ok (.iconst 0, 1) := by decide +kernel
theorem dX4_merged_17 : decode cX4_merged 17 = .ok (.istore_n 3, 1) := by decide +kernel
theorem dX4_merged_18 : decode cX4_merged 18 = .ok (.iconst 0, 1) := by decide +kernel
theorem dX4_merged_19 : decode cX4_merged 19 = .ok (.istore 4, 2) := by decide +kernel
theorem dX4_merged_21 : decode cX4_merged 21 = .ok (.iload 4, 2) := by decide +kernel
theorem dX4_merged_23 : decode cX4_merged 23 = .ok (.bipush 7, 2) := by decide +kernel
theorem dX4_merged_25 : decode cX4_merged 25 = .ok (.if_icmp .ge 41, 3) := by decide +kernel
theorem dX4_merged_28 : decode cX4_merged 28 = .ok (.iload_n 3, 1) := by decide +kernel
theorem dX4_merged_29 : decode cX4_merged 29 = .ok (.aload_n 0, 1) := by decide +kernel
theorem dX4_merged_30 : decode cX4_merged 30 = .ok (.iload 4, 2) := by decide +kernel
theorem dX4_merged_32 : decode cX4_merged 32 = .ok (.iload_n 2, 1) := by decide +kernel
theorem dX4_merged_33 : decode cX4_merged 33 = .ok (.invokevirtual 106, 3) := by decide +kernel
theorem dX4_merged_36 : decode cX4_merged 36 = .ok (.iload_n 1, 1) := by decide +kernel
theorem dX4_merged_37 : decode cX4_merged 37 = .ok (.if_icmp .ne 20, 3) := by decide +kernel
theorem dX4_merged_40 : decode cX4_merged 40 = .ok (.aload_n 0, 1) := by decide +kernel
theorem dX4_merged_41 : decode cX4_merged 41 = .ok (.iload 4, 2) := by decide +kernel
theorem dX4_merged_43 : decode cX4_merged 43 = .ok (.iload_n 2, 1) := by decide +kernel
theorem dX4_merged_44 : decode cX4_merged 44 = .ok (.invokevirtual 174, 3) := by decide +kernel
theorem dX4_merged_47 : decode cX4_merged 47 = .ok (.ifCond .le 10, 3) := by decide +kernel
theorem dX4_merged_50 : decode cX4_merged 50 = .ok (.iconst 1, 1) := by decide +kernel
theorem dX4_merged_51 : decode cX4_merged 51 = .ok (.iload 4, 2) := by decide +kernel
theorem dX4_merged_53 : decode cX4_merged 53 = .ok (.ishl, 1) := by decide +kernel
theorem dX4_merged_54 : decode cX4_merged 54 = .ok (.goto 4, 3) := by decide +kernel
theorem dX4_merged_57 : decode cX4_merged 57 = .ok (.iconst 0, 1) := by decide +kernel
theorem dX4_merged_58 : decode cX4_merged 58 = .ok (.ior, 1) := by decide +kernel
theorem dX4_merged_59 : decode cX4_merged 59 = .ok (.istore_n 3, 1) := by decide +kernel
theorem dX4_merged_60 : decode cX4_merged 60 = .ok (.iinc 4 1, 3) := by decide +kernel
theorem dX4_merged_63 : decode cX4_merged 63 = .ok (.goto (-42), 3) := by decide +kernel
theorem dX4_merged_66 : decode cX4_merged 66 = .ok (.iload_n 3, 1) := by decide +kernel
theorem dX4_merged_67 : decode cX4_merged 67 = .ok (.ireturn, 1) := by decide +kernel
theorem dX4_manyIn_0 : decode cX4_manyIn 0 = .ok (.iconst 0, 1) := by decide +kernel
theorem dX4_manyIn_1 : decode cX4_manyIn 1 = .ok (.istore_n 1, 1) := by decide +kernel
theorem dX4_manyIn_2 : decode cX4_manyIn 2 = .ok (.iconst 0, 1) := by decide +kernel
theorem dX4_manyIn_3 : decode cX4_manyIn 3 = .ok (.istore_n 2, 1) := by decide +kernel
theorem dX4_manyIn_4 : decode cX4_manyIn 4 = .ok (.iload_n 2, 1) := by decide +kernel
theorem dX4_manyIn_5 : decode cX4_manyIn 5 = .ok (.sipush 336, 3) := by decide +kernel
theorem dX4_manyIn_8 : decode cX4_manyIn 8 = .ok (.if_icmp .ge 23, 3) := by decide +kernel
theorem dX4_manyIn_11 : decode cX4_manyIn 11 = .ok (.iload_n 1, 1) := by decide +kernel
theorem dX4_manyIn_12 : decode cX4_manyIn 12 = .ok (.aload_n 0, 1) := by decide +kernel
theorem dX4_manyIn_13 : decode cX4_manyIn 13 = .ok (.iload_n 2, 1) := by decide +kernel
theorem dX4_manyIn_14 : decode cX4_manyIn 14 = .ok (.iaload, 1) := by decide +kernel
theorem dX4_manyIn_15 : decode cX4_manyIn 15 = .ok (.ifCond .le 7, 3) := by decide +kernel
theorem dX4_manyIn_18 : decode cX4_manyIn 18 = .ok (.iconst 1, 1) := by decide +kernel
theorem dX4_manyIn_19 : decode cX4_manyIn 19 = .ok (.goto 4, 3) := by decide +kernel
theorem dX4_manyIn_22 : decode cX4_manyIn 22 = .ok (.iconst 0, 1) := by decide +kernel
theorem dX4_manyIn_23 : decode cX4_manyIn 23 = .ok (.iadd, 1) := by decide +kernel
theorem dX4_manyIn_24 : decode cX4_manyIn 24 = .ok (.istore_n 1, 1) := by decide +kernel
theorem dX4_manyIn_25 : decode cX4_manyIn 25 = .ok (.iinc 2 1, 3) := by decide +kernel
theorem dX4_manyIn_28 : decode cX4_manyIn 28 = .ok (.goto (-24), 3) := by decide +kernel
theorem dX4_manyIn_31 : decode cX4_manyIn 31 = .ok (.iload_n 1, 1) := by decide +kernel
theorem dX4_manyIn_32 : decode cX4_manyIn 32 = .ok (.ireturn, 1) := by decide +kernel
theorem dX4_many_0 : decode cX4_many 0 = .ok (.iconst 0, 1) := by decide +kernel
theorem dX4_many_1 : decode cX4_many 1 = .ok (.istore_n 2, 1) := by decide +kernel
theorem dX4_many_2 : decode cX4_many 2 = .ok (.iload_n 1, 1) := by decide +kernel
theorem dX4_many_3 : decode cX4_many 3 = .ok (.tableswitch 174 0 6 #[41, 46, 81, 89, 97, 131, 136], 41) := by decide +kernel
theorem dX4_many_44 : decode cX4_many 44 = .ok (.aload_n 0, 1) := by decide +kernel
theorem dX4_many_45 : decode cX4_many 45 = .ok (.getfield 84, 3) := by decide +kernel
theorem dX4_many_48 : decode cX4_many 48 = .ok (.ireturn, 1) := by decide +kernel
theorem dX4_many_49 : decode cX4_many 49 = .ok (.iconst 0, 1) := by decide +kernel
theorem dX4_many_50 : decode cX4_many 50 = .ok (.istore_n 3, 1) := by decide +kernel
theorem dX4_many_51 : decode cX4_many 51 = .ok (.iload_n 3, 1) := by decide +kernel
theorem dX4_many_52 : decode cX4_many 52 = .ok (.aload_n 0, 1) := by decide +kernel
theorem dX4_many_53 : decode cX4_many 53 = .ok (.getfield 84, 3) := by decide +kernel
theorem dX4_many_56 : decode cX4_many 56 = .ok (.if_icmp .ge 26, 3) := by decide +kernel
theorem dX4_many_59 : decode cX4_many 59 = .ok (.iload_n 2, 1) := by decide +kernel
theorem dX4_many_60 : decode cX4_many 60 = .ok (.aload_n 0, 1) := by decide +kernel
theorem dX4_many_61 : decode cX4_many 61 = .ok (.getfield 19, 3) := by decide +kernel
theorem dX4_many_64 : decode cX4_many 64 = .ok (.iload_n 3, 1) := by decide +kernel
theorem dX4_many_65 : decode cX4_many 65 = .ok (.baload, 1) := by decide +kernel
theorem dX4_many_66 : decode cX4_many 66 = .ok (.ifCond .eq 7, 3) := by decide +kernel
theorem dX4_many_69 : decode cX4_many 69 = .ok (.iconst 1, 1) := by decide +kernel
theorem dX4_many_70 : decode cX4_many 70 = .ok (.goto 4, 3) := by decide +kernel
theorem dX4_many_73 : decode cX4_many 73 = .ok (.iconst 0, 1) := by decide +kernel
theorem dX4_many_74 : decode cX4_many 74 = .ok (.iadd, 1) := by decide +kernel
theorem dX4_many_75 : decode cX4_many 75 = .ok (.istore_n 2, 1) := by decide +kernel
theorem dX4_many_76 : decode cX4_many 76 = .ok (.iinc 3 1, 3) := by decide +kernel
theorem dX4_many_79 : decode cX4_many 79 = .ok (.goto (-28), 3) := by decide +kernel
theorem dX4_many_82 : decode cX4_many 82 = .ok (.iload_n 2, 1) := by decide +kernel
theorem dX4_many_83 : decode cX4_many 83 = .ok (.ireturn, 1) := by decide +kernel
theorem dX4_many_84 : decode cX4_many 84 = .ok (.aload_n 0, 1) := by decide +kernel
theorem dX4_many_85 : decode cX4_many 85 = .ok (.getfield 35, 3) := by decide +kernel
theorem dX4_many_88 : decode cX4_many 88 = .ok (.invokestatic 197, 3) := by decide +kernel
theorem dX4_many_91 : decode cX4_many 91 = .ok (.ireturn, 1) := by decide +kernel
theorem dX4_many_92 : decode cX4_many 92 = .ok (.aload_n 0, 1) := by decide +kernel
theorem dX4_many_93 : decode cX4_many 93 = .ok (.getfield 41, 3) := by decide +kernel
theorem dX4_many_96 : decode cX4_many 96 = .ok (.invokestatic 197, 3) := by decide +kernel
theorem dX4_many_99 : decode cX4_many 99 = .ok (.ireturn, 1) := by decide +kernel
theorem dX4_many_100 : decode cX4_many 100 = .ok (.iconst 0, 1) := by decide +kernel
theorem dX4_many_101 : decode cX4_many 101 = .ok (.istore_n 3, 1) := by decide +kernel
theorem dX4_many_102 : decode cX4_many 102 = .ok (.iload_n 3, 1) := by decide +kernel
theorem dX4_many_103 : decode cX4_many 103 = .ok (.iconst 4, 1) := by decide +kernel
theorem dX4_many_104 : decode cX4_many 104 = .ok (.if_icmp .ge 28, 3) := by decide +kernel
theorem dX4_many_107 : decode cX4_many 107 = .ok (.iload_n 2, 1) := by decide +kernel
theorem dX4_many_108 : decode cX4_many 108 = .ok (.aload_n 0, 1) := by decide +kernel
theorem dX4_many_109 : decode cX4_many 109 = .ok (.getfield 23, 3) := by decide +kernel
theorem dX4_many_112 : decode cX4_many 112 = .ok (.iload_n 3, 1) := by decide +kernel
theorem dX4_many_113 : decode cX4_many 113 = .ok (.iaload, 1) := by decide +kernel
theorem dX4_many_114 : decode cX4_many 114 = .ok (.bipush (-9), 2) := by decide +kernel
theorem dX4_many_116 : decode cX4_many 116 = .ok (.if_icmp .ne 7, 3) := by decide +kernel
theorem dX4_many_119 : decode cX4_many 119 = .ok (.iconst 0, 1) := by decide +kernel
theorem dX4_many_120 : decode cX4_many 120 = .ok (.goto 4, 3) := by decide +kernel
theorem dX4_many_123 : decode cX4_many 123 = .ok (.iconst 1, 1) := by decide +kernel
theorem dX4_many_124 : decode cX4_many 124 = .ok (.iadd, 1) := by decide +kernel
theorem dX4_many_125 : decode cX4_many 125 = .ok (.istore_n 2, 1) := by decide +kernel
theorem dX4_many_126 : decode cX4_many 126 = .ok (.iinc 3 1, 3) := by decide +kernel
theorem dX4_many_129 : decode cX4_many 129 = .ok (.goto (-27), 3) := by decide +kernel
theorem dX4_many_132 : decode cX4_many 132 = .ok (.iload_n 2, 1) := by decide +kernel
theorem dX4_many_133 : decode cX4_many 133 = .ok (.ireturn, 1) := by decide +kernel
theorem dX4_many_134 : decode cX4_many 134 = .ok (.aload_n 0, 1) := by decide +kernel
theorem dX4_many_135 : decode cX4_many 135 = .ok (.getfield 161, 3) := by decide +kernel
theorem dX4_many_138 : decode cX4_many 138 = .ok (.ireturn, 1) := by decide +kernel
theorem dX4_many_139 : decode cX4_many 139 = .ok (.iconst 0, 1) := by decide +kernel
theorem dX4_many_140 : decode cX4_many 140 = .ok (.istore_n 3, 1) := by decide +kernel
theorem dX4_many_141 : decode cX4_many 141 = .ok (.iload_n 3, 1) := by decide +kernel
theorem dX4_many_142 : decode cX4_many 142 = .ok (.sipush 336, 3) := by decide +kernel
theorem dX4_many_145 : decode cX4_many 145 = .ok (.if_icmp .ge 30, 3) := by decide +kernel
theorem dX4_many_148 : decode cX4_many 148 = .ok (.aload_n 0, 1) := by decide +kernel
theorem dX4_many_149 : decode cX4_many 149 = .ok (.getfield 35, 3) := by decide +kernel
theorem dX4_many_152 : decode cX4_many 152 = .ok (.iload_n 3, 1) := by decide +kernel
theorem dX4_many_153 : decode cX4_many 153 = .ok (.iaload, 1) := by decide +kernel
theorem dX4_many_154 : decode cX4_many 154 = .ok (.iload_n 2, 1) := by decide +kernel
theorem dX4_many_155 : decode cX4_many 155 = .ok (.if_icmp .le 12, 3) := by decide +kernel
theorem dX4_many_158 : decode cX4_many 158 = .ok (.aload_n 0, 1) := by decide +kernel
theorem dX4_many_159 : decode cX4_many 159 = .ok (.getfield 35, 3) := by decide +kernel
theorem dX4_many_162 : decode cX4_many 162 = .ok (.iload_n 3, 1) := by decide +kernel
theorem dX4_many_163 : decode cX4_many 163 = .ok (.iaload, 1) := by decide +kernel
theorem dX4_many_164 : decode cX4_many 164 = .ok (.goto 4, 3) := by decide +kernel
theorem dX4_many_167 : decode cX4_many 167 = .ok (.iload_n 2, 1) := by decide +kernel
theorem dX4_many_168 : decode cX4_many 168 = .ok (.istore_n 2, 1) := by decide +kernel
theorem dX4_many_169 : decode cX4_many 169 = .ok (.iinc 3 1, 3) := by decide +kernel
theorem dX4_many_172 : decode cX4_many 172 = .ok (.goto (-31), 3) := by decide +kernel
theorem dX4_many_175 : decode cX4_many 175 = .ok (.iload_n 2, 1) := by decide +kernel
theorem dX4_many_176 : decode cX4_many 176 = .ok (.ireturn, 1) := by decide +kernel
theorem dX4_many_177 : decode cX4_many 177 = .ok (.bipush (-2), 2) := by decide +kernel
theorem dX4_many_179 : decode cX4_many 179 = .ok (.ireturn, 1) := by decide +kernel
theorem dL_law_0 : decode cL_law 0 = .ok (.new 7, 3) := by decide +kernel
theorem dL_law_3 : decode cL_law 3 = .ok (.dup, 1) := by decide +kernel
theorem dL_law_4 : decode cL_law 4 = .ok (.invokespecial 9, 3) := by decide +kernel
theorem dL_law_7 : decode cL_law 7 = .ok (.astore_n 1, 1) := by decide +kernel
theorem dL_law_8 : decode cL_law 8 = .ok (.new 10, 3) := by decide +kernel
theorem dL_law_11 : decode cL_law 11 = .ok (.dup, 1) := by decide +kernel
theorem dL_law_12 : decode cL_law 12 = .ok (.invokespecial 12, 3) := by decide +kernel
theorem dL_law_15 : decode cL_law 15 = .ok (.astore_n 2, 1) := by decide +kernel
theorem dL_law_16 : decode cL_law 16 = .ok (.iconst 0, 1) := by decide +kernel
theorem dL_law_17 : decode cL_law 17 = .ok (.istore_n 3, 1) := by decide +kernel
theorem dL_law_18 : decode cL_law 18 = .ok (.iload_n 3, 1) := by decide +kernel
theorem dL_law_19 : decode cL_law 19 = .ok (.aload_n 0, 1) := by decide +kernel
theorem dL_law_20 : decode cL_law 20 = .ok (.arraylength, 1) := by decide +kernel
theorem dL_law_21 : decode cL_law 21 = .ok (.iconst 5, 1) := by decide +kernel
theorem dL_law_22 : decode cL_law 22 = .ok (.isub, 1) := by decide +kernel
theorem dL_law_23 : decode cL_law 23 = .ok (.if_icmp .gt 801, 3) := by decide +kernel
theorem dL_law_26 : decode cL_law 26 = .ok (.aload_n 0, 1) := by decide +kernel
theorem dL_law_27 : decode cL_law 27 = .ok (.iload_n 3, 1) := by decide +kernel
theorem dL_law_28 : decode cL_law 28 = .ok (.iaload, 1) := by decide +kernel
theorem dL_law_29 : decode cL_law 29 = .ok (.bipush 31, 2) := by decide +kernel
theorem dL_law_31 : decode cL_law 31 = .ok (.iand, 1) := by decide +kernel
theorem dL_law_32 : decode cL_law 32 = .ok (.tableswitch 786 0 19 #[96, 139, 172, 205, 238, 271, 304, 337, 380, 413, 436, 489, 542, 575, 618, 631, 664, 697, 730, 763], 96) := by decide +kernel
theorem dL_law_128 : decode cL_law 128 = .ok (.aload_n 1, 1) := by decide +kernel
theorem dL_law_129 : decode cL_law 129 = .ok (.aload_n 0, 1) := by decide +kernel
theorem dL_law_130 : decode cL_law 130 = .ok (.iload_n 3, 1) := by decide +kernel
theorem dL_law_131 : decode cL_law 131 = .ok (.iconst 1, 1) := by decide +kernel
theorem dL_law_132 : decode cL_law 132 = .ok (.iadd, 1) := by decide +kernel
theorem dL_law_133 : decode cL_law 133 = .ok (.iaload, 1) := by decide +kernel
theorem dL_law_134 : decode cL_law 134 = .ok (.aload_n 0, 1) := by decide +kernel
theorem dL_law_135 : decode cL_law 135 = .ok (.iload_n 3, 1) := by decide +kernel
theorem dL_law_136 : decode cL_law 136 = .ok (.iconst 2, 1) := by decide +kernel
theorem dL_law_137 : decode cL_law 137 = .ok (.iadd, 1) := by decide +kernel
theorem dL_law_138 : decode cL_law 138 = .ok (.iaload, 1) := by decide +kernel
theorem dL_law_139 : decode cL_law 139 = .ok (.aload_n 0, 1) := by decide +kernel
theorem dL_law_140 : decode cL_law 140 = .ok (.iload_n 3, 1) := by decide +kernel
theorem dL_law_141 : decode cL_law 141 = .ok (.iconst 3, 1) := by decide +kernel
theorem dL_law_142 : decode cL_law 142 = .ok (.iadd, 1) := by decide +kernel
theorem dL_law_143 : decode cL_law 143 = .ok (.iaload, 1) := by decide +kernel
theorem dL_law_144 : decode cL_law 144 = .ok (.invokevirtual 13, 3) := by decide +kernel
theorem dL_law_147 : decode cL_law 147 = .ok (.aload_n 2, 1) := by decide +kernel
theorem dL_law_148 : decode cL_law 148 = .ok (.aload_n 0, 1) := by decide +kernel
theorem dL_law_149 : decode cL_law 149 = .ok (.iload_n 3, 1) := by decide +kernel
theorem dL_law_150 : decode cL_law 150 = .ok (.iconst 1, 1) := by decide +kernel
theorem dL_law_151 : decode cL_law 151 = .ok (.iadd, 1) := by decide +kernel
theorem dL_law_152 : decode cL_law 152 = .ok (.iaload, 1) := by decide +kernel
theorem dL_law_153 : decode cL_law 153 = .ok (.aload_n 0, 1) := by decide +kernel
theorem dL_law_154 : decode cL_law 154 = .ok (.iload_n 3, 1) := by decide +kernel
theorem dL_law_155 : decode cL_law 155 = .ok (.iconst 2, 1) := by decide +kernel
theorem dL_law_156 : decode cL_law 156 = .ok (.iadd, 1) := by decide +kernel
theorem dL_law_157 : decode cL_law 157 = .ok (.iaload, 1) := by decide +kernel
theorem dL_law_158 : decode cL_law 158 = .ok (.aload_n 0, 1) := by decide +kernel
theorem dL_law_159 : decode cL_law 159 = .ok (.iload_n 3, 1) := by decide +kernel
theorem dL_law_160 : decode cL_law 160 = .ok (.iconst 3, 1) := by decide +kernel
theorem dL_law_161 : decode cL_law 161 = .ok (.iadd, 1) := by decide +kernel
theorem dL_law_162 : decode cL_law 162 = .ok (.iaload, 1) := by decide +kernel
theorem dL_law_163 : decode cL_law 163 = .ok (.invokevirtual 17, 3) := by decide +kernel
theorem dL_law_166 : decode cL_law 166 = .ok (.if_icmp .eq 652, 3) := by decide +kernel
theorem dL_law_169 : decode cL_law 169 = .ok (.iconst 0, 1) := by decide +kernel
theorem dL_law_170 : decode cL_law 170 = .ok (.ireturn, 1) := by decide +kernel
theorem dL_law_171 : decode cL_law 171 = .ok (.aload_n 1, 1) := by decide +kernel
theorem dL_law_172 : decode cL_law 172 = .ok (.aload_n 0, 1) := by decide +kernel
theorem dL_law_173 : decode cL_law 173 = .ok (.iload_n 3, 1) := by decide +kernel
theorem dL_law_174 : decode cL_law 174 = .ok (.iconst 1, 1) := by decide +kernel
theorem dL_law_175 : decode cL_law 175 = .ok (.iadd, 1) := by decide +kernel
theorem dL_law_176 : decode cL_law 176 = .ok (.iaload, 1) := by decide +kernel
theorem dL_law_177 : decode cL_law 177 = .ok (.aload_n 0, 1) := by decide +kernel
theorem dL_law_178 : decode cL_law 178 = .ok (.iload_n 3, 1) := by decide +kernel
theorem dL_law_179 : decode cL_law 179 = .ok (.iconst 2, 1) := by decide +kernel
theorem dL_law_180 : decode cL_law 180 = .ok (.iadd, 1) := by decide +kernel
theorem dL_law_181 : decode cL_law 181 = .ok (.iaload, 1) := by decide +kernel
theorem dL_law_182 : decode cL_law 182 = .ok (.invokevirtual 18, 3) := by decide +kernel
theorem dL_law_185 : decode cL_law 185 = .ok (.aload_n 2, 1) := by decide +kernel
theorem dL_law_186 : decode cL_law 186 = .ok (.aload_n 0, 1) := by decide +kernel
theorem dL_law_187 : decode cL_law 187 = .ok (.iload_n 3, 1) := by decide +kernel
theorem dL_law_188 : decode cL_law 188 = .ok (.iconst 1, 1) := by decide +kernel
theorem dL_law_189 : decode cL_law 189 = .ok (.iadd, 1) := by decide +kernel
theorem dL_law_190 : decode cL_law 190 = .ok (.iaload, 1) := by decide +kernel
theorem dL_law_191 : decode cL_law 191 = .ok (.aload_n 0, 1) := by decide +kernel
theorem dL_law_192 : decode cL_law 192 = .ok (.iload_n 3, 1) := by decide +kernel
theorem dL_law_193 : decode cL_law 193 = .ok (.iconst 2, 1) := by decide +kernel
theorem dL_law_194 : decode cL_law 194 = .ok (.iadd, 1) := by decide +kernel
theorem dL_law_195 : decode cL_law 195 = .ok (.iaload, 1) := by decide +kernel
theorem dL_law_196 : decode cL_law 196 = .ok (.invokevirtual 22, 3) := by decide +kernel
theorem dL_law_199 : decode cL_law 199 = .ok (.if_icmp .eq 619, 3) := by decide +kernel
theorem dL_law_202 : decode cL_law 202 = .ok (.iconst 0, 1) := by decide +kernel
theorem dL_law_203 : decode cL_law 203 = .ok (.ireturn, 1) := by decide +kernel
theorem dL_law_204 : decode cL_law 204 = .ok (.aload_n 1, 1) := by decide +kernel
theorem dL_law_205 : decode cL_law 205 = .ok (.aload_n 0, 1) := by decide +kernel
theorem dL_law_206 : decode cL_law 206 = .ok (.iload_n 3, 1) := by decide +kernel
theorem dL_law_207 : decode cL_law 207 = .ok (.iconst 1, 1) := by decide +kernel
theorem dL_law_208 : decode cL_law 208 = .ok (.iadd, 1) := by decide +kernel
theorem dL_law_209 : decode cL_law 209 = .ok (.iaload, 1) := by decide +kernel
theorem dL_law_210 : decode cL_law 210 = .ok (.aload_n 0, 1) := by decide +kernel
theorem dL_law_211 : decode cL_law 211 = .ok (.iload_n 3, 1) := by decide +kernel
theorem dL_law_212 : decode cL_law 212 = .ok (.iconst 2, 1) := by decide +kernel
theorem dL_law_213 : decode cL_law 213 = .ok (.iadd, 1) := by decide +kernel
theorem dL_law_214 : decode cL_law 214 = .ok (.iaload, 1) := by decide +kernel
theorem dL_law_215 : decode cL_law 215 = .ok (.invokevirtual 23, 3) := by decide +kernel
theorem dL_law_218 : decode cL_law 218 = .ok (.aload_n 2, 1) := by decide +kernel
theorem dL_law_219 : decode cL_law 219 = .ok (.aload_n 0, 1) := by decide +kernel
theorem dL_law_220 : decode cL_law 220 = .ok (.iload_n 3, 1) := by decide +kernel
theorem dL_law_221 : decode cL_law 221 = .ok (.iconst 1, 1) := by decide +kernel
theorem dL_law_222 : decode cL_law 222 = .ok (.iadd, 1) := by decide +kernel
theorem dL_law_223 : decode cL_law 223 = .ok (.iaload, 1) := by decide +kernel
theorem dL_law_224 : decode cL_law 224 = .ok (.aload_n 0, 1) := by decide +kernel
theorem dL_law_225 : decode cL_law 225 = .ok (.iload_n 3, 1) := by decide +kernel
theorem dL_law_226 : decode cL_law 226 = .ok (.iconst 2, 1) := by decide +kernel
theorem dL_law_227 : decode cL_law 227 = .ok (.iadd, 1) := by decide +kernel
theorem dL_law_228 : decode cL_law 228 = .ok (.iaload, 1) := by decide +kernel
theorem dL_law_229 : decode cL_law 229 = .ok (.invokevirtual 26, 3) := by decide +kernel
theorem dL_law_232 : decode cL_law 232 = .ok (.if_icmp .eq 586, 3) := by decide +kernel
theorem dL_law_235 : decode cL_law 235 = .ok (.iconst 0, 1) := by decide +kernel
theorem dL_law_236 : decode cL_law 236 = .ok (.ireturn, 1) := by decide +kernel
theorem dL_law_237 : decode cL_law 237 = .ok (.aload_n 1, 1) := by decide +kernel
theorem dL_law_238 : decode cL_law 238 = .ok (.aload_n 0, 1) := by decide +kernel
theorem dL_law_239 : decode cL_law 239 = .ok (.iload_n 3, 1) := by decide +kernel
theorem dL_law_240 : decode cL_law 240 = .ok (.iconst 1, 1) := by decide +kernel
theorem dL_law_241 : decode cL_law 241 = .ok (.iadd, 1) := by decide +kernel
theorem dL_law_242 : decode cL_law 242 = .ok (.iaload, 1) := by decide +kernel
theorem dL_law_243 : decode cL_law 243 = .ok (.aload_n 0, 1) := by decide +kernel
theorem dL_law_244 : decode cL_law 244 = .ok (.iload_n 3, 1) := by decide +kernel
theorem dL_law_245 : decode cL_law 245 = .ok (.iconst 2, 1) := by decide +kernel
theorem dL_law_246 : decode cL_law 246 = .ok (.iadd, 1) := by decide +kernel
theorem dL_law_247 : decode cL_law 247 = .ok (.iaload, 1) := by decide +kernel
theorem dL_law_248 : decode cL_law 248 = .ok (.invokevirtual 27, 3) := by decide +kernel
theorem dL_law_251 : decode cL_law 251 = .ok (.aload_n 2, 1) := by decide +kernel
theorem dL_law_252 : decode cL_law 252 = .ok (.aload_n 0, 1) := by decide +kernel
theorem dL_law_253 : decode cL_law 253 = .ok (.iload_n 3, 1) := by decide +kernel
theorem dL_law_254 : decode cL_law 254 = .ok (.iconst 1, 1) := by decide +kernel
theorem dL_law_255 : decode cL_law 255 = .ok (.iadd, 1) := by decide +kernel
theorem dL_law_256 : decode cL_law 256 = .ok (.iaload, 1) := by decide +kernel
theorem dL_law_257 : decode cL_law 257 = .ok (.aload_n 0, 1) := by decide +kernel
theorem dL_law_258 : decode cL_law 258 = .ok (.iload_n 3, 1) := by decide +kernel
theorem dL_law_259 : decode cL_law 259 = .ok (.iconst 2, 1) := by decide +kernel
theorem dL_law_260 : decode cL_law 260 = .ok (.iadd, 1) := by decide +kernel
theorem dL_law_261 : decode cL_law 261 = .ok (.iaload, 1) := by decide +kernel
theorem dL_law_262 : decode cL_law 262 = .ok (.invokevirtual 30, 3) := by decide +kernel
theorem dL_law_265 : decode cL_law 265 = .ok (.if_icmp .eq 553, 3) := by decide +kernel
theorem dL_law_268 : decode cL_law 268 = .ok (.iconst 0, 1) := by decide +kernel
theorem dL_law_269 : decode cL_law 269 = .ok (.ireturn, 1) := by decide +kernel
theorem dL_law_270 : decode cL_law 270 = .ok (.aload_n 1, 1) := by decide +kernel
theorem dL_law_271 : decode cL_law 271 = .ok (.aload_n 0, 1) := by decide +kernel
theorem dL_law_272 : decode cL_law 272 = .ok (.iload_n 3, 1) := by decide +kernel
theorem dL_law_273 : decode cL_law 273 = .ok (.iconst 1, 1) := by decide +kernel
theorem dL_law_274 : decode cL_law 274 = .ok (.iadd, 1) := by decide +kernel
theorem dL_law_275 : decode cL_law 275 = .ok (.iaload, 1) := by decide +kernel
theorem dL_law_276 : decode cL_law 276 = .ok (.aload_n 0, 1) := by decide +kernel
theorem dL_law_277 : decode cL_law 277 = .ok (.iload_n 3, 1) := by decide +kernel
theorem dL_law_278 : decode cL_law 278 = .ok (.iconst 2, 1) := by decide +kernel
theorem dL_law_279 : decode cL_law 279 = .ok (.iadd, 1) := by decide +kernel
theorem dL_law_280 : decode cL_law 280 = .ok (.iaload, 1) := by decide +kernel
theorem dL_law_281 : decode cL_law 281 = .ok (.invokevirtual 31, 3) := by decide +kernel
theorem dL_law_284 : decode cL_law 284 = .ok (.aload_n 2, 1) := by decide +kernel
theorem dL_law_285 : decode cL_law 285 = .ok (.aload_n 0, 1) := by decide +kernel
theorem dL_law_286 : decode cL_law 286 = .ok (.iload_n 3, 1) := by decide +kernel
theorem dL_law_287 : decode cL_law 287 = .ok (.iconst 1, 1) := by decide +kernel
theorem dL_law_288 : decode cL_law 288 = .ok (.iadd, 1) := by decide +kernel
theorem dL_law_289 : decode cL_law 289 = .ok (.iaload, 1) := by decide +kernel
theorem dL_law_290 : decode cL_law 290 = .ok (.aload_n 0, 1) := by decide +kernel
theorem dL_law_291 : decode cL_law 291 = .ok (.iload_n 3, 1) := by decide +kernel
theorem dL_law_292 : decode cL_law 292 = .ok (.iconst 2, 1) := by decide +kernel
theorem dL_law_293 : decode cL_law 293 = .ok (.iadd, 1) := by decide +kernel
theorem dL_law_294 : decode cL_law 294 = .ok (.iaload, 1) := by decide +kernel
theorem dL_law_295 : decode cL_law 295 = .ok (.invokevirtual 34, 3) := by decide +kernel
theorem dL_law_298 : decode cL_law 298 = .ok (.if_icmp .eq 520, 3) := by decide +kernel
theorem dL_law_301 : decode cL_law 301 = .ok (.iconst 0, 1) := by decide +kernel
theorem dL_law_302 : decode cL_law 302 = .ok (.ireturn, 1) := by decide +kernel
theorem dL_law_303 : decode cL_law 303 = .ok (.aload_n 1, 1) := by decide +kernel
theorem dL_law_304 : decode cL_law 304 = .ok (.aload_n 0, 1) := by decide +kernel
theorem dL_law_305 : decode cL_law 305 = .ok (.iload_n 3, 1) := by decide +kernel
theorem dL_law_306 : decode cL_law 306 = .ok (.iconst 1, 1) := by decide +kernel
theorem dL_law_307 : decode cL_law 307 = .ok (.iadd, 1) := by decide +kernel
theorem dL_law_308 : decode cL_law 308 = .ok (.iaload, 1) := by decide +kernel
theorem dL_law_309 : decode cL_law 309 = .ok (.aload_n 0, 1) := by decide +kernel
theorem dL_law_310 : decode cL_law 310 = .ok (.iload_n 3, 1) := by decide +kernel
theorem dL_law_311 : decode cL_law 311 = .ok (.iconst 2, 1) := by decide +kernel
theorem dL_law_312 : decode cL_law 312 = .ok (.iadd, 1) := by decide +kernel
theorem dL_law_313 : decode cL_law 313 = .ok (.iaload, 1) := by decide +kernel
theorem dL_law_314 : decode cL_law 314 = .ok (.invokevirtual 35, 3) := by decide +kernel
theorem dL_law_317 : decode cL_law 317 = .ok (.aload_n 2, 1) := by decide +kernel
theorem dL_law_318 : decode cL_law 318 = .ok (.aload_n 0, 1) := by decide +kernel
theorem dL_law_319 : decode cL_law 319 = .ok (.iload_n 3, 1) := by decide +kernel
theorem dL_law_320 : decode cL_law 320 = .ok (.iconst 1, 1) := by decide +kernel
theorem dL_law_321 : decode cL_law 321 = .ok (.iadd, 1) := by decide +kernel
theorem dL_law_322 : decode cL_law 322 = .ok (.iaload, 1) := by decide +kernel
theorem dL_law_323 : decode cL_law 323 = .ok (.aload_n 0, 1) := by decide +kernel
theorem dL_law_324 : decode cL_law 324 = .ok (.iload_n 3, 1) := by decide +kernel
theorem dL_law_325 : decode cL_law 325 = .ok (.iconst 2, 1) := by decide +kernel
theorem dL_law_326 : decode cL_law 326 = .ok (.iadd, 1) := by decide +kernel
theorem dL_law_327 : decode cL_law 327 = .ok (.iaload, 1) := by decide +kernel
theorem dL_law_328 : decode cL_law 328 = .ok (.invokevirtual 38, 3) := by decide +kernel
theorem dL_law_331 : decode cL_law 331 = .ok (.if_icmp .eq 487, 3) := by decide +kernel
theorem dL_law_334 : decode cL_law 334 = .ok (.iconst 0, 1) := by decide +kernel
theorem dL_law_335 : decode cL_law 335 = .ok (.ireturn, 1) := by decide +kernel
theorem dL_law_336 : decode cL_law 336 = .ok (.aload_n 1, 1) := by decide +kernel
theorem dL_law_337 : decode cL_law 337 = .ok (.aload_n 0, 1) := by decide +kernel
theorem dL_law_338 : decode cL_law 338 = .ok (.iload_n 3, 1) := by decide +kernel
theorem dL_law_339 : decode cL_law 339 = .ok (.iconst 1, 1) := by decide +kernel
theorem dL_law_340 : decode cL_law 340 = .ok (.iadd, 1) := by decide +kernel
theorem dL_law_341 : decode cL_law 341 = .ok (.iaload, 1) := by decide +kernel
theorem dL_law_342 : decode cL_law 342 = .ok (.aload_n 0, 1) := by decide +kernel
theorem dL_law_343 : decode cL_law 343 = .ok (.iload_n 3, 1) := by decide +kernel
theorem dL_law_344 : decode cL_law 344 = .ok (.iconst 2, 1) := by decide +kernel
theorem dL_law_345 : decode cL_law 345 = .ok (.iadd, 1) := by decide +kernel
theorem dL_law_346 : decode cL_law 346 = .ok (.iaload, 1) := by decide +kernel
theorem dL_law_347 : decode cL_law 347 = .ok (.invokevirtual 39, 3) := by decide +kernel
theorem dL_law_350 : decode cL_law 350 = .ok (.aload_n 2, 1) := by decide +kernel
theorem dL_law_351 : decode cL_law 351 = .ok (.aload_n 0, 1) := by decide +kernel
theorem dL_law_352 : decode cL_law 352 = .ok (.iload_n 3, 1) := by decide +kernel
theorem dL_law_353 : decode cL_law 353 = .ok (.iconst 1, 1) := by decide +kernel
theorem dL_law_354 : decode cL_law 354 = .ok (.iadd, 1) := by decide +kernel
theorem dL_law_355 : decode cL_law 355 = .ok (.iaload, 1) := by decide +kernel
theorem dL_law_356 : decode cL_law 356 = .ok (.aload_n 0, 1) := by decide +kernel
theorem dL_law_357 : decode cL_law 357 = .ok (.iload_n 3, 1) := by decide +kernel
theorem dL_law_358 : decode cL_law 358 = .ok (.iconst 2, 1) := by decide +kernel
theorem dL_law_359 : decode cL_law 359 = .ok (.iadd, 1) := by decide +kernel
theorem dL_law_360 : decode cL_law 360 = .ok (.iaload, 1) := by decide +kernel
theorem dL_law_361 : decode cL_law 361 = .ok (.invokevirtual 42, 3) := by decide +kernel
theorem dL_law_364 : decode cL_law 364 = .ok (.if_icmp .eq 454, 3) := by decide +kernel
theorem dL_law_367 : decode cL_law 367 = .ok (.iconst 0, 1) := by decide +kernel
theorem dL_law_368 : decode cL_law 368 = .ok (.ireturn, 1) := by decide +kernel
theorem dL_law_369 : decode cL_law 369 = .ok (.aload_n 1, 1) := by decide +kernel
theorem dL_law_370 : decode cL_law 370 = .ok (.aload_n 0, 1) := by decide +kernel
theorem dL_law_371 : decode cL_law 371 = .ok (.iload_n 3, 1) := by decide +kernel
theorem dL_law_372 : decode cL_law 372 = .ok (.iconst 1, 1) := by decide +kernel
theorem dL_law_373 : decode cL_law 373 = .ok (.iadd, 1) := by decide +kernel
theorem dL_law_374 : decode cL_law 374 = .ok (.iaload, 1) := by decide +kernel
theorem dL_law_375 : decode cL_law 375 = .ok (.aload_n 0, 1) := by decide +kernel
theorem dL_law_376 : decode cL_law 376 = .ok (.iload_n 3, 1) := by decide +kernel
theorem dL_law_377 : decode cL_law 377 = .ok (.iconst 2, 1) := by decide +kernel
theorem dL_law_378 : decode cL_law 378 = .ok (.iadd, 1) := by decide +kernel
theorem dL_law_379 : decode cL_law 379 = .ok (.iaload, 1) := by decide +kernel
theorem dL_law_380 : decode cL_law 380 = .ok (.aload_n 0, 1) := by decide +kernel
theorem dL_law_381 : decode cL_law 381 = .ok (.iload_n 3, 1) := by decide +kernel
theorem dL_law_382 : decode cL_law 382 = .ok (.iconst 3, 1) := by decide +kernel
theorem dL_law_383 : decode cL_law 383 = .ok (.iadd, 1) := by decide +kernel
theorem dL_law_384 : decode cL_law 384 = .ok (.iaload, 1) := by decide +kernel
theorem dL_law_385 : decode cL_law 385 = .ok (.invokevirtual 43, 3) := by decide +kernel
theorem dL_law_388 : decode cL_law 388 = .ok (.aload_n 2, 1) := by decide +kernel
theorem dL_law_389 : decode cL_law 389 = .ok (.aload_n 0, 1) := by decide +kernel
theorem dL_law_390 : decode cL_law 390 = .ok (.iload_n 3, 1) := by decide +kernel
theorem dL_law_391 : decode cL_law 391 = .ok (.iconst 1, 1) := by decide +kernel
theorem dL_law_392 : decode cL_law 392 = .ok (.iadd, 1) := by decide +kernel
theorem dL_law_393 : decode cL_law 393 = .ok (.iaload, 1) := by decide +kernel
theorem dL_law_394 : decode cL_law 394 = .ok (.aload_n 0, 1) := by decide +kernel
theorem dL_law_395 : decode cL_law 395 = .ok (.iload_n 3, 1) := by decide +kernel
theorem dL_law_396 : decode cL_law 396 = .ok (.iconst 2, 1) := by decide +kernel
theorem dL_law_397 : decode cL_law 397 = .ok (.iadd, 1) := by decide +kernel
theorem dL_law_398 : decode cL_law 398 = .ok (.iaload, 1) := by decide +kernel
theorem dL_law_399 : decode cL_law 399 = .ok (.aload_n 0, 1) := by decide +kernel
theorem dL_law_400 : decode cL_law 400 = .ok (.iload_n 3, 1) := by decide +kernel
theorem dL_law_401 : decode cL_law 401 = .ok (.iconst 3, 1) := by decide +kernel
theorem dL_law_402 : decode cL_law 402 = .ok (.iadd, 1) := by decide +kernel
theorem dL_law_403 : decode cL_law 403 = .ok (.iaload, 1) := by decide +kernel
theorem dL_law_404 : decode cL_law 404 = .ok (.invokevirtual 46, 3) := by decide +kernel
theorem dL_law_407 : decode cL_law 407 = .ok (.if_icmp .eq 411, 3) := by decide +kernel
theorem dL_law_410 : decode cL_law 410 = .ok (.iconst 0, 1) := by decide +kernel
theorem dL_law_411 : decode cL_law 411 = .ok (.ireturn, 1) := by decide +kernel
theorem dL_law_412 : decode cL_law 412 = .ok (.aload_n 1, 1) := by decide +kernel
theorem dL_law_413 : decode cL_law 413 = .ok (.aload_n 0, 1) := by decide +kernel
theorem dL_law_414 : decode cL_law 414 = .ok (.iload_n 3, 1) := by decide +kernel
theorem dL_law_415 : decode cL_law 415 = .ok (.iconst 1, 1) := by decide +kernel
theorem dL_law_416 : decode cL_law 416 = .ok (.iadd, 1) := by decide +kernel
theorem dL_law_417 : decode cL_law 417 = .ok (.iaload, 1) := by decide +kernel
theorem dL_law_418 : decode cL_law 418 = .ok (.aload_n 0, 1) := by decide +kernel
theorem dL_law_419 : decode cL_law 419 = .ok (.iload_n 3, 1) := by decide +kernel
theorem dL_law_420 : decode cL_law 420 = .ok (.iconst 2, 1) := by decide +kernel
theorem dL_law_421 : decode cL_law 421 = .ok (.iadd, 1) := by decide +kernel
theorem dL_law_422 : decode cL_law 422 = .ok (.iaload, 1) := by decide +kernel
theorem dL_law_423 : decode cL_law 423 = .ok (.invokevirtual 47, 3) := by decide +kernel
theorem dL_law_426 : decode cL_law 426 = .ok (.aload_n 2, 1) := by decide +kernel
theorem dL_law_427 : decode cL_law 427 = .ok (.aload_n 0, 1) := by decide +kernel
theorem dL_law_428 : decode cL_law 428 = .ok (.iload_n 3, 1) := by decide +kernel
theorem dL_law_429 : decode cL_law 429 = .ok (.iconst 1, 1) := by decide +kernel
theorem dL_law_430 : decode cL_law 430 = .ok (.iadd, 1) := by decide +kernel
theorem dL_law_431 : decode cL_law 431 = .ok (.iaload, 1) := by decide +kernel
theorem dL_law_432 : decode cL_law 432 = .ok (.aload_n 0, 1) := by decide +kernel
theorem dL_law_433 : decode cL_law 433 = .ok (.iload_n 3, 1) := by decide +kernel
theorem dL_law_434 : decode cL_law 434 = .ok (.iconst 2, 1) := by decide +kernel
theorem dL_law_435 : decode cL_law 435 = .ok (.iadd, 1) := by decide +kernel
theorem dL_law_436 : decode cL_law 436 = .ok (.iaload, 1) := by decide +kernel
theorem dL_law_437 : decode cL_law 437 = .ok (.invokevirtual 50, 3) := by decide +kernel
theorem dL_law_440 : decode cL_law 440 = .ok (.if_icmp .eq 378, 3) := by decide +kernel
theorem dL_law_443 : decode cL_law 443 = .ok (.iconst 0, 1) := by decide +kernel
theorem dL_law_444 : decode cL_law 444 = .ok (.ireturn, 1) := by decide +kernel
theorem dL_law_445 : decode cL_law 445 = .ok (.aload_n 1, 1) := by decide +kernel
theorem dL_law_446 : decode cL_law 446 = .ok (.aload_n 0, 1) := by decide +kernel
theorem dL_law_447 : decode cL_law 447 = .ok (.iload_n 3, 1) := by decide +kernel
theorem dL_law_448 : decode cL_law 448 = .ok (.iconst 1, 1) := by decide +kernel
theorem dL_law_449 : decode cL_law 449 = .ok (.iadd, 1) := by decide +kernel
theorem dL_law_450 : decode cL_law 450 = .ok (.iaload, 1) := by decide +kernel
theorem dL_law_451 : decode cL_law 451 = .ok (.invokevirtual 51, 3) := by decide +kernel
theorem dL_law_454 : decode cL_law 454 = .ok (.aload_n 2, 1) := by decide +kernel
theorem dL_law_455 : decode cL_law 455 = .ok (.aload_n 0, 1) := by decide +kernel
theorem dL_law_456 : decode cL_law 456 = .ok (.iload_n 3, 1) := by decide +kernel
theorem dL_law_457 : decode cL_law 457 = .ok (.iconst 1, 1) := by decide +kernel
theorem dL_law_458 : decode cL_law 458 = .ok (.iadd, 1) := by decide +kernel
theorem dL_law_459 : decode cL_law 459 = .ok (.iaload, 1) := by decide +kernel
theorem dL_law_460 : decode cL_law 460 = .ok (.invokevirtual 55, 3) := by decide +kernel
theorem dL_law_463 : decode cL_law 463 = .ok (.if_icmp .eq 355, 3) := by decide +kernel
theorem dL_law_466 : decode cL_law 466 = .ok (.iconst 0, 1) := by decide +kernel
theorem dL_law_467 : decode cL_law 467 = .ok (.ireturn, 1) := by decide +kernel
theorem dL_law_468 : decode cL_law 468 = .ok (.aload_n 1, 1) := by decide +kernel
theorem dL_law_469 : decode cL_law 469 = .ok (.aload_n 0, 1) := by decide +kernel
theorem dL_law_470 : decode cL_law 470 = .ok (.iload_n 3, 1) := by decide +kernel
theorem dL_law_471 : decode cL_law 471 = .ok (.iconst 1, 1) := by decide +kernel
theorem dL_law_472 : decode cL_law 472 = .ok (.iadd, 1) := by decide +kernel
theorem dL_law_473 : decode cL_law 473 = .ok (.iaload, 1) := by decide +kernel
theorem dL_law_474 : decode cL_law 474 = .ok (.aload_n 0, 1) := by decide +kernel
theorem dL_law_475 : decode cL_law 475 = .ok (.iload_n 3, 1) := by decide +kernel
theorem dL_law_476 : decode cL_law 476 = .ok (.iconst 2, 1) := by decide +kernel
theorem dL_law_477 : decode cL_law 477 = .ok (.iadd, 1) := by decide +kernel
theorem dL_law_478 : decode cL_law 478 = .ok (.iaload, 1) := by decide +kernel
theorem dL_law_479 : decode cL_law 479 = .ok (.aload_n 0, 1) := by decide +kernel
theorem dL_law_480 : decode cL_law 480 = .ok (.iload_n 3, 1) := by decide +kernel
theorem dL_law_481 : decode cL_law 481 = .ok (.iconst 3, 1) := by decide +kernel
theorem dL_law_482 : decode cL_law 482 = .ok (.iadd, 1) := by decide +kernel
theorem dL_law_483 : decode cL_law 483 = .ok (.iaload, 1) := by decide +kernel
theorem dL_law_484 : decode cL_law 484 = .ok (.aload_n 0, 1) := by decide +kernel
theorem dL_law_485 : decode cL_law 485 = .ok (.iload_n 3, 1) := by decide +kernel
theorem dL_law_486 : decode cL_law 486 = .ok (.iconst 4, 1) := by decide +kernel
theorem dL_law_487 : decode cL_law 487 = .ok (.iadd, 1) := by decide +kernel
theorem dL_law_488 : decode cL_law 488 = .ok (.iaload, 1) := by decide +kernel
theorem dL_law_489 : decode cL_law 489 = .ok (.invokevirtual 56, 3) := by decide +kernel
theorem dL_law_492 : decode cL_law 492 = .ok (.aload_n 2, 1) := by decide +kernel
theorem dL_law_493 : decode cL_law 493 = .ok (.aload_n 0, 1) := by decide +kernel
theorem dL_law_494 : decode cL_law 494 = .ok (.iload_n 3, 1) := by decide +kernel
theorem dL_law_495 : decode cL_law 495 = .ok (.iconst 1, 1) := by decide +kernel
theorem dL_law_496 : decode cL_law 496 = .ok (.iadd, 1) := by decide +kernel
theorem dL_law_497 : decode cL_law 497 = .ok (.iaload, 1) := by decide +kernel
theorem dL_law_498 : decode cL_law 498 = .ok (.aload_n 0, 1) := by decide +kernel
theorem dL_law_499 : decode cL_law 499 = .ok (.iload_n 3, 1) := by decide +kernel
theorem dL_law_500 : decode cL_law 500 = .ok (.iconst 2, 1) := by decide +kernel
theorem dL_law_501 : decode cL_law 501 = .ok (.iadd, 1) := by decide +kernel
theorem dL_law_502 : decode cL_law 502 = .ok (.iaload, 1) := by decide +kernel
theorem dL_law_503 : decode cL_law 503 = .ok (.aload_n 0, 1) := by decide +kernel
theorem dL_law_504 : decode cL_law 504 = .ok (.iload_n 3, 1) := by decide +kernel
theorem dL_law_505 : decode cL_law 505 = .ok (.iconst 3, 1) := by decide +kernel
theorem dL_law_506 : decode cL_law 506 = .ok (.iadd, 1) := by decide +kernel
theorem dL_law_507 : decode cL_law 507 = .ok (.iaload, 1) := by decide +kernel
theorem dL_law_508 : decode cL_law 508 = .ok (.aload_n 0, 1) := by decide +kernel
theorem dL_law_509 : decode cL_law 509 = .ok (.iload_n 3, 1) := by decide +kernel
theorem dL_law_510 : decode cL_law 510 = .ok (.iconst 4, 1) := by decide +kernel
theorem dL_law_511 : decode cL_law 511 = .ok (.iadd, 1) := by decide +kernel
theorem dL_law_512 : decode cL_law 512 = .ok (.iaload, 1) := by decide +kernel
theorem dL_law_513 : decode cL_law 513 = .ok (.invokevirtual 60, 3) := by decide +kernel
theorem dL_law_516 : decode cL_law 516 = .ok (.if_icmp .eq 302, 3) := by decide +kernel
theorem dL_law_519 : decode cL_law 519 = .ok (.iconst 0, 1) := by decide +kernel
theorem dL_law_520 : decode cL_law 520 = .ok (.ireturn, 1) := by decide +kernel
theorem dL_law_521 : decode cL_law 521 = .ok (.aload_n 1, 1) := by decide +kernel
theorem dL_law_522 : decode cL_law 522 = .ok (.aload_n 0, 1) := by decide +kernel
theorem dL_law_523 : decode cL_law 523 = .ok (.iload_n 3, 1) := by decide +kernel
theorem dL_law_524 : decode cL_law 524 = .ok (.iconst 1, 1) := by decide +kernel
theorem dL_law_525 : decode cL_law 525 = .ok (.iadd, 1) := by decide +kernel
theorem dL_law_526 : decode cL_law 526 = .ok (.iaload, 1) := by decide +kernel
theorem dL_law_527 : decode cL_law 527 = .ok (.aload_n 0, 1) := by decide +kernel
theorem dL_law_528 : decode cL_law 528 = .ok (.iload_n 3, 1) := by decide +kernel
theorem dL_law_529 : decode cL_law 529 = .ok (.iconst 2, 1) := by decide +kernel
theorem dL_law_530 : decode cL_law 530 = .ok (.iadd, 1) := by decide +kernel
theorem dL_law_531 : decode cL_law 531 = .ok (.iaload, 1) := by decide +kernel
theorem dL_law_532 : decode cL_law 532 = .ok (.aload_n 0, 1) := by decide +kernel
theorem dL_law_533 : decode cL_law 533 = .ok (.iload_n 3, 1) := by decide +kernel
theorem dL_law_534 : decode cL_law 534 = .ok (.iconst 3, 1) := by decide +kernel
theorem dL_law_535 : decode cL_law 535 = .ok (.iadd, 1) := by decide +kernel
theorem dL_law_536 : decode cL_law 536 = .ok (.iaload, 1) := by decide +kernel
theorem dL_law_537 : decode cL_law 537 = .ok (.aload_n 0, 1) := by decide +kernel
theorem dL_law_538 : decode cL_law 538 = .ok (.iload_n 3, 1) := by decide +kernel
theorem dL_law_539 : decode cL_law 539 = .ok (.iconst 4, 1) := by decide +kernel
theorem dL_law_540 : decode cL_law 540 = .ok (.iadd, 1) := by decide +kernel
theorem dL_law_541 : decode cL_law 541 = .ok (.iaload, 1) := by decide +kernel
theorem dL_law_542 : decode cL_law 542 = .ok (.invokevirtual 61, 3) := by decide +kernel
theorem dL_law_545 : decode cL_law 545 = .ok (.aload_n 2, 1) := by decide +kernel
theorem dL_law_546 : decode cL_law 546 = .ok (.aload_n 0, 1) := by decide +kernel
theorem dL_law_547 : decode cL_law 547 = .ok (.iload_n 3, 1) := by decide +kernel
theorem dL_law_548 : decode cL_law 548 = .ok (.iconst 1, 1) := by decide +kernel
theorem dL_law_549 : decode cL_law 549 = .ok (.iadd, 1) := by decide +kernel
theorem dL_law_550 : decode cL_law 550 = .ok (.iaload, 1) := by decide +kernel
theorem dL_law_551 : decode cL_law 551 = .ok (.aload_n 0, 1) := by decide +kernel
theorem dL_law_552 : decode cL_law 552 = .ok (.iload_n 3, 1) := by decide +kernel
theorem dL_law_553 : decode cL_law 553 = .ok (.iconst 2, 1) := by decide +kernel
theorem dL_law_554 : decode cL_law 554 = .ok (.iadd, 1) := by decide +kernel
theorem dL_law_555 : decode cL_law 555 = .ok (.iaload, 1) := by decide +kernel
theorem dL_law_556 : decode cL_law 556 = .ok (.aload_n 0, 1) := by decide +kernel
theorem dL_law_557 : decode cL_law 557 = .ok (.iload_n 3, 1) := by decide +kernel
theorem dL_law_558 : decode cL_law 558 = .ok (.iconst 3, 1) := by decide +kernel
theorem dL_law_559 : decode cL_law 559 = .ok (.iadd, 1) := by decide +kernel
theorem dL_law_560 : decode cL_law 560 = .ok (.iaload, 1) := by decide +kernel
theorem dL_law_561 : decode cL_law 561 = .ok (.aload_n 0, 1) := by decide +kernel
theorem dL_law_562 : decode cL_law 562 = .ok (.iload_n 3, 1) := by decide +kernel
theorem dL_law_563 : decode cL_law 563 = .ok (.iconst 4, 1) := by decide +kernel
theorem dL_law_564 : decode cL_law 564 = .ok (.iadd, 1) := by decide +kernel
theorem dL_law_565 : decode cL_law 565 = .ok (.iaload, 1) := by decide +kernel
theorem dL_law_566 : decode cL_law 566 = .ok (.invokevirtual 64, 3) := by decide +kernel
theorem dL_law_569 : decode cL_law 569 = .ok (.if_icmp .eq 249, 3) := by decide +kernel
theorem dL_law_572 : decode cL_law 572 = .ok (.iconst 0, 1) := by decide +kernel
theorem dL_law_573 : decode cL_law 573 = .ok (.ireturn, 1) := by decide +kernel
theorem dL_law_574 : decode cL_law 574 = .ok (.aload_n 1, 1) := by decide +kernel
theorem dL_law_575 : decode cL_law 575 = .ok (.aload_n 0, 1) := by decide +kernel
theorem dL_law_576 : decode cL_law 576 = .ok (.iload_n 3, 1) := by decide +kernel
theorem dL_law_577 : decode cL_law 577 = .ok (.iconst 1, 1) := by decide +kernel
theorem dL_law_578 : decode cL_law 578 = .ok (.iadd, 1) := by decide +kernel
theorem dL_law_579 : decode cL_law 579 = .ok (.iaload, 1) := by decide +kernel
theorem dL_law_580 : decode cL_law 580 = .ok (.aload_n 0, 1) := by decide +kernel
theorem dL_law_581 : decode cL_law 581 = .ok (.iload_n 3, 1) := by decide +kernel
theorem dL_law_582 : decode cL_law 582 = .ok (.iconst 2, 1) := by decide +kernel
theorem dL_law_583 : decode cL_law 583 = .ok (.iadd, 1) := by decide +kernel
theorem dL_law_584 : decode cL_law 584 = .ok (.iaload, 1) := by decide +kernel
theorem dL_law_585 : decode cL_law 585 = .ok (.invokevirtual 65, 3) := by decide +kernel
theorem dL_law_588 : decode cL_law 588 = .ok (.aload_n 2, 1) := by decide +kernel
theorem dL_law_589 : decode cL_law 589 = .ok (.aload_n 0, 1) := by decide +kernel
theorem dL_law_590 : decode cL_law 590 = .ok (.iload_n 3, 1) := by decide +kernel
theorem dL_law_591 : decode cL_law 591 = .ok (.iconst 1, 1) := by decide +kernel
theorem dL_law_592 : decode cL_law 592 = .ok (.iadd, 1) := by decide +kernel
theorem dL_law_593 : decode cL_law 593 = .ok (.iaload, 1) := by decide +kernel
theorem dL_law_594 : decode cL_law 594 = .ok (.aload_n 0, 1) := by decide +kernel
theorem dL_law_595 : decode cL_law 595 = .ok (.iload_n 3, 1) := by decide +kernel
theorem dL_law_596 : decode cL_law 596 = .ok (.iconst 2, 1) := by decide +kernel
theorem dL_law_597 : decode cL_law 597 = .ok (.iadd, 1) := by decide +kernel
theorem dL_law_598 : decode cL_law 598 = .ok (.iaload, 1) := by decide +kernel
theorem dL_law_599 : decode cL_law 599 = .ok (.invokevirtual 68, 3) := by decide +kernel
theorem dL_law_602 : decode cL_law 602 = .ok (.if_icmp .eq 216, 3) := by decide +kernel
theorem dL_law_605 : decode cL_law 605 = .ok (.iconst 0, 1) := by decide +kernel
theorem dL_law_606 : decode cL_law 606 = .ok (.ireturn, 1) := by decide +kernel
theorem dL_law_607 : decode cL_law 607 = .ok (.aload_n 1, 1) := by decide +kernel
theorem dL_law_608 : decode cL_law 608 = .ok (.aload_n 0, 1) := by decide +kernel
theorem dL_law_609 : decode cL_law 609 = .ok (.iload_n 3, 1) := by decide +kernel
theorem dL_law_610 : decode cL_law 610 = .ok (.iconst 1, 1) := by decide +kernel
theorem dL_law_611 : decode cL_law 611 = .ok (.iadd, 1) := by decide +kernel
theorem dL_law_612 : decode cL_law 612 = .ok (.iaload, 1) := by decide +kernel
theorem dL_law_613 : decode cL_law 613 = .ok (.aload_n 0, 1) := by decide +kernel
theorem dL_law_614 : decode cL_law 614 = .ok (.iload_n 3, 1) := by decide +kernel
theorem dL_law_615 : decode cL_law 615 = .ok (.iconst 2, 1) := by decide +kernel
theorem dL_law_616 : decode cL_law 616 = .ok (.iadd, 1) := by decide +kernel
theorem dL_law_617 : decode cL_law 617 = .ok (.iaload, 1) := by decide +kernel
theorem dL_law_618 : decode cL_law 618 = .ok (.aload_n 0, 1) := by decide +kernel
theorem dL_law_619 : decode cL_law 619 = .ok (.iload_n 3, 1) := by decide +kernel
theorem dL_law_620 : decode cL_law 620 = .ok (.iconst 3, 1) := by decide +kernel
theorem dL_law_621 : decode cL_law 621 = .ok (.iadd, 1) := by decide +kernel
theorem dL_law_622 : decode cL_law 622 = .ok (.iaload, 1) := by decide +kernel
theorem dL_law_623 : decode cL_law 623 = .ok (.invokevirtual 69, 3) := by decide +kernel
theorem dL_law_626 : decode cL_law 626 = .ok (.aload_n 2, 1) := by decide +kernel
theorem dL_law_627 : decode cL_law 627 = .ok (.aload_n 0, 1) := by decide +kernel
theorem dL_law_628 : decode cL_law 628 = .ok (.iload_n 3, 1) := by decide +kernel
theorem dL_law_629 : decode cL_law 629 = .ok (.iconst 1, 1) := by decide +kernel
theorem dL_law_630 : decode cL_law 630 = .ok (.iadd, 1) := by decide +kernel
theorem dL_law_631 : decode cL_law 631 = .ok (.iaload, 1) := by decide +kernel
theorem dL_law_632 : decode cL_law 632 = .ok (.aload_n 0, 1) := by decide +kernel
theorem dL_law_633 : decode cL_law 633 = .ok (.iload_n 3, 1) := by decide +kernel
theorem dL_law_634 : decode cL_law 634 = .ok (.iconst 2, 1) := by decide +kernel
theorem dL_law_635 : decode cL_law 635 = .ok (.iadd, 1) := by decide +kernel
theorem dL_law_636 : decode cL_law 636 = .ok (.iaload, 1) := by decide +kernel
theorem dL_law_637 : decode cL_law 637 = .ok (.aload_n 0, 1) := by decide +kernel
theorem dL_law_638 : decode cL_law 638 = .ok (.iload_n 3, 1) := by decide +kernel
theorem dL_law_639 : decode cL_law 639 = .ok (.iconst 3, 1) := by decide +kernel
theorem dL_law_640 : decode cL_law 640 = .ok (.iadd, 1) := by decide +kernel
theorem dL_law_641 : decode cL_law 641 = .ok (.iaload, 1) := by decide +kernel
theorem dL_law_642 : decode cL_law 642 = .ok (.invokevirtual 72, 3) := by decide +kernel
theorem dL_law_645 : decode cL_law 645 = .ok (.if_icmp .eq 173, 3) := by decide +kernel
theorem dL_law_648 : decode cL_law 648 = .ok (.iconst 0, 1) := by decide +kernel
theorem dL_law_649 : decode cL_law 649 = .ok (.ireturn, 1) := by decide +kernel
theorem dL_law_650 : decode cL_law 650 = .ok (.aload_n 1, 1) := by decide +kernel
theorem dL_law_651 : decode cL_law 651 = .ok (.invokevirtual 73, 3) := by decide +kernel
theorem dL_law_654 : decode cL_law 654 = .ok (.aload_n 2, 1) := by decide +kernel
theorem dL_law_655 : decode cL_law 655 = .ok (.invokevirtual 77, 3) := by decide +kernel
theorem dL_law_658 : decode cL_law 658 = .ok (.if_icmp .eq 160, 3) := by decide +kernel
theorem dL_law_661 : decode cL_law 661 = .ok (.iconst 0, 1) := by decide +kernel
theorem dL_law_662 : decode cL_law 662 = .ok (.ireturn, 1) := by decide +kernel
theorem dL_law_663 : decode cL_law 663 = .ok (.aload_n 1, 1) := by decide +kernel
theorem dL_law_664 : decode cL_law 664 = .ok (.aload_n 0, 1) := by decide +kernel
theorem dL_law_665 : decode cL_law 665 = .ok (.iload_n 3, 1) := by decide +kernel
theorem dL_law_666 : decode cL_law 666 = .ok (.iconst 1, 1) := by decide +kernel
theorem dL_law_667 : decode cL_law 667 = .ok (.iadd, 1) := by decide +kernel
theorem dL_law_668 : decode cL_law 668 = .ok (.iaload, 1) := by decide +kernel
theorem dL_law_669 : decode cL_law 669 = .ok (.aload_n 0, 1) := by decide +kernel
theorem dL_law_670 : decode cL_law 670 = .ok (.iload_n 3, 1) := by decide +kernel
theorem dL_law_671 : decode cL_law 671 = .ok (.iconst 2, 1) := by decide +kernel
theorem dL_law_672 : decode cL_law 672 = .ok (.iadd, 1) := by decide +kernel
theorem dL_law_673 : decode cL_law 673 = .ok (.iaload, 1) := by decide +kernel
theorem dL_law_674 : decode cL_law 674 = .ok (.invokevirtual 78, 3) := by decide +kernel
theorem dL_law_677 : decode cL_law 677 = .ok (.aload_n 2, 1) := by decide +kernel
theorem dL_law_678 : decode cL_law 678 = .ok (.aload_n 0, 1) := by decide +kernel
theorem dL_law_679 : decode cL_law 679 = .ok (.iload_n 3, 1) := by decide +kernel
theorem dL_law_680 : decode cL_law 680 = .ok (.iconst 1, 1) := by decide +kernel
theorem dL_law_681 : decode cL_law 681 = .ok (.iadd, 1) := by decide +kernel
theorem dL_law_682 : decode cL_law 682 = .ok (.iaload, 1) := by decide +kernel
theorem dL_law_683 : decode cL_law 683 = .ok (.aload_n 0, 1) := by decide +kernel
theorem dL_law_684 : decode cL_law 684 = .ok (.iload_n 3, 1) := by decide +kernel
theorem dL_law_685 : decode cL_law 685 = .ok (.iconst 2, 1) := by decide +kernel
theorem dL_law_686 : decode cL_law 686 = .ok (.iadd, 1) := by decide +kernel
theorem dL_law_687 : decode cL_law 687 = .ok (.iaload, 1) := by decide +kernel
theorem dL_law_688 : decode cL_law 688 = .ok (.invokevirtual 81, 3) := by decide +kernel
theorem dL_law_691 : decode cL_law 691 = .ok (.if_icmp .eq 127, 3) := by decide +kernel
theorem dL_law_694 : decode cL_law 694 = .ok (.iconst 0, 1) := by decide +kernel
theorem dL_law_695 : decode cL_law 695 = .ok (.ireturn, 1) := by decide +kernel
theorem dL_law_696 : decode cL_law 696 = .ok (.aload_n 1, 1) := by decide +kernel
theorem dL_law_697 : decode cL_law 697 = .ok (.aload_n 0, 1) := by decide +kernel
theorem dL_law_698 : decode cL_law 698 = .ok (.iload_n 3, 1) := by decide +kernel
theorem dL_law_699 : decode cL_law 699 = .ok (.iconst 1, 1) := by decide +kernel
theorem dL_law_700 : decode cL_law 700 = .ok (.iadd, 1) := by decide +kernel
theorem dL_law_701 : decode cL_law 701 = .ok (.iaload, 1) := by decide +kernel
theorem dL_law_702 : decode cL_law 702 = .ok (.aload_n 0, 1) := by decide +kernel
theorem dL_law_703 : decode cL_law 703 = .ok (.iload_n 3, 1) := by decide +kernel
theorem dL_law_704 : decode cL_law 704 = .ok (.iconst 2, 1) := by decide +kernel
theorem dL_law_705 : decode cL_law 705 = .ok (.iadd, 1) := by decide +kernel
theorem dL_law_706 : decode cL_law 706 = .ok (.iaload, 1) := by decide +kernel
theorem dL_law_707 : decode cL_law 707 = .ok (.invokevirtual 82, 3) := by decide +kernel
theorem dL_law_710 : decode cL_law 710 = .ok (.aload_n 2, 1) := by decide +kernel
theorem dL_law_711 : decode cL_law 711 = .ok (.aload_n 0, 1) := by decide +kernel
theorem dL_law_712 : decode cL_law 712 = .ok (.iload_n 3, 1) := by decide +kernel
theorem dL_law_713 : decode cL_law 713 = .ok (.iconst 1, 1) := by decide +kernel
theorem dL_law_714 : decode cL_law 714 = .ok (.iadd, 1) := by decide +kernel
theorem dL_law_715 : decode cL_law 715 = .ok (.iaload, 1) := by decide +kernel
theorem dL_law_716 : decode cL_law 716 = .ok (.aload_n 0, 1) := by decide +kernel
theorem dL_law_717 : decode cL_law 717 = .ok (.iload_n 3, 1) := by decide +kernel
theorem dL_law_718 : decode cL_law 718 = .ok (.iconst 2, 1) := by decide +kernel
theorem dL_law_719 : decode cL_law 719 = .ok (.iadd, 1) := by decide +kernel
theorem dL_law_720 : decode cL_law 720 = .ok (.iaload, 1) := by decide +kernel
theorem dL_law_721 : decode cL_law 721 = .ok (.invokevirtual 85, 3) := by decide +kernel
theorem dL_law_724 : decode cL_law 724 = .ok (.if_icmp .eq 94, 3) := by decide +kernel
theorem dL_law_727 : decode cL_law 727 = .ok (.iconst 0, 1) := by decide +kernel
theorem dL_law_728 : decode cL_law 728 = .ok (.ireturn, 1) := by decide +kernel
theorem dL_law_729 : decode cL_law 729 = .ok (.aload_n 1, 1) := by decide +kernel
theorem dL_law_730 : decode cL_law 730 = .ok (.aload_n 0, 1) := by decide +kernel
theorem dL_law_731 : decode cL_law 731 = .ok (.iload_n 3, 1) := by decide +kernel
theorem dL_law_732 : decode cL_law 732 = .ok (.iconst 1, 1) := by decide +kernel
theorem dL_law_733 : decode cL_law 733 = .ok (.iadd, 1) := by decide +kernel
theorem dL_law_734 : decode cL_law 734 = .ok (.iaload, 1) := by decide +kernel
theorem dL_law_735 : decode cL_law 735 = .ok (.aload_n 0, 1) := by decide +kernel
theorem dL_law_736 : decode cL_law 736 = .ok (.iload_n 3, 1) := by decide +kernel
theorem dL_law_737 : decode cL_law 737 = .ok (.iconst 2, 1) := by decide +kernel
theorem dL_law_738 : decode cL_law 738 = .ok (.iadd, 1) := by decide +kernel
theorem dL_law_739 : decode cL_law 739 = .ok (.iaload, 1) := by decide +kernel
theorem dL_law_740 : decode cL_law 740 = .ok (.invokevirtual 86, 3) := by decide +kernel
theorem dL_law_743 : decode cL_law 743 = .ok (.aload_n 2, 1) := by decide +kernel
theorem dL_law_744 : decode cL_law 744 = .ok (.aload_n 0, 1) := by decide +kernel
theorem dL_law_745 : decode cL_law 745 = .ok (.iload_n 3, 1) := by decide +kernel
theorem dL_law_746 : decode cL_law 746 = .ok (.iconst 1, 1) := by decide +kernel
theorem dL_law_747 : decode cL_law 747 = .ok (.iadd, 1) := by decide +kernel
theorem dL_law_748 : decode cL_law 748 = .ok (.iaload, 1) := by decide +kernel
theorem dL_law_749 : decode cL_law 749 = .ok (.aload_n 0, 1) := by decide +kernel
theorem dL_law_750 : decode cL_law 750 = .ok (.iload_n 3, 1) := by decide +kernel
theorem dL_law_751 : decode cL_law 751 = .ok (.iconst 2, 1) := by decide +kernel
theorem dL_law_752 : decode cL_law 752 = .ok (.iadd, 1) := by decide +kernel
theorem dL_law_753 : decode cL_law 753 = .ok (.iaload, 1) := by decide +kernel
theorem dL_law_754 : decode cL_law 754 = .ok (.invokevirtual 89, 3) := by decide +kernel
theorem dL_law_757 : decode cL_law 757 = .ok (.if_icmp .eq 61, 3) := by decide +kernel
theorem dL_law_760 : decode cL_law 760 = .ok (.iconst 0, 1) := by decide +kernel
theorem dL_law_761 : decode cL_law 761 = .ok (.ireturn, 1) := by decide +kernel
theorem dL_law_762 : decode cL_law 762 = .ok (.aload_n 1, 1) := by decide +kernel
theorem dL_law_763 : decode cL_law 763 = .ok (.aload_n 0, 1) := by decide +kernel
theorem dL_law_764 : decode cL_law 764 = .ok (.iload_n 3, 1) := by decide +kernel
theorem dL_law_765 : decode cL_law 765 = .ok (.iconst 1, 1) := by decide +kernel
theorem dL_law_766 : decode cL_law 766 = .ok (.iadd, 1) := by decide +kernel
theorem dL_law_767 : decode cL_law 767 = .ok (.iaload, 1) := by decide +kernel
theorem dL_law_768 : decode cL_law 768 = .ok (.aload_n 0, 1) := by decide +kernel
theorem dL_law_769 : decode cL_law 769 = .ok (.iload_n 3, 1) := by decide +kernel
theorem dL_law_770 : decode cL_law 770 = .ok (.iconst 2, 1) := by decide +kernel
theorem dL_law_771 : decode cL_law 771 = .ok (.iadd, 1) := by decide +kernel
theorem dL_law_772 : decode cL_law 772 = .ok (.iaload, 1) := by decide +kernel
theorem dL_law_773 : decode cL_law 773 = .ok (.invokevirtual 90, 3) := by decide +kernel
theorem dL_law_776 : decode cL_law 776 = .ok (.aload_n 2, 1) := by decide +kernel
theorem dL_law_777 : decode cL_law 777 = .ok (.aload_n 0, 1) := by decide +kernel
theorem dL_law_778 : decode cL_law 778 = .ok (.iload_n 3, 1) := by decide +kernel
theorem dL_law_779 : decode cL_law 779 = .ok (.iconst 1, 1) := by decide +kernel
theorem dL_law_780 : decode cL_law 780 = .ok (.iadd, 1) := by decide +kernel
theorem dL_law_781 : decode cL_law 781 = .ok (.iaload, 1) := by decide +kernel
theorem dL_law_782 : decode cL_law 782 = .ok (.aload_n 0, 1) := by decide +kernel
theorem dL_law_783 : decode cL_law 783 = .ok (.iload_n 3, 1) := by decide +kernel
theorem dL_law_784 : decode cL_law 784 = .ok (.iconst 2, 1) := by decide +kernel
theorem dL_law_785 : decode cL_law 785 = .ok (.iadd, 1) := by decide +kernel
theorem dL_law_786 : decode cL_law 786 = .ok (.iaload, 1) := by decide +kernel
theorem dL_law_787 : decode cL_law 787 = .ok (.invokevirtual 93, 3) := by decide +kernel
theorem dL_law_790 : decode cL_law 790 = .ok (.if_icmp .eq 28, 3) := by decide +kernel
theorem dL_law_793 : decode cL_law 793 = .ok (.iconst 0, 1) := by decide +kernel
theorem dL_law_794 : decode cL_law 794 = .ok (.ireturn, 1) := by decide +kernel
theorem dL_law_795 : decode cL_law 795 = .ok (.aload_n 1, 1) := by decide +kernel
theorem dL_law_796 : decode cL_law 796 = .ok (.aload_n 0, 1) := by decide +kernel
theorem dL_law_797 : decode cL_law 797 = .ok (.iload_n 3, 1) := by decide +kernel
theorem dL_law_798 : decode cL_law 798 = .ok (.iconst 1, 1) := by decide +kernel
theorem dL_law_799 : decode cL_law 799 = .ok (.iadd, 1) := by decide +kernel
theorem dL_law_800 : decode cL_law 800 = .ok (.iaload, 1) := by decide +kernel
theorem dL_law_801 : decode cL_law 801 = .ok (.invokevirtual 94, 3) := by decide +kernel
theorem dL_law_804 : decode cL_law 804 = .ok (.aload_n 2, 1) := by decide +kernel
theorem dL_law_805 : decode cL_law 805 = .ok (.aload_n 0, 1) := by decide +kernel
theorem dL_law_806 : decode cL_law 806 = .ok (.iload_n 3, 1) := by decide +kernel
theorem dL_law_807 : decode cL_law 807 = .ok (.iconst 1, 1) := by decide +kernel
theorem dL_law_808 : decode cL_law 808 = .ok (.iadd, 1) := by decide +kernel
theorem dL_law_809 : decode cL_law 809 = .ok (.iaload, 1) := by decide +kernel
theorem dL_law_810 : decode cL_law 810 = .ok (.invokevirtual 97, 3) := by decide +kernel
theorem dL_law_813 : decode cL_law 813 = .ok (.if_icmp .eq 5, 3) := by decide +kernel
theorem dL_law_816 : decode cL_law 816 = .ok (.iconst 0, 1) := by decide +kernel
theorem dL_law_817 : decode cL_law 817 = .ok (.ireturn, 1) := by decide +kernel
theorem dL_law_818 : decode cL_law 818 = .ok (.iinc 3 5, 3) := by decide +kernel
theorem dL_law_821 : decode cL_law 821 = .ok (.goto (-803), 3) := by decide +kernel
theorem dL_law_824 : decode cL_law 824 = .ok (.iconst 1, 1) := by decide +kernel
theorem dL_law_825 : decode cL_law 825 = .ok (.ireturn, 1) := by decide +kernel
end
section
/-! the class's state and the reference's: numbers and rows, by their places -/
abbrev HSt : Type := (Nat → Int32) × (Nat → Nat → Int32)
def h_ld (S : HSt) (k n : Nat) (i : Int32) : Option Int32 := if i < 0 ∨ n ≤ i.toNatClampNeg then none else some (S.2 k i.toNatClampNeg)
def h_st (S : HSt) (k n : Nat) (i x : Int32) : Option HSt := if i < 0 ∨ n ≤ i.toNatClampNeg then none else some (S.1, va_up S.2 k (upd (S.2 k) i.toNatClampNeg x))
def h_stz (S : HSt) (k n : Nat) (i x : Int32) : Option HSt := if i < 0 ∨ n ≤ i.toNatClampNeg then none else some (S.1, va_up S.2 k (upd (S.2 k) i.toNatClampNeg (vp_nar .boolean x)))
def h_put (S : HSt) (k : Nat) (x : Int32) : HSt := (upd S.1 k x, S.2)
def h_cp (S : HSt) (j k n : Nat) : HSt := (S.1, va_up S.2 k (va_cpy (S.2 j) (S.2 k) 0 0 n))
def h_b {α : Type} (v : Int32) (x : Option α) : Option α := if v = 0 ∨ v = 1 then x else none
def h_bi {β : Type} (o : Option (Int32 × HSt)) (k : Int32 → HSt → Option β) : Option β := match o with
  | none => none
  | some z => k z.1 z.2
def h_fu : Nat := 100000
theorem h_bd_ok {α β : Type} {o : Option α} {k : α → Option β} {b : β} (h : o.bind k = some b) : ∃ v, o = some v ∧ k v = some b := by
  cases o with
  | none => cases h
  | some v => exact ⟨v, rfl, h⟩
theorem h_bi_ok {β : Type} {o : Option (Int32 × HSt)} {k : Int32 → HSt → Option β} {b : β} (h : h_bi o k = some b) : ∃ r S, o = some (r, S) ∧ k r S = some b := by
  cases o with
  | none => cases h
  | some v => exact ⟨v.1, v.2, rfl, h⟩
theorem h_ifp {c : Prop} [Decidable c] {α : Type} {a b x : α} (hc : c) (h : (if c then a else b) = x) : a = x := by rw [if_pos hc] at h; exact h
theorem h_ifn {c : Prop} [Decidable c] {α : Type} {a b x : α} (hc : ¬ c) (h : (if c then a else b) = x) : b = x := by rw [if_neg hc] at h; exact h
theorem h_b_ok {α : Type} {v : Int32} {x : Option α} {b : α} (h : h_b v x = some b) : (v = 0 ∨ v = 1) ∧ x = some b := by
  unfold h_b at h
  split at h
  · rename_i hc; exact ⟨hc, h⟩
  · cases h
theorem h_ld_ok {S : HSt} {k n : Nat} {i v : Int32} (h : h_ld S k n i = some v) : vp_in i n ∧ S.2 k i.toNatClampNeg = v := by
  unfold h_ld at h
  split at h
  · cases h
  · rename_i hn; exact ⟨hn, Option.some.inj h⟩
theorem h_st_ok {S S' : HSt} {k n : Nat} {i x : Int32} (h : h_st S k n i x = some S') : vp_in i n ∧ (S.1, va_up S.2 k (upd (S.2 k) i.toNatClampNeg x)) = S' := by
  unfold h_st at h
  split at h
  · cases h
  · rename_i hn; exact ⟨hn, Option.some.inj h⟩
theorem h_stz_ok {S S' : HSt} {k n : Nat} {i x : Int32} (h : h_stz S k n i x = some S') : vp_in i n ∧ (S.1, va_up S.2 k (upd (S.2 k) i.toNatClampNeg (vp_nar .boolean x))) = S' := by
  unfold h_stz at h
  split at h
  · cases h
  · rename_i hn; exact ⟨hn, Option.some.inj h⟩
theorem h_nb {v : Int32} (h : v = 0 ∨ v = 1) : narrow .boolean (.int v) = .int v := by
  rcases h with rfl | rfl <;> rfl
theorem h_tab {x : Int32} {k : Int32} (h : ¬ x = k) : ¬ x.toInt = k.toInt := fun e => h (Int32.toInt_inj.mp e)
/-! the private helpers that nest mates call -/
def NW (U : State) : Prop := va_Nw (.methodLinkNest RX1 45 yX3_pair RX3) U ∧ va_Nw (.methodLinkNest RX0 56 yX3_slot RX3) U ∧ va_Nw (.methodLinkNest RX0 66 yX3_pair RX3) U ∧ va_Nw (.methodLinkNest RX0 126 yX3_countOf RX3) U ∧ va_Nw (.methodLinkNest RX0 117 yX3_slipWith RX3) U ∧ va_Nw (.methodLinkNest RX0 73 yX3_labelOf RX3) U ∧ va_Nw (.methodLinkNest RX2 44 yX3_pair RX3) U ∧ va_Nw (.methodLinkNest RX2 51 yX3_labelOf RX3) U
theorem NW.warm {s U : State} (hW : s.WarmedH U.vm) (h : NW s) : NW U := ⟨va_Nw.warmM hW h.1, va_Nw.warmM hW h.2.1, va_Nw.warmM hW h.2.2.1, va_Nw.warmM hW h.2.2.2.1, va_Nw.warmM hW h.2.2.2.2.1, va_Nw.warmM hW h.2.2.2.2.2.1, va_Nw.warmM hW h.2.2.2.2.2.2.1, va_Nw.warmM hW h.2.2.2.2.2.2.2⟩
theorem NW.same {s U : State} (e : s.vm = U.vm) (h : NW s) : NW U := ⟨va_Nw.same rfl e h.1, va_Nw.same rfl e h.2.1, va_Nw.same rfl e h.2.2.1, va_Nw.same rfl e h.2.2.2.1, va_Nw.same rfl e h.2.2.2.2.1, va_Nw.same rfl e h.2.2.2.2.2.1, va_Nw.same rfl e h.2.2.2.2.2.2.1, va_Nw.same rfl e h.2.2.2.2.2.2.2⟩
/-! contracts -/
abbrev hTy (cI cZ : ClassId) : List (ClassId × FieldType) := [(cI, .int), (cZ, .boolean)]
def HPre (D : va_G) (cI cZ : ClassId) (w : HSt → va_W) (S : HSt) (sz : Nat) (U : State) : Prop := U.heap.size = sz ∧ va_P D vwCl (w S) U.heap ∧ va_K D vwCl (hTy cI cZ) U ∧ va_D (fun _ => True) (w S) ∧ NW U
def QI (D : va_G) (w : HSt → va_W) (r : Int32) (S' : HSt) (A : Nat → Prop) : Array Value → State → Outcome → State → Prop := va_Qi (S := HSt) (fun r' u => r' = r ∧ u = S') (fun u t => va_P D vwCl (w u) t.heap ∧ va_D A (w u)) A
def QV (D : va_G) (w : HSt → va_W) (S' : HSt) (A : Nat → Prop) : Array Value → State → Outcome → State → Prop := va_Qv (S := HSt) (fun u => u = S') (fun u t => va_P D vwCl (w u) t.heap ∧ va_D A (w u)) A
def MI (l : Launch) (y : MethodName) (ws : List Cond) (rm : Room) (D : va_G) (cI cZ : ClassId) (w : HSt → va_W) (S : HSt) (av : List Value) (r : Int32) (S' : HSt) : Prop := ∀ sz, Met l y ws rm (va_Pc av (HPre D cI cZ w S sz)) (QI D w r S' (va_A (w S) sz)) 0 0 (va_A (w S) sz)
def MV (l : Launch) (y : MethodName) (ws : List Cond) (rm : Room) (D : va_G) (cI cZ : ClassId) (w : HSt → va_W) (S : HSt) (av : List Value) (S' : HSt) : Prop := ∀ sz, Met l y ws rm (va_Pc av (HPre D cI cZ w S sz)) (QV D w S' (va_A (w S) sz)) 0 0 (va_A (w S) sz)
def MS (l : Launch) (y : MethodName) (ws : List Cond) (rm : Room) (av : List Value) (r : Int32) : Prop := Met l y ws rm (fun v _ => v = av.toArray) (vp_Si (fun r' => r' = r)) 0 0 (fun _ => False)
/-! what stays in a method: the machine, the tables; and its world -/
def HCx (p : Program) (m : MethodId) (c : Code) (cc : ByteArray) (nL : Nat) (s : State) (args : Array Value) (Ts : List Cond) (own : String) (D : va_G) (cI cZ : ClassId) (A : Nat → Prop) : Prop := CallFix p m c cc nL s args Ts own ∧ va_K D vwCl (hTy cI cZ) s ∧ NW s ∧ ∀ q, s.heap.size ≤ q → A q
def HW (D : va_G) (w : HSt → va_W) (S : HSt) (A : Nat → Prop) (s : State) (H : Heap) (locs : List Loc) : Prop := va_P D vwCl (w S) H ∧ va_D A (w S) ∧ va_S A s.heap H locs
section HB
variable {p : Program} {l : Launch} {e : Env} {R : Room} {s : State} {m : MethodId} {args : Array Value} {below : List Frame} {meth : Method} {c : Code} {H : Heap} {locs : List Loc} {cells slots : Nat} {Q : State → Prop}
variable {cc : ByteArray} {nL pc : Nat} {ls : Array Slot} {rest : List Value} {Ts : List Cond} {own : String} {D : va_G} {cI cZ : ClassId} {A : Nat → Prop} {w : HSt → va_W} {S S' : HSt}
theorem h_ald (cx : HCx p m c cc nL s args Ts own D cI cZ A) (hw : HW D w S A s H locs) (q0 : Nat) {a k n : Nat} (ha : (w S)[q0]? = some (a, .inl (cI, n, .inl (S.2 k)))) {i v : Int32} (hv : h_ld S k n i = some v) (hdg : decode cc pc = .ok (.iaload, 1)) (kk : W p l e R s m args below meth c H locs cells slots Q (F0 m (pc + 1) ls (.int v :: rest))) : W p l e R s m args below meth c H locs cells slots Q (F0 m pc ls (.int i :: .ref a :: rest)) := by
  obtain ⟨h1, h2⟩ := h_ld_ok hv
  subst h2
  exact va_iald cx.1.1 cx.1.2.1 cx.2.1 hw.1 q0 0 ha rfl h1 hdg kk
theorem h_aldz (cx : HCx p m c cc nL s args Ts own D cI cZ A) (hw : HW D w S A s H locs) (q0 : Nat) {a k n : Nat} (ha : (w S)[q0]? = some (a, .inl (cZ, n, .inl (S.2 k)))) {i v : Int32} (hv : h_ld S k n i = some v) (hdg : decode cc pc = .ok (.baload, 1)) (kk : W p l e R s m args below meth c H locs cells slots Q (F0 m (pc + 1) ls (.int v :: rest))) : W p l e R s m args below meth c H locs cells slots Q (F0 m pc ls (.int i :: .ref a :: rest)) := by
  obtain ⟨h1, h2⟩ := h_ld_ok hv
  subst h2
  exact va_zald cx.1.1 cx.1.2.1 cx.2.1 hw.1 q0 1 ha rfl h1 hdg kk
theorem h_ast (cx : HCx p m c cc nL s args Ts own D cI cZ A) (hw : HW D w S A s H locs) (q0 : Nat) {a k n : Nat} (ha : (w S)[q0]? = some (a, .inl (cI, n, .inl (S.2 k)))) (hset : ∀ f, (w S).set q0 (a, .inl (cI, n, .inl f)) = w (S.1, va_up S.2 k f)) {i x : Int32} (hv : h_st S k n i x = some S') (hdg : decode cc pc = .ok (.iastore, 1)) (kk : ∀ (H1 : Heap) (locs1 : List Loc), HW D w S' A s H1 locs1 → W p l e R s m args below meth c H1 locs1 cells slots Q (F0 m (pc + 1) ls rest)) : W p l e R s m args below meth c H locs cells slots Q (F0 m pc ls (.int x :: .int i :: .ref a :: rest)) := by
  obtain ⟨h1, h2⟩ := h_st_ok hv
  subst h2
  exact va_iast cx.1.1 cx.1.2.1 cx.2.1 hw.1 hw.2.1 hw.2.2 q0 0 ha rfl h1 hdg (fun H1 locs1 q1 q2 q3 => kk H1 locs1 ⟨by rw [hset] at q1; exact q1, by rw [hset] at q2; exact q2, q3⟩)
theorem h_astz (cx : HCx p m c cc nL s args Ts own D cI cZ A) (hw : HW D w S A s H locs) (q0 : Nat) {a k n : Nat} (ha : (w S)[q0]? = some (a, .inl (cZ, n, .inl (S.2 k)))) (hset : ∀ f, (w S).set q0 (a, .inl (cZ, n, .inl f)) = w (S.1, va_up S.2 k f)) {i x : Int32} (hv : h_stz S k n i x = some S') (hdg : decode cc pc = .ok (.bastore, 1)) (kk : ∀ (H1 : Heap) (locs1 : List Loc), HW D w S' A s H1 locs1 → W p l e R s m args below meth c H1 locs1 cells slots Q (F0 m (pc + 1) ls rest)) : W p l e R s m args below meth c H locs cells slots Q (F0 m pc ls (.int x :: .int i :: .ref a :: rest)) := by
  obtain ⟨h1, h2⟩ := h_stz_ok hv
  subst h2
  exact va_zast cx.1.1 cx.1.2.1 cx.2.1 hw.1 hw.2.1 hw.2.2 q0 1 ha rfl h1 hdg (fun H1 locs1 q1 q2 q3 => kk H1 locs1 ⟨by rw [hset] at q1; exact q1, by rw [hset] at q2; exact q2, q3⟩)
theorem h_len (cx : HCx p m c cc nL s args Ts own D cI cZ A) (hw : HW D w S A s H locs) (q0 : Nat) {a n : Nat} {f : Nat → Int32} (ha : (w S)[q0]? = some (a, .inl (cI, n, .inl f))) {v : Int32} (hv : Int32.ofNat n = v) (hdg : decode cc pc = .ok (.arraylength, 1)) (kk : W p l e R s m args below meth c H locs cells slots Q (F0 m (pc + 1) ls (.int v :: rest))) : W p l e R s m args below meth c H locs cells slots Q (F0 m pc ls (.ref a :: rest)) := va_alen cx.1.1 cx.1.2.1 cx.2.1 hw.1 q0 0 ha (ty := .int) rfl hv hdg kk
theorem h_get (cx : HCx p m c cc nL s args Ts own D cI cZ A) (hw : HW D w S A s H locs) (q0 : Nat) {ci a N : Nat} {fs : List Value} {C : String} {T : u_T} (he : (w S)[q0]? = some (a, .inr (ci, fs))) (hc : vwCl[ci]? = some (C, T, N)) (hin : ∀ z ∈ u_ws C T N, z ∈ Ts) (k : Nat) (hk : k < N) {index : Nat} (hlink : (Cond.fieldLink own index (T k).1 (T k).2.1 (T k).2.2.1).before args s = true) {v : Value} (hv : fs[k]? = some v) (hdg : decode cc pc = .ok (.getfield index, 3)) (kk : W p l e R s m args below meth c H locs cells slots Q (F0 m (pc + 3) ls (v :: rest))) : W p l e R s m args below meth c H locs cells slots Q (F0 m pc ls (.ref a :: rest)) :=
  va_get cx.1.1 cx.1.2.1 cx.1.2.2.2.2 hin cx.1.2.2.2.1 cx.2.1 hw.1 q0 he hc k hk hlink (fun _ h9 => h9) hv hdg kk
theorem h_puti (cx : HCx p m c cc nL s args Ts own D cI cZ A) (hw : HW D w S A s H locs) (q0 : Nat) {ci a N : Nat} {fs : List Value} {C : String} {T : u_T} (he : (w S)[q0]? = some (a, .inr (ci, fs))) (hc : vwCl[ci]? = some (C, T, N)) (hin : ∀ z ∈ u_ws C T N, z ∈ Ts) (ty0 : Nat → FieldType) (hty : ∀ k, k < N → parseFieldDescriptor (T k).2.2.1 = some (ty0 k)) (hnm : ∀ a, a < N → ∀ b, b < N → a ≠ b → (T a).2.1 ≠ (T b).2.1) (k : Nat) (hk : k < N) {index : Nat} (hlink : (Cond.fieldLink own index (T k).1 (T k).2.1 (T k).2.2.1).before args s = true) (hfin : (T k).2.2.2 = false) (hd : parseFieldDescriptor (T k).2.2.1 = some .int) (hlen : k < fs.length) {x : Int32} (j : Nat) (hset : (w S).set q0 (a, .inr (ci, fs.set k (.int x))) = w (h_put S j x)) (hv : some (h_put S j x) = some S') (hdg : decode cc pc = .ok (.putfield index, 3)) (kk : ∀ (H1 : Heap) (locs1 : List Loc), HW D w S' A s H1 locs1 → W p l e R s m args below meth c H1 locs1 cells slots Q (F0 m (pc + 3) ls rest)) : W p l e R s m args below meth c H locs cells slots Q (F0 m pc ls (.int x :: .ref a :: rest)) := by
  have h2 := Option.some.inj hv
  subst h2
  exact va_put (ty := .int) cx.1.1 cx.1.2.1 cx.1.2.2.2.2 hin ty0 hty hnm cx.1.2.2.2.1 cx.2.1 hw.1 hw.2.1 hw.2.2 q0 he hc k hk hlink (fun _ h9 => h9) hfin hd rfl rfl hlen hdg (fun H1 locs1 q1 q2 q3 => kk H1 locs1 ⟨by rw [hset] at q1; exact q1, by rw [hset] at q2; exact q2, q3⟩)
theorem h_copy (cx : HCx p m c cc nL s args Ts own D cI cZ A) (hw : HW D w S A s H locs) {index : Nat} (hlink : (Cond.methodLink own index arraycopyName).before args s = true) (hnat : (Cond.native arraycopyName).before args s = true) (hstat : (Cond.static arraycopyName).before args s = true) (hini : (Cond.initialized "java/lang/System").before args s = true) (q0 q1 : Nat) {a0 a1 j k n : Nat} (ha0 : (w S)[q0]? = some (a0, .inl (cI, n, .inl (S.2 j)))) (ha1 : (w S)[q1]? = some (a1, .inl (cI, n, .inl (S.2 k)))) (hset : ∀ f, (w S).set q1 (a1, .inl (cI, n, .inl f)) = w (S.1, va_up S.2 k f)) (hn : n < 2 ^ 31) (hv : some (h_cp S j k n) = some S') (hsize : ls.size = nL) (hframes : 1 ≤ R.frames) (hlocals : (rest.map fun v => v.category).sum + (nativeFrameWords "java/lang/System" "arraycopy" 5 + 11) ≤ R.locals) {vn : Int32} (hvn : Int32.ofNat n = vn) (hdg : decode cc pc = .ok (.invokestatic index, 3)) (kk : ∀ (H1 : Heap) (locs1 : List Loc), HW D w S' A s H1 locs1 → W p l e R s m args below meth c H1 locs1 cells slots Q (F0 m (pc + 3) ls rest)) : W p l e R s m args below meth c H locs cells slots Q (F0 m pc ls (.int vn :: .int 0 :: .ref a1 :: .int 0 :: .ref a0 :: rest)) := by
  have h2 := Option.some.inj hv
  subst h2
  subst hvn
  have hc : (Int32.ofNat n).toNatClampNeg = n := nI_clamp hn
  have h0 : (0 : Int32).toNatClampNeg = 0 := rfl
  refine va_copyi (ty := .int) cx.1.1 cx.1.2.1 (cx.1.2.2.1.trans hsize.symm) cx.1.2.2.2.1 hlink hnat hstat hini cx.2.1 hw.1 hw.2.1 hw.2.2 q0 q1 0 0 ha0 ha1 rfl rfl rfl (by decide) (by decide) (nI_pos hn) (by rw [hc, h0]; omega) (by rw [hc, h0]; omega) (fun _ _ => rfl) hframes hlocals hdg (fun H1 locs1 q1 q2 q3 => kk H1 locs1 ⟨?_, ?_, q3⟩)
  · rw [hset, hc, h0] at q1
    exact q1
  · rw [hset, hc, h0] at q2
    exact q2
theorem h_free (cx : HCx p m c cc nL s args Ts own D cI cZ A) (hw : HW D w S A s H locs) : ∀ q, va_A (w S) H.size q → A q := by
  intro q h
  rcases h with ⟨k, e, h⟩ | h
  · exact hw.2.1.2 k (q, e) h
  · exact cx.2.2.2 q (Nat.le_trans hw.2.2.1 h)
theorem h_blind {av : List Value} {sz : Nat} : FrameBlind (va_Pc av (HPre D cI cZ w S sz)) := fun a U g mk q => by
  obtain ⟨q0, q1, qP, qK, qD, qN⟩ := q
  exact ⟨q0, q1, qP, va_K.moved (u := U) (U := U.calling g mk a) (Vm.Alike.refl U.vm) qK, qD, NW.same (s := U) (U := U.calling g mk a) rfl qN⟩
theorem h_pre (cx : HCx p m c cc nL s args Ts own D cI cZ A) (hw : HW D w S A s H locs) {av : List Value} : ∀ U : State, U.heap = H → s.WarmedH U.vm → va_Pc av (HPre D cI cZ w S H.size) av.toArray U := fun U hU hW => ⟨rfl, by rw [hU], by rw [hU]; exact hw.1, va_K.moved hW.alike cx.2.1, hw.2.1.weaken (fun _ _ _ _ => trivial), NW.warm hW cx.2.2.1⟩
variable {y : MethodName} {ws : List Cond} {rm : Room} {As : List Value} {b : Nat} {r : Int32} {C : String} {index : Nat} {bytes : ByteArray} {maxL n : Nat} {ret : Option FieldType} {st0 : List Value}
theorem h_callI (cx : HCx p m c cc nL s args Ts own D cI cZ A) (hw : HW D w S A s H locs) (hM : MI l y ws rm D cI cZ w S (.ref b :: As) r S') (cw : CallW R s args own C index y bytes maxL ret ws rm 0 0 n) (q0 : Nat) {ci : Nat} {fs : List Value} {qc : vw_C} (he : (w S)[q0]? = some (b, .inr (ci, fs))) (hc : vwCl[ci]? = some qc) (hC : qc.1 = C) (hn : As.length = n) (hsize : ls.size = nL) (hst : st0 = As.reverse ++ .ref b :: rest) (hroom : (rest.map fun v => v.category).sum ≤ 8) (hdg : decode cc pc = .ok (.invokevirtual index, 3)) (hf : cells ≤ R.cells ∧ slots ≤ R.slots) (kk : ∀ (H1 : Heap) (locs1 : List Loc), HW D w S' A s H1 locs1 → W p l e R s m args below meth c H1 locs1 cells slots Q (F0 m (pc + 3) ls (.int r :: rest))) : W p l e R s m args below meth c H locs cells slots Q (F0 m pc ls st0) := by
  subst hC
  have hFr := h_free cx hw
  refine va_calli (va_runV (As := As) (rest := rest) cx.1 (hM H.size) cw ⟨h_blind, va_recv cx.2.1 hw.1 hc he, h_pre cx hw⟩ rfl hn hsize hst (lv_room hroom) hdg hf) hw.2.2 (fun q _ h => hFr q h) hFr (fun r1 u t H1 locs1 ht hvm hp hB hz hk hS => ?_)
  obtain ⟨rfl, rfl⟩ := hp
  obtain ⟨hP1, hD1⟩ := hB
  rw [ht] at hP1
  exact kk H1 locs1 ⟨hP1, hD1.weaken (fun _ q _ h => hFr q.1 h), hS⟩
theorem h_callV (cx : HCx p m c cc nL s args Ts own D cI cZ A) (hw : HW D w S A s H locs) (hM : MV l y ws rm D cI cZ w S (.ref b :: As) S') (cw : CallW R s args own C index y bytes maxL ret ws rm 0 0 n) (q0 : Nat) {ci : Nat} {fs : List Value} {qc : vw_C} (he : (w S)[q0]? = some (b, .inr (ci, fs))) (hc : vwCl[ci]? = some qc) (hC : qc.1 = C) (hn : As.length = n) (hsize : ls.size = nL) (hst : st0 = As.reverse ++ .ref b :: rest) (hroom : (rest.map fun v => v.category).sum ≤ 8) (hdg : decode cc pc = .ok (.invokevirtual index, 3)) (hf : cells ≤ R.cells ∧ slots ≤ R.slots) (kk : ∀ (H1 : Heap) (locs1 : List Loc), HW D w S' A s H1 locs1 → W p l e R s m args below meth c H1 locs1 cells slots Q (F0 m (pc + 3) ls rest)) : W p l e R s m args below meth c H locs cells slots Q (F0 m pc ls st0) := by
  subst hC
  have hFr := h_free cx hw
  refine va_callv (va_runV (As := As) (rest := rest) cx.1 (hM H.size) cw ⟨h_blind, va_recv cx.2.1 hw.1 hc he, h_pre cx hw⟩ rfl hn hsize hst (lv_room hroom) hdg hf) hw.2.2 (fun q _ h => hFr q h) hFr (fun u t H1 locs1 ht hvm hp hB hz hk hS => ?_)
  subst hp
  obtain ⟨hP1, hD1⟩ := hB
  rw [ht] at hP1
  exact kk H1 locs1 ⟨hP1, hD1.weaken (fun _ q _ h => hFr q.1 h), hS⟩
/-- a static method that reads its world -/
theorem h_callSI (cx : HCx p m c cc nL s args Ts own D cI cZ A) (hw : HW D w S A s H locs) (hM : MI l y ws rm D cI cZ w S As r S') (cw : CallB R s args own index y bytes maxL ret ws rm 0 0 n ∧ (Cond.static y).before args s = true) (hn : As.length = n) (hsize : ls.size = nL) (hst : st0 = As.reverse ++ rest) (hroom : (rest.map fun v => v.category).sum ≤ 8) (hdg : decode cc pc = .ok (.invokestatic index, 3)) (hf : cells ≤ R.cells ∧ slots ≤ R.slots) (kk : ∀ (H1 : Heap) (locs1 : List Loc), HW D w S' A s H1 locs1 → W p l e R s m args below meth c H1 locs1 cells slots Q (F0 m (pc + 3) ls (.int r :: rest))) : W p l e R s m args below meth c H locs cells slots Q (F0 m pc ls st0) := by
  have hFr := h_free cx hw
  refine va_calli (va_runS (As := As) (rest := rest) cx.1 (hM H.size) cw ⟨h_blind, h_pre cx hw⟩ rfl hn hsize hst (lv_room hroom) hdg hf) hw.2.2 (fun q _ h => hFr q h) hFr (fun r1 u t H1 locs1 ht hvm hp hB hz hk hS => ?_)
  obtain ⟨rfl, rfl⟩ := hp
  obtain ⟨hP1, hD1⟩ := hB
  rw [ht] at hP1
  exact kk H1 locs1 ⟨hP1, hD1.weaken (fun _ q _ h => hFr q.1 h), hS⟩
/-- a static method of numbers alone: the class's own, and a nest mate's -/
theorem h_callS (cf : CallFix p m c cc nL s args Ts own) (hM : MS l y ws rm As r) (cw : CallB R s args own index y bytes maxL ret ws rm 0 0 n ∧ (Cond.static y).before args s = true) (hn : As.length = n) (hsize : ls.size = nL) (hst : st0 = As.reverse ++ rest) (hroom : (rest.map fun v => v.category).sum ≤ 8) (hdg : decode cc pc = .ok (.invokestatic index, 3)) (hf : cells ≤ R.cells ∧ slots ≤ R.slots) (kk : W p l e R s m args below meth c H locs cells slots Q (F0 m (pc + 3) ls (.int r :: rest))) : W p l e R s m args below meth c H locs cells slots Q (F0 m pc ls st0) := by
  refine vp_callSi (W.runS (As := As) (rest := rest) cf hM cw preEq rfl hn hsize hst (lv_room hroom) hdg hf) (fun r1 hr => ?_)
  subst hr
  exact kk
theorem h_callN (cf : CallFix p m c cc nL s args Ts own) (hM : MS l y ws rm As r) {host : String} (cw : va_CN R s args own index y host bytes maxL ret ws rm 0 0 n ∧ (Cond.static y).before args s = true ∧ True) (hn : As.length = n) (hsize : ls.size = nL) (hst : st0 = As.reverse ++ rest) (hroom : (rest.map fun v => v.category).sum ≤ 8) (hdg : decode cc pc = .ok (.invokestatic index, 3)) (hf : cells ≤ R.cells ∧ slots ≤ R.slots) (kk : W p l e R s m args below meth c H locs cells slots Q (F0 m (pc + 3) ls (.int r :: rest))) : W p l e R s m args below meth c H locs cells slots Q (F0 m pc ls st0) := by
  refine vp_callSi (va_Run.run (va_runSN (As := As) (rest := rest) cf hM cw preEq rfl hn hsize hst (lv_room hroom) hdg hf)) (fun r1 hr => ?_)
  subst hr
  exact kk
/-- ends -/
theorem h_iret (cx : HCx p m c cc nL s args Ts own D cI cZ A) (hw : HW D w S A s H locs) {ty : FieldType} (hr : meth.sig.returnType = some ty) (hlk : meth.locks = false) {v : Int32} (hn : narrow ty (.int v) = .int v) (h1 : v = r) (h2 : S = S') (hdg : decode cc pc = .ok (.ireturn, 1)) : W p l e R s m args below meth c H locs cells slots (MQ below (QI D w r S' A) args s cells slots A) (F0 m pc ls [.int v]) := by
  subst h1; subst h2
  exact W.zret cx.1.1 cx.1.2.1 hr hn (fun t ht hW => ⟨⟨v, S, rfl, ⟨rfl, rfl⟩, by rw [ht]; exact hw.1, hw.2.1⟩, hw.2.2.F ht⟩) hw.2.2.2.2 hdg hlk
theorem h_vret (cx : HCx p m c cc nL s args Ts own D cI cZ A) (hw : HW D w S A s H locs) (hr : meth.sig.returnType = none) (hlk : meth.locks = false) (h2 : S = S') (hdg : decode cc pc = .ok (.return_, 1)) : W p l e R s m args below meth c H locs cells slots (MQ below (QV D w S' A) args s cells slots A) (F0 m pc ls []) := by
  subst h2
  exact W.vret cx.1.1 cx.1.2.1 hr (fun t ht hW => ⟨⟨S, rfl, rfl, by rw [ht]; exact hw.1, hw.2.1⟩, hw.2.2.F ht⟩) hw.2.2.2.2 hdg hlk
theorem h_sret (cf : CallFix p m c cc nL s args Ts own) {ty : FieldType} (hr : meth.sig.returnType = some ty) (hlk : meth.locks = false) {v : Int32} (hn : narrow ty (.int v) = .int v) (h1 : v = r) (hdg : decode cc pc = .ok (.ireturn, 1)) : W p l e R s m args below meth c s.heap [] cells slots (MQ below (vp_Si (fun r' => r' = r)) args s cells slots (fun _ => False)) (F0 m pc ls [.int v]) := by
  subst h1
  exact W.zret cf.1 cf.2.1 hr hn (fun t ht hW => ⟨v, rfl, rfl, ht⟩) (fun q h => by cases h) hdg hlk
/-- a contract out of a walk -/
theorem MI.ofW {ws' : List Cond} {av : List Value} (hy : plainName y.cls = true) (hws : ws = Cond.code y cc maxL ret :: ws') (hlen : (lg_sl av).length ≤ maxL) (body : ∀ (p : Program) (e : Env) (s : State) (m : MethodId) (below : List Frame) (meth : Method) (c : Code) (A : Nat → Prop), HCx p m c cc maxL s av.toArray ws y.cls D cI cZ A → meth.sig.returnType = ret → meth.locks = false → HW D w S A s s.heap [] → ∀ ls : Array Slot, lv_has ls maxL (lv_args 0 av) → W p l e rm s m av.toArray below meth c s.heap [] 0 0 (MQ below (QI D w r S' A) av.toArray s 0 0 A) (F0 m 0 ls [])) : MI l y ws rm D cI cZ w S av r S' := by
  intro sz
  refine Met.ofW (cc := cc) (maxL := maxL) (ret := ret) hy hws ?_
  intro p e s m args below meth c s₁ B hml hv
  obtain ⟨rfl, hsz, hP, hK, hD0, hN⟩ := hv
  have hts := atoms_spec (ws := ws) B.pre
  have hown : s.vm.findClass y.cls = some m.cls := findClass_of_methodNamed B.named
  subst hsz
  have hD := hD0.self (sz := s.heap.size)
  have hl := lv_entry av (n := maxL) hlen
  rw [lg_entry_eq]
  generalize (lg_sl av ++ List.replicate (maxL - (lg_sl av).length) Slot.unset).toArray = ls at hl ⊢
  exact body p e s m below meth c (va_A (w S) s.heap.size) ⟨⟨B.exec, B.bytes, hml, hown, hts⟩, hK, hN, fun q h => Or.inr h⟩ B.returns B.notSynchronized ⟨hP, hD, va_S.rf⟩ ls hl
theorem MV.ofW {ws' : List Cond} {av : List Value} (hy : plainName y.cls = true) (hws : ws = Cond.code y cc maxL ret :: ws') (hlen : (lg_sl av).length ≤ maxL) (body : ∀ (p : Program) (e : Env) (s : State) (m : MethodId) (below : List Frame) (meth : Method) (c : Code) (A : Nat → Prop), HCx p m c cc maxL s av.toArray ws y.cls D cI cZ A → meth.sig.returnType = ret → meth.locks = false → HW D w S A s s.heap [] → ∀ ls : Array Slot, lv_has ls maxL (lv_args 0 av) → W p l e rm s m av.toArray below meth c s.heap [] 0 0 (MQ below (QV D w S' A) av.toArray s 0 0 A) (F0 m 0 ls [])) : MV l y ws rm D cI cZ w S av S' := by
  intro sz
  refine Met.ofW (cc := cc) (maxL := maxL) (ret := ret) hy hws ?_
  intro p e s m args below meth c s₁ B hml hv
  obtain ⟨rfl, hsz, hP, hK, hD0, hN⟩ := hv
  have hts := atoms_spec (ws := ws) B.pre
  have hown : s.vm.findClass y.cls = some m.cls := findClass_of_methodNamed B.named
  subst hsz
  have hD := hD0.self (sz := s.heap.size)
  have hl := lv_entry av (n := maxL) hlen
  rw [lg_entry_eq]
  generalize (lg_sl av ++ List.replicate (maxL - (lg_sl av).length) Slot.unset).toArray = ls at hl ⊢
  exact body p e s m below meth c (va_A (w S) s.heap.size) ⟨⟨B.exec, B.bytes, hml, hown, hts⟩, hK, hN, fun q h => Or.inr h⟩ B.returns B.notSynchronized ⟨hP, hD, va_S.rf⟩ ls hl
theorem MS.ofW {ws' : List Cond} {av : List Value} (hy : plainName y.cls = true) (hws : ws = Cond.code y cc maxL ret :: ws') (hlen : (lg_sl av).length ≤ maxL) (body : ∀ (p : Program) (e : Env) (s : State) (m : MethodId) (below : List Frame) (meth : Method) (c : Code), CallFix p m c cc maxL s av.toArray ws y.cls → meth.sig.returnType = ret → meth.locks = false → ∀ ls : Array Slot, lv_has ls maxL (lv_args 0 av) → W p l e rm s m av.toArray below meth c s.heap [] 0 0 (MQ below (vp_Si (fun r' => r' = r)) av.toArray s 0 0 (fun _ => False)) (F0 m 0 ls [])) : MS l y ws rm av r := by
  refine Met.ofW (cc := cc) (maxL := maxL) (ret := ret) hy hws ?_
  intro p e s m args below meth c s₁ B hml hv
  have hv : args = av.toArray := hv
  subst hv
  have hts := atoms_spec (ws := ws) B.pre
  have hown : s.vm.findClass y.cls = some m.cls := findClass_of_methodNamed B.named
  have hl := lv_entry av (n := maxL) hlen
  rw [lg_entry_eq]
  generalize (lg_sl av ++ List.replicate (maxL - (lg_sl av).length) Slot.unset).toArray = ls at hl ⊢
  exact body p e s m below meth c ⟨B.exec, B.bytes, hml, hown, hts⟩ B.returns B.notSynchronized ls hl
end HB
end
section
def wC (q : Nat → Nat) (cI : ClassId) (S : HSt) : va_W := [(q 0, .inr (3, [.ref (q 1), .ref (q 2), .ref (q 3), .ref (q 4)])), (q 1, .inr (1, [.int (S.1 0), .ref (q 5), .ref (q 6), .ref (q 7), .ref (q 8), .ref (q 9), .ref (q 10)])), (q 2, .inr (0, [.ref (q 1), .int (S.1 1), .int (S.1 2), .int (S.1 3), .ref (q 11), .ref (q 12), .ref (q 13), .ref (q 14), .ref (q 15), .ref (q 16), .ref (q 17), .ref (q 18)])), (q 3, .inr (2, [.ref (q 1), .ref (q 2), .int (S.1 4), .ref (q 19), .ref (q 20)])), (q 4, .inr (2, [.ref (q 1), .ref (q 2), .int (S.1 5), .ref (q 21), .ref (q 22)])), (q 5, .inl (cI, 24, .inl (S.2 0))), (q 6, .inl (cI, 12, .inl (S.2 1))), (q 7, .inl (cI, 12, .inl (S.2 2))), (q 8, .inl (cI, 4, .inl (S.2 3))), (q 9, .inl (cI, 28, .inl (S.2 4))), (q 10, .inl (cI, 28, .inl (S.2 5))), (q 11, .inl (cI, 96, .inl (S.2 6))), (q 12, .inl (cI, 96, .inl (S.2 7))), (q 13, .inl (cI, 28, .inl (S.2 8))), (q 14, .inl (cI, 96, .inl (S.2 9))), (q 15, .inl (cI, 4, .inl (S.2 10))), (q 16, .inl (cI, 4, .inl (S.2 11))), (q 17, .inl (cI, 96, .inl (S.2 12))), (q 18, .inl (cI, 96, .inl (S.2 13))), (q 19, .inl (cI, 15, .inl (S.2 14))), (q 20, .inl (cI, 15, .inl (S.2 15))), (q 21, .inl (cI, 15, .inl (S.2 16))), (q 22, .inl (cI, 15, .inl (S.2 17)))]
theorem wC_p0 (q : Nat → Nat) (cI : ClassId) (S : HSt) : (wC q cI S)[0]? = some (q 0, .inr (3, [.ref (q 1), .ref (q 2), .ref (q 3), .ref (q 4)])) := rfl
theorem wC_p1 (q : Nat → Nat) (cI : ClassId) (S : HSt) : (wC q cI S)[1]? = some (q 1, .inr (1, [.int (S.1 0), .ref (q 5), .ref (q 6), .ref (q 7), .ref (q 8), .ref (q 9), .ref (q 10)])) := rfl
theorem wC_p2 (q : Nat → Nat) (cI : ClassId) (S : HSt) : (wC q cI S)[2]? = some (q 2, .inr (0, [.ref (q 1), .int (S.1 1), .int (S.1 2), .int (S.1 3), .ref (q 11), .ref (q 12), .ref (q 13), .ref (q 14), .ref (q 15), .ref (q 16), .ref (q 17), .ref (q 18)])) := rfl
theorem wC_p3 (q : Nat → Nat) (cI : ClassId) (S : HSt) : (wC q cI S)[3]? = some (q 3, .inr (2, [.ref (q 1), .ref (q 2), .int (S.1 4), .ref (q 19), .ref (q 20)])) := rfl
theorem wC_p4 (q : Nat → Nat) (cI : ClassId) (S : HSt) : (wC q cI S)[4]? = some (q 4, .inr (2, [.ref (q 1), .ref (q 2), .int (S.1 5), .ref (q 21), .ref (q 22)])) := rfl
theorem wC_p5 (q : Nat → Nat) (cI : ClassId) (S : HSt) : (wC q cI S)[5]? = some (q 5, .inl (cI, 24, .inl (S.2 0))) := rfl
theorem wC_p6 (q : Nat → Nat) (cI : ClassId) (S : HSt) : (wC q cI S)[6]? = some (q 6, .inl (cI, 12, .inl (S.2 1))) := rfl
theorem wC_p7 (q : Nat → Nat) (cI : ClassId) (S : HSt) : (wC q cI S)[7]? = some (q 7, .inl (cI, 12, .inl (S.2 2))) := rfl
theorem wC_p8 (q : Nat → Nat) (cI : ClassId) (S : HSt) : (wC q cI S)[8]? = some (q 8, .inl (cI, 4, .inl (S.2 3))) := rfl
theorem wC_p9 (q : Nat → Nat) (cI : ClassId) (S : HSt) : (wC q cI S)[9]? = some (q 9, .inl (cI, 28, .inl (S.2 4))) := rfl
theorem wC_p10 (q : Nat → Nat) (cI : ClassId) (S : HSt) : (wC q cI S)[10]? = some (q 10, .inl (cI, 28, .inl (S.2 5))) := rfl
theorem wC_p11 (q : Nat → Nat) (cI : ClassId) (S : HSt) : (wC q cI S)[11]? = some (q 11, .inl (cI, 96, .inl (S.2 6))) := rfl
theorem wC_p12 (q : Nat → Nat) (cI : ClassId) (S : HSt) : (wC q cI S)[12]? = some (q 12, .inl (cI, 96, .inl (S.2 7))) := rfl
theorem wC_p13 (q : Nat → Nat) (cI : ClassId) (S : HSt) : (wC q cI S)[13]? = some (q 13, .inl (cI, 28, .inl (S.2 8))) := rfl
theorem wC_p14 (q : Nat → Nat) (cI : ClassId) (S : HSt) : (wC q cI S)[14]? = some (q 14, .inl (cI, 96, .inl (S.2 9))) := rfl
theorem wC_p15 (q : Nat → Nat) (cI : ClassId) (S : HSt) : (wC q cI S)[15]? = some (q 15, .inl (cI, 4, .inl (S.2 10))) := rfl
theorem wC_p16 (q : Nat → Nat) (cI : ClassId) (S : HSt) : (wC q cI S)[16]? = some (q 16, .inl (cI, 4, .inl (S.2 11))) := rfl
theorem wC_p17 (q : Nat → Nat) (cI : ClassId) (S : HSt) : (wC q cI S)[17]? = some (q 17, .inl (cI, 96, .inl (S.2 12))) := rfl
theorem wC_p18 (q : Nat → Nat) (cI : ClassId) (S : HSt) : (wC q cI S)[18]? = some (q 18, .inl (cI, 96, .inl (S.2 13))) := rfl
theorem wC_p19 (q : Nat → Nat) (cI : ClassId) (S : HSt) : (wC q cI S)[19]? = some (q 19, .inl (cI, 15, .inl (S.2 14))) := rfl
theorem wC_p20 (q : Nat → Nat) (cI : ClassId) (S : HSt) : (wC q cI S)[20]? = some (q 20, .inl (cI, 15, .inl (S.2 15))) := rfl
theorem wC_p21 (q : Nat → Nat) (cI : ClassId) (S : HSt) : (wC q cI S)[21]? = some (q 21, .inl (cI, 15, .inl (S.2 16))) := rfl
theorem wC_p22 (q : Nat → Nat) (cI : ClassId) (S : HSt) : (wC q cI S)[22]? = some (q 22, .inl (cI, 15, .inl (S.2 17))) := rfl
theorem wC_i0 (q : Nat → Nat) (cI : ClassId) (S : HSt) (x : Int32) : (wC q cI S).set 1 (q 1, .inr (1, ([.int (S.1 0), .ref (q 5), .ref (q 6), .ref (q 7), .ref (q 8), .ref (q 9), .ref (q 10)] : List Value).set 0 (.int x))) = wC q cI (h_put S 0 x) := rfl
theorem wC_i1 (q : Nat → Nat) (cI : ClassId) (S : HSt) (x : Int32) : (wC q cI S).set 2 (q 2, .inr (0, ([.ref (q 1), .int (S.1 1), .int (S.1 2), .int (S.1 3), .ref (q 11), .ref (q 12), .ref (q 13), .ref (q 14), .ref (q 15), .ref (q 16), .ref (q 17), .ref (q 18)] : List Value).set 1 (.int x))) = wC q cI (h_put S 1 x) := rfl
theorem wC_i2 (q : Nat → Nat) (cI : ClassId) (S : HSt) (x : Int32) : (wC q cI S).set 2 (q 2, .inr (0, ([.ref (q 1), .int (S.1 1), .int (S.1 2), .int (S.1 3), .ref (q 11), .ref (q 12), .ref (q 13), .ref (q 14), .ref (q 15), .ref (q 16), .ref (q 17), .ref (q 18)] : List Value).set 2 (.int x))) = wC q cI (h_put S 2 x) := rfl
theorem wC_i3 (q : Nat → Nat) (cI : ClassId) (S : HSt) (x : Int32) : (wC q cI S).set 2 (q 2, .inr (0, ([.ref (q 1), .int (S.1 1), .int (S.1 2), .int (S.1 3), .ref (q 11), .ref (q 12), .ref (q 13), .ref (q 14), .ref (q 15), .ref (q 16), .ref (q 17), .ref (q 18)] : List Value).set 3 (.int x))) = wC q cI (h_put S 3 x) := rfl
theorem wC_i4 (q : Nat → Nat) (cI : ClassId) (S : HSt) (x : Int32) : (wC q cI S).set 3 (q 3, .inr (2, ([.ref (q 1), .ref (q 2), .int (S.1 4), .ref (q 19), .ref (q 20)] : List Value).set 2 (.int x))) = wC q cI (h_put S 4 x) := rfl
theorem wC_i5 (q : Nat → Nat) (cI : ClassId) (S : HSt) (x : Int32) : (wC q cI S).set 4 (q 4, .inr (2, ([.ref (q 1), .ref (q 2), .int (S.1 5), .ref (q 21), .ref (q 22)] : List Value).set 2 (.int x))) = wC q cI (h_put S 5 x) := rfl
theorem wC_s5 (q : Nat → Nat) (cI : ClassId) (S : HSt) (f : Nat → Int32) : (wC q cI S).set 5 (q 5, .inl (cI, 24, .inl f)) = wC q cI (S.1, va_up S.2 0 f) := rfl
theorem wC_s6 (q : Nat → Nat) (cI : ClassId) (S : HSt) (f : Nat → Int32) : (wC q cI S).set 6 (q 6, .inl (cI, 12, .inl f)) = wC q cI (S.1, va_up S.2 1 f) := rfl
theorem wC_s7 (q : Nat → Nat) (cI : ClassId) (S : HSt) (f : Nat → Int32) : (wC q cI S).set 7 (q 7, .inl (cI, 12, .inl f)) = wC q cI (S.1, va_up S.2 2 f) := rfl
theorem wC_s8 (q : Nat → Nat) (cI : ClassId) (S : HSt) (f : Nat → Int32) : (wC q cI S).set 8 (q 8, .inl (cI, 4, .inl f)) = wC q cI (S.1, va_up S.2 3 f) := rfl
theorem wC_s9 (q : Nat → Nat) (cI : ClassId) (S : HSt) (f : Nat → Int32) : (wC q cI S).set 9 (q 9, .inl (cI, 28, .inl f)) = wC q cI (S.1, va_up S.2 4 f) := rfl
theorem wC_s10 (q : Nat → Nat) (cI : ClassId) (S : HSt) (f : Nat → Int32) : (wC q cI S).set 10 (q 10, .inl (cI, 28, .inl f)) = wC q cI (S.1, va_up S.2 5 f) := rfl
theorem wC_s11 (q : Nat → Nat) (cI : ClassId) (S : HSt) (f : Nat → Int32) : (wC q cI S).set 11 (q 11, .inl (cI, 96, .inl f)) = wC q cI (S.1, va_up S.2 6 f) := rfl
theorem wC_s12 (q : Nat → Nat) (cI : ClassId) (S : HSt) (f : Nat → Int32) : (wC q cI S).set 12 (q 12, .inl (cI, 96, .inl f)) = wC q cI (S.1, va_up S.2 7 f) := rfl
theorem wC_s13 (q : Nat → Nat) (cI : ClassId) (S : HSt) (f : Nat → Int32) : (wC q cI S).set 13 (q 13, .inl (cI, 28, .inl f)) = wC q cI (S.1, va_up S.2 8 f) := rfl
theorem wC_s14 (q : Nat → Nat) (cI : ClassId) (S : HSt) (f : Nat → Int32) : (wC q cI S).set 14 (q 14, .inl (cI, 96, .inl f)) = wC q cI (S.1, va_up S.2 9 f) := rfl
theorem wC_s15 (q : Nat → Nat) (cI : ClassId) (S : HSt) (f : Nat → Int32) : (wC q cI S).set 15 (q 15, .inl (cI, 4, .inl f)) = wC q cI (S.1, va_up S.2 10 f) := rfl
theorem wC_s16 (q : Nat → Nat) (cI : ClassId) (S : HSt) (f : Nat → Int32) : (wC q cI S).set 16 (q 16, .inl (cI, 4, .inl f)) = wC q cI (S.1, va_up S.2 11 f) := rfl
theorem wC_s17 (q : Nat → Nat) (cI : ClassId) (S : HSt) (f : Nat → Int32) : (wC q cI S).set 17 (q 17, .inl (cI, 96, .inl f)) = wC q cI (S.1, va_up S.2 12 f) := rfl
theorem wC_s18 (q : Nat → Nat) (cI : ClassId) (S : HSt) (f : Nat → Int32) : (wC q cI S).set 18 (q 18, .inl (cI, 96, .inl f)) = wC q cI (S.1, va_up S.2 13 f) := rfl
theorem wC_s19 (q : Nat → Nat) (cI : ClassId) (S : HSt) (f : Nat → Int32) : (wC q cI S).set 19 (q 19, .inl (cI, 15, .inl f)) = wC q cI (S.1, va_up S.2 14 f) := rfl
theorem wC_s20 (q : Nat → Nat) (cI : ClassId) (S : HSt) (f : Nat → Int32) : (wC q cI S).set 20 (q 20, .inl (cI, 15, .inl f)) = wC q cI (S.1, va_up S.2 15 f) := rfl
theorem wC_s21 (q : Nat → Nat) (cI : ClassId) (S : HSt) (f : Nat → Int32) : (wC q cI S).set 21 (q 21, .inl (cI, 15, .inl f)) = wC q cI (S.1, va_up S.2 16 f) := rfl
theorem wC_s22 (q : Nat → Nat) (cI : ClassId) (S : HSt) (f : Nat → Int32) : (wC q cI S).set 22 (q 22, .inl (cI, 15, .inl f)) = wC q cI (S.1, va_up S.2 17 f) := rfl
def wM (q : Nat → Nat) (cI cZ : ClassId) (S : HSt) : va_W := [(q 0, .inr (4, [.int (S.1 0), .ref (q 1), .ref (q 2), .ref (q 3), .ref (q 4), .ref (q 5), .ref (q 6), .ref (q 7), .ref (q 8), .ref (q 9), .ref (q 10), .ref (q 11), .ref (q 12), .int (S.1 1), .ref (q 13), .ref (q 14), .ref (q 15), .ref (q 16), .ref (q 17), .ref (q 18), .ref (q 19), .ref (q 20), .ref (q 21), .int (S.1 2), .ref (q 22), .ref (q 23), .int (S.1 3)])), (q 1, .inl (cI, 12, .inl (S.2 0))), (q 2, .inl (cI, 12, .inl (S.2 1))), (q 3, .inl (cI, 12, .inl (S.2 2))), (q 4, .inl (cZ, 12, .inl (S.2 3))), (q 5, .inl (cI, 4, .inl (S.2 4))), (q 6, .inl (cI, 7, .inl (S.2 5))), (q 7, .inl (cI, 28, .inl (S.2 6))), (q 8, .inl (cI, 2, .inl (S.2 7))), (q 9, .inl (cI, 336, .inl (S.2 8))), (q 10, .inl (cI, 336, .inl (S.2 9))), (q 11, .inl (cI, 336, .inl (S.2 10))), (q 12, .inl (cI, 336, .inl (S.2 11))), (q 13, .inl (cI, 336, .inl (S.2 12))), (q 14, .inl (cI, 336, .inl (S.2 13))), (q 15, .inl (cI, 336, .inl (S.2 14))), (q 16, .inl (cI, 336, .inl (S.2 15))), (q 17, .inl (cI, 28, .inl (S.2 16))), (q 18, .inl (cI, 28, .inl (S.2 17))), (q 19, .inl (cI, 1344, .inl (S.2 18))), (q 20, .inl (cI, 15, .inl (S.2 19))), (q 21, .inl (cI, 15, .inl (S.2 20))), (q 22, .inl (cI, 15, .inl (S.2 21))), (q 23, .inl (cI, 15, .inl (S.2 22)))]
theorem wM_p0 (q : Nat → Nat) (cI cZ : ClassId) (S : HSt) : (wM q cI cZ S)[0]? = some (q 0, .inr (4, [.int (S.1 0), .ref (q 1), .ref (q 2), .ref (q 3), .ref (q 4), .ref (q 5), .ref (q 6), .ref (q 7), .ref (q 8), .ref (q 9), .ref (q 10), .ref (q 11), .ref (q 12), .int (S.1 1), .ref (q 13), .ref (q 14), .ref (q 15), .ref (q 16), .ref (q 17), .ref (q 18), .ref (q 19), .ref (q 20), .ref (q 21), .int (S.1 2), .ref (q 22), .ref (q 23), .int (S.1 3)])) := rfl
theorem wM_p1 (q : Nat → Nat) (cI cZ : ClassId) (S : HSt) : (wM q cI cZ S)[1]? = some (q 1, .inl (cI, 12, .inl (S.2 0))) := rfl
theorem wM_p2 (q : Nat → Nat) (cI cZ : ClassId) (S : HSt) : (wM q cI cZ S)[2]? = some (q 2, .inl (cI, 12, .inl (S.2 1))) := rfl
theorem wM_p3 (q : Nat → Nat) (cI cZ : ClassId) (S : HSt) : (wM q cI cZ S)[3]? = some (q 3, .inl (cI, 12, .inl (S.2 2))) := rfl
theorem wM_p4 (q : Nat → Nat) (cI cZ : ClassId) (S : HSt) : (wM q cI cZ S)[4]? = some (q 4, .inl (cZ, 12, .inl (S.2 3))) := rfl
theorem wM_p5 (q : Nat → Nat) (cI cZ : ClassId) (S : HSt) : (wM q cI cZ S)[5]? = some (q 5, .inl (cI, 4, .inl (S.2 4))) := rfl
theorem wM_p6 (q : Nat → Nat) (cI cZ : ClassId) (S : HSt) : (wM q cI cZ S)[6]? = some (q 6, .inl (cI, 7, .inl (S.2 5))) := rfl
theorem wM_p7 (q : Nat → Nat) (cI cZ : ClassId) (S : HSt) : (wM q cI cZ S)[7]? = some (q 7, .inl (cI, 28, .inl (S.2 6))) := rfl
theorem wM_p8 (q : Nat → Nat) (cI cZ : ClassId) (S : HSt) : (wM q cI cZ S)[8]? = some (q 8, .inl (cI, 2, .inl (S.2 7))) := rfl
theorem wM_p9 (q : Nat → Nat) (cI cZ : ClassId) (S : HSt) : (wM q cI cZ S)[9]? = some (q 9, .inl (cI, 336, .inl (S.2 8))) := rfl
theorem wM_p10 (q : Nat → Nat) (cI cZ : ClassId) (S : HSt) : (wM q cI cZ S)[10]? = some (q 10, .inl (cI, 336, .inl (S.2 9))) := rfl
theorem wM_p11 (q : Nat → Nat) (cI cZ : ClassId) (S : HSt) : (wM q cI cZ S)[11]? = some (q 11, .inl (cI, 336, .inl (S.2 10))) := rfl
theorem wM_p12 (q : Nat → Nat) (cI cZ : ClassId) (S : HSt) : (wM q cI cZ S)[12]? = some (q 12, .inl (cI, 336, .inl (S.2 11))) := rfl
theorem wM_p13 (q : Nat → Nat) (cI cZ : ClassId) (S : HSt) : (wM q cI cZ S)[13]? = some (q 13, .inl (cI, 336, .inl (S.2 12))) := rfl
theorem wM_p14 (q : Nat → Nat) (cI cZ : ClassId) (S : HSt) : (wM q cI cZ S)[14]? = some (q 14, .inl (cI, 336, .inl (S.2 13))) := rfl
theorem wM_p15 (q : Nat → Nat) (cI cZ : ClassId) (S : HSt) : (wM q cI cZ S)[15]? = some (q 15, .inl (cI, 336, .inl (S.2 14))) := rfl
theorem wM_p16 (q : Nat → Nat) (cI cZ : ClassId) (S : HSt) : (wM q cI cZ S)[16]? = some (q 16, .inl (cI, 336, .inl (S.2 15))) := rfl
theorem wM_p17 (q : Nat → Nat) (cI cZ : ClassId) (S : HSt) : (wM q cI cZ S)[17]? = some (q 17, .inl (cI, 28, .inl (S.2 16))) := rfl
theorem wM_p18 (q : Nat → Nat) (cI cZ : ClassId) (S : HSt) : (wM q cI cZ S)[18]? = some (q 18, .inl (cI, 28, .inl (S.2 17))) := rfl
theorem wM_p19 (q : Nat → Nat) (cI cZ : ClassId) (S : HSt) : (wM q cI cZ S)[19]? = some (q 19, .inl (cI, 1344, .inl (S.2 18))) := rfl
theorem wM_p20 (q : Nat → Nat) (cI cZ : ClassId) (S : HSt) : (wM q cI cZ S)[20]? = some (q 20, .inl (cI, 15, .inl (S.2 19))) := rfl
theorem wM_p21 (q : Nat → Nat) (cI cZ : ClassId) (S : HSt) : (wM q cI cZ S)[21]? = some (q 21, .inl (cI, 15, .inl (S.2 20))) := rfl
theorem wM_p22 (q : Nat → Nat) (cI cZ : ClassId) (S : HSt) : (wM q cI cZ S)[22]? = some (q 22, .inl (cI, 15, .inl (S.2 21))) := rfl
theorem wM_p23 (q : Nat → Nat) (cI cZ : ClassId) (S : HSt) : (wM q cI cZ S)[23]? = some (q 23, .inl (cI, 15, .inl (S.2 22))) := rfl
theorem wM_i0 (q : Nat → Nat) (cI cZ : ClassId) (S : HSt) (x : Int32) : (wM q cI cZ S).set 0 (q 0, .inr (4, ([.int (S.1 0), .ref (q 1), .ref (q 2), .ref (q 3), .ref (q 4), .ref (q 5), .ref (q 6), .ref (q 7), .ref (q 8), .ref (q 9), .ref (q 10), .ref (q 11), .ref (q 12), .int (S.1 1), .ref (q 13), .ref (q 14), .ref (q 15), .ref (q 16), .ref (q 17), .ref (q 18), .ref (q 19), .ref (q 20), .ref (q 21), .int (S.1 2), .ref (q 22), .ref (q 23), .int (S.1 3)] : List Value).set 0 (.int x))) = wM q cI cZ (h_put S 0 x) := rfl
theorem wM_i1 (q : Nat → Nat) (cI cZ : ClassId) (S : HSt) (x : Int32) : (wM q cI cZ S).set 0 (q 0, .inr (4, ([.int (S.1 0), .ref (q 1), .ref (q 2), .ref (q 3), .ref (q 4), .ref (q 5), .ref (q 6), .ref (q 7), .ref (q 8), .ref (q 9), .ref (q 10), .ref (q 11), .ref (q 12), .int (S.1 1), .ref (q 13), .ref (q 14), .ref (q 15), .ref (q 16), .ref (q 17), .ref (q 18), .ref (q 19), .ref (q 20), .ref (q 21), .int (S.1 2), .ref (q 22), .ref (q 23), .int (S.1 3)] : List Value).set 13 (.int x))) = wM q cI cZ (h_put S 1 x) := rfl
theorem wM_i2 (q : Nat → Nat) (cI cZ : ClassId) (S : HSt) (x : Int32) : (wM q cI cZ S).set 0 (q 0, .inr (4, ([.int (S.1 0), .ref (q 1), .ref (q 2), .ref (q 3), .ref (q 4), .ref (q 5), .ref (q 6), .ref (q 7), .ref (q 8), .ref (q 9), .ref (q 10), .ref (q 11), .ref (q 12), .int (S.1 1), .ref (q 13), .ref (q 14), .ref (q 15), .ref (q 16), .ref (q 17), .ref (q 18), .ref (q 19), .ref (q 20), .ref (q 21), .int (S.1 2), .ref (q 22), .ref (q 23), .int (S.1 3)] : List Value).set 23 (.int x))) = wM q cI cZ (h_put S 2 x) := rfl
theorem wM_i3 (q : Nat → Nat) (cI cZ : ClassId) (S : HSt) (x : Int32) : (wM q cI cZ S).set 0 (q 0, .inr (4, ([.int (S.1 0), .ref (q 1), .ref (q 2), .ref (q 3), .ref (q 4), .ref (q 5), .ref (q 6), .ref (q 7), .ref (q 8), .ref (q 9), .ref (q 10), .ref (q 11), .ref (q 12), .int (S.1 1), .ref (q 13), .ref (q 14), .ref (q 15), .ref (q 16), .ref (q 17), .ref (q 18), .ref (q 19), .ref (q 20), .ref (q 21), .int (S.1 2), .ref (q 22), .ref (q 23), .int (S.1 3)] : List Value).set 26 (.int x))) = wM q cI cZ (h_put S 3 x) := rfl
theorem wM_s1 (q : Nat → Nat) (cI cZ : ClassId) (S : HSt) (f : Nat → Int32) : (wM q cI cZ S).set 1 (q 1, .inl (cI, 12, .inl f)) = wM q cI cZ (S.1, va_up S.2 0 f) := rfl
theorem wM_s2 (q : Nat → Nat) (cI cZ : ClassId) (S : HSt) (f : Nat → Int32) : (wM q cI cZ S).set 2 (q 2, .inl (cI, 12, .inl f)) = wM q cI cZ (S.1, va_up S.2 1 f) := rfl
theorem wM_s3 (q : Nat → Nat) (cI cZ : ClassId) (S : HSt) (f : Nat → Int32) : (wM q cI cZ S).set 3 (q 3, .inl (cI, 12, .inl f)) = wM q cI cZ (S.1, va_up S.2 2 f) := rfl
theorem wM_s4 (q : Nat → Nat) (cI cZ : ClassId) (S : HSt) (f : Nat → Int32) : (wM q cI cZ S).set 4 (q 4, .inl (cZ, 12, .inl f)) = wM q cI cZ (S.1, va_up S.2 3 f) := rfl
theorem wM_s5 (q : Nat → Nat) (cI cZ : ClassId) (S : HSt) (f : Nat → Int32) : (wM q cI cZ S).set 5 (q 5, .inl (cI, 4, .inl f)) = wM q cI cZ (S.1, va_up S.2 4 f) := rfl
theorem wM_s6 (q : Nat → Nat) (cI cZ : ClassId) (S : HSt) (f : Nat → Int32) : (wM q cI cZ S).set 6 (q 6, .inl (cI, 7, .inl f)) = wM q cI cZ (S.1, va_up S.2 5 f) := rfl
theorem wM_s7 (q : Nat → Nat) (cI cZ : ClassId) (S : HSt) (f : Nat → Int32) : (wM q cI cZ S).set 7 (q 7, .inl (cI, 28, .inl f)) = wM q cI cZ (S.1, va_up S.2 6 f) := rfl
theorem wM_s8 (q : Nat → Nat) (cI cZ : ClassId) (S : HSt) (f : Nat → Int32) : (wM q cI cZ S).set 8 (q 8, .inl (cI, 2, .inl f)) = wM q cI cZ (S.1, va_up S.2 7 f) := rfl
theorem wM_s9 (q : Nat → Nat) (cI cZ : ClassId) (S : HSt) (f : Nat → Int32) : (wM q cI cZ S).set 9 (q 9, .inl (cI, 336, .inl f)) = wM q cI cZ (S.1, va_up S.2 8 f) := rfl
theorem wM_s10 (q : Nat → Nat) (cI cZ : ClassId) (S : HSt) (f : Nat → Int32) : (wM q cI cZ S).set 10 (q 10, .inl (cI, 336, .inl f)) = wM q cI cZ (S.1, va_up S.2 9 f) := rfl
theorem wM_s11 (q : Nat → Nat) (cI cZ : ClassId) (S : HSt) (f : Nat → Int32) : (wM q cI cZ S).set 11 (q 11, .inl (cI, 336, .inl f)) = wM q cI cZ (S.1, va_up S.2 10 f) := rfl
theorem wM_s12 (q : Nat → Nat) (cI cZ : ClassId) (S : HSt) (f : Nat → Int32) : (wM q cI cZ S).set 12 (q 12, .inl (cI, 336, .inl f)) = wM q cI cZ (S.1, va_up S.2 11 f) := rfl
theorem wM_s13 (q : Nat → Nat) (cI cZ : ClassId) (S : HSt) (f : Nat → Int32) : (wM q cI cZ S).set 13 (q 13, .inl (cI, 336, .inl f)) = wM q cI cZ (S.1, va_up S.2 12 f) := rfl
theorem wM_s14 (q : Nat → Nat) (cI cZ : ClassId) (S : HSt) (f : Nat → Int32) : (wM q cI cZ S).set 14 (q 14, .inl (cI, 336, .inl f)) = wM q cI cZ (S.1, va_up S.2 13 f) := rfl
theorem wM_s15 (q : Nat → Nat) (cI cZ : ClassId) (S : HSt) (f : Nat → Int32) : (wM q cI cZ S).set 15 (q 15, .inl (cI, 336, .inl f)) = wM q cI cZ (S.1, va_up S.2 14 f) := rfl
theorem wM_s16 (q : Nat → Nat) (cI cZ : ClassId) (S : HSt) (f : Nat → Int32) : (wM q cI cZ S).set 16 (q 16, .inl (cI, 336, .inl f)) = wM q cI cZ (S.1, va_up S.2 15 f) := rfl
theorem wM_s17 (q : Nat → Nat) (cI cZ : ClassId) (S : HSt) (f : Nat → Int32) : (wM q cI cZ S).set 17 (q 17, .inl (cI, 28, .inl f)) = wM q cI cZ (S.1, va_up S.2 16 f) := rfl
theorem wM_s18 (q : Nat → Nat) (cI cZ : ClassId) (S : HSt) (f : Nat → Int32) : (wM q cI cZ S).set 18 (q 18, .inl (cI, 28, .inl f)) = wM q cI cZ (S.1, va_up S.2 17 f) := rfl
theorem wM_s19 (q : Nat → Nat) (cI cZ : ClassId) (S : HSt) (f : Nat → Int32) : (wM q cI cZ S).set 19 (q 19, .inl (cI, 1344, .inl f)) = wM q cI cZ (S.1, va_up S.2 18 f) := rfl
theorem wM_s20 (q : Nat → Nat) (cI cZ : ClassId) (S : HSt) (f : Nat → Int32) : (wM q cI cZ S).set 20 (q 20, .inl (cI, 15, .inl f)) = wM q cI cZ (S.1, va_up S.2 19 f) := rfl
theorem wM_s21 (q : Nat → Nat) (cI cZ : ClassId) (S : HSt) (f : Nat → Int32) : (wM q cI cZ S).set 21 (q 21, .inl (cI, 15, .inl f)) = wM q cI cZ (S.1, va_up S.2 20 f) := rfl
theorem wM_s22 (q : Nat → Nat) (cI cZ : ClassId) (S : HSt) (f : Nat → Int32) : (wM q cI cZ S).set 22 (q 22, .inl (cI, 15, .inl f)) = wM q cI cZ (S.1, va_up S.2 21 f) := rfl
theorem wM_s23 (q : Nat → Nat) (cI cZ : ClassId) (S : HSt) (f : Nat → Int32) : (wM q cI cZ S).set 23 (q 23, .inl (cI, 15, .inl f)) = wM q cI cZ (S.1, va_up S.2 22 f) := rfl
abbrev hsX0_has : List Cond := Cond.code yX0_has cX0_has 3 (some .boolean) :: hALL
abbrev rmX0_has : Room := { frames := 0, cells := 0, slots := 0, locals := 0 }
theorem pdX0_has : yX0_has.cls = RX0 ∧ yX0_has.cls ≠ "java/lang/invoke/MethodHandle" ∧ yX0_has.cls ≠ "java/lang/invoke/VarHandle" ∧ (parseMethodDescriptor yX0_has.desc).map (fun d => d.parameters.length) = some 2 := by decide +kernel
abbrev hsX3_slot : List Cond := Cond.code yX3_slot cX3_slot 2 (some .int) :: hALL
abbrev rmX3_slot : Room := { frames := 0, cells := 0, slots := 0, locals := 0 }
theorem pdX3_slot : yX3_slot.cls = RX3 ∧ yX3_slot.cls ≠ "java/lang/invoke/MethodHandle" ∧ yX3_slot.cls ≠ "java/lang/invoke/VarHandle" ∧ (parseMethodDescriptor yX3_slot.desc).map (fun d => d.parameters.length) = some 2 := by decide +kernel
abbrev hsX0_handNothing : List Cond := Cond.code yX0_handNothing cX0_handNothing 3 none :: hALL
abbrev rmX0_handNothing : Room := { frames := 1, cells := 0, slots := 0, locals := 21 }
theorem pdX0_handNothing : yX0_handNothing.cls = RX0 ∧ yX0_handNothing.cls ≠ "java/lang/invoke/MethodHandle" ∧ yX0_handNothing.cls ≠ "java/lang/invoke/VarHandle" ∧ (parseMethodDescriptor yX0_handNothing.desc).map (fun d => d.parameters.length) = some 1 := by decide +kernel
abbrev hsX0_changeMode : List Cond := Cond.code yX0_changeMode cX0_changeMode 5 (some .int) :: hALL
abbrev rmX0_changeMode : Room := { frames := 2, cells := 0, slots := 0, locals := 43 }
theorem pdX0_changeMode : yX0_changeMode.cls = RX0 ∧ yX0_changeMode.cls ≠ "java/lang/invoke/MethodHandle" ∧ yX0_changeMode.cls ≠ "java/lang/invoke/VarHandle" ∧ (parseMethodDescriptor yX0_changeMode.desc).map (fun d => d.parameters.length) = some 3 := by decide +kernel
abbrev hsX0_forgetLink : List Cond := Cond.code yX0_forgetLink cX0_forgetLink 3 none :: hALL
abbrev rmX0_forgetLink : Room := { frames := 1, cells := 0, slots := 0, locals := 21 }
theorem pdX0_forgetLink : yX0_forgetLink.cls = RX0 ∧ yX0_forgetLink.cls ≠ "java/lang/invoke/MethodHandle" ∧ yX0_forgetLink.cls ≠ "java/lang/invoke/VarHandle" ∧ (parseMethodDescriptor yX0_forgetLink.desc).map (fun d => d.parameters.length) = some 1 := by decide +kernel
abbrev hsX3_pair : List Cond := Cond.code yX3_pair cX3_pair 2 (some .int) :: hALL
abbrev rmX3_pair : Room := { frames := 0, cells := 0, slots := 0, locals := 0 }
theorem pdX3_pair : yX3_pair.cls = RX3 ∧ yX3_pair.cls ≠ "java/lang/invoke/MethodHandle" ∧ yX3_pair.cls ≠ "java/lang/invoke/VarHandle" ∧ (parseMethodDescriptor yX3_pair.desc).map (fun d => d.parameters.length) = some 2 := by decide +kernel
abbrev hsX0_slipUsed : List Cond := Cond.code yX0_slipUsed cX0_slipUsed 4 (some .int) :: hALL
abbrev rmX0_slipUsed : Room := { frames := 1, cells := 0, slots := 0, locals := 21 }
theorem pdX0_slipUsed : yX0_slipUsed.cls = RX0 ∧ yX0_slipUsed.cls ≠ "java/lang/invoke/MethodHandle" ∧ yX0_slipUsed.cls ≠ "java/lang/invoke/VarHandle" ∧ (parseMethodDescriptor yX0_slipUsed.desc).map (fun d => d.parameters.length) = some 2 := by decide +kernel
abbrev hsX3_labelOf : List Cond := Cond.code yX3_labelOf cX3_labelOf 1 (some .int) :: hALL
abbrev rmX3_labelOf : Room := { frames := 0, cells := 0, slots := 0, locals := 0 }
theorem pdX3_labelOf : yX3_labelOf.cls = RX3 ∧ yX3_labelOf.cls ≠ "java/lang/invoke/MethodHandle" ∧ yX3_labelOf.cls ≠ "java/lang/invoke/VarHandle" ∧ (parseMethodDescriptor yX3_labelOf.desc).map (fun d => d.parameters.length) = some 1 := by decide +kernel
abbrev hsX0_classMeant : List Cond := Cond.code yX0_classMeant cX0_classMeant 9 (some .int) :: hALL
abbrev rmX0_classMeant : Room := { frames := 1, cells := 0, slots := 0, locals := 22 }
theorem pdX0_classMeant : yX0_classMeant.cls = RX0 ∧ yX0_classMeant.cls ≠ "java/lang/invoke/MethodHandle" ∧ yX0_classMeant.cls ≠ "java/lang/invoke/VarHandle" ∧ (parseMethodDescriptor yX0_classMeant.desc).map (fun d => d.parameters.length) = some 3 := by decide +kernel
abbrev hsX0_greatestLabel : List Cond := Cond.code yX0_greatestLabel cX0_greatestLabel 3 (some .int) :: hALL
abbrev rmX0_greatestLabel : Room := { frames := 1, cells := 0, slots := 0, locals := 21 }
theorem pdX0_greatestLabel : yX0_greatestLabel.cls = RX0 ∧ yX0_greatestLabel.cls ≠ "java/lang/invoke/MethodHandle" ∧ yX0_greatestLabel.cls ≠ "java/lang/invoke/VarHandle" ∧ (parseMethodDescriptor yX0_greatestLabel.desc).map (fun d => d.parameters.length) = some 0 := by decide +kernel
abbrev hsX3_countOf : List Cond := Cond.code yX3_countOf cX3_countOf 1 (some .int) :: hALL
abbrev rmX3_countOf : Room := { frames := 0, cells := 0, slots := 0, locals := 0 }
theorem pdX3_countOf : yX3_countOf.cls = RX3 ∧ yX3_countOf.cls ≠ "java/lang/invoke/MethodHandle" ∧ yX3_countOf.cls ≠ "java/lang/invoke/VarHandle" ∧ (parseMethodDescriptor yX3_countOf.desc).map (fun d => d.parameters.length) = some 1 := by decide +kernel
abbrev hsX0_countToHand : List Cond := Cond.code yX0_countToHand cX0_countToHand 5 (some .int) :: hALL
abbrev rmX0_countToHand : Room := { frames := 2, cells := 0, slots := 0, locals := 44 }
theorem pdX0_countToHand : yX0_countToHand.cls = RX0 ∧ yX0_countToHand.cls ≠ "java/lang/invoke/MethodHandle" ∧ yX0_countToHand.cls ≠ "java/lang/invoke/VarHandle" ∧ (parseMethodDescriptor yX0_countToHand.desc).map (fun d => d.parameters.length) = some 2 := by decide +kernel
abbrev hsX1_isUpSide : List Cond := Cond.code yX1_isUpSide cX1_isUpSide 2 (some .boolean) :: hALL
abbrev rmX1_isUpSide : Room := { frames := 0, cells := 0, slots := 0, locals := 0 }
theorem pdX1_isUpSide : yX1_isUpSide.cls = RX1 ∧ yX1_isUpSide.cls ≠ "java/lang/invoke/MethodHandle" ∧ yX1_isUpSide.cls ≠ "java/lang/invoke/VarHandle" ∧ (parseMethodDescriptor yX1_isUpSide.desc).map (fun d => d.parameters.length) = some 1 := by decide +kernel
abbrev hsX0_goesOver : List Cond := Cond.code yX0_goesOver cX0_goesOver 4 (some .boolean) :: hALL
abbrev rmX0_goesOver : Room := { frames := 1, cells := 0, slots := 0, locals := 22 }
theorem pdX0_goesOver : yX0_goesOver.cls = RX0 ∧ yX0_goesOver.cls ≠ "java/lang/invoke/MethodHandle" ∧ yX0_goesOver.cls ≠ "java/lang/invoke/VarHandle" ∧ (parseMethodDescriptor yX0_goesOver.desc).map (fun d => d.parameters.length) = some 2 := by decide +kernel
abbrev hsX3_slipWith : List Cond := Cond.code yX3_slipWith cX3_slipWith 2 (some .int) :: hALL
abbrev rmX3_slipWith : Room := { frames := 0, cells := 0, slots := 0, locals := 0 }
theorem pdX3_slipWith : yX3_slipWith.cls = RX3 ∧ yX3_slipWith.cls ≠ "java/lang/invoke/MethodHandle" ∧ yX3_slipWith.cls ≠ "java/lang/invoke/VarHandle" ∧ (parseMethodDescriptor yX3_slipWith.desc).map (fun d => d.parameters.length) = some 2 := by decide +kernel
abbrev hsX0_placeOver : List Cond := Cond.code yX0_placeOver cX0_placeOver 4 none :: hALL
abbrev rmX0_placeOver : Room := { frames := 2, cells := 0, slots := 0, locals := 45 }
theorem pdX0_placeOver : yX0_placeOver.cls = RX0 ∧ yX0_placeOver.cls ≠ "java/lang/invoke/MethodHandle" ∧ yX0_placeOver.cls ≠ "java/lang/invoke/VarHandle" ∧ (parseMethodDescriptor yX0_placeOver.desc).map (fun d => d.parameters.length) = some 1 := by decide +kernel
abbrev hsX0_placeSlips : List Cond := Cond.code yX0_placeSlips cX0_placeSlips 3 none :: hALL
abbrev rmX0_placeSlips : Room := { frames := 3, cells := 0, slots := 0, locals := 68 }
theorem pdX0_placeSlips : yX0_placeSlips.cls = RX0 ∧ yX0_placeSlips.cls ≠ "java/lang/invoke/MethodHandle" ∧ yX0_placeSlips.cls ≠ "java/lang/invoke/VarHandle" ∧ (parseMethodDescriptor yX0_placeSlips.desc).map (fun d => d.parameters.length) = some 1 := by decide +kernel
abbrev hsX0_labelAhead : List Cond := Cond.code yX0_labelAhead cX0_labelAhead 9 (some .int) :: hALL
abbrev rmX0_labelAhead : Room := { frames := 1, cells := 0, slots := 0, locals := 22 }
theorem pdX0_labelAhead : yX0_labelAhead.cls = RX0 ∧ yX0_labelAhead.cls ≠ "java/lang/invoke/MethodHandle" ∧ yX0_labelAhead.cls ≠ "java/lang/invoke/VarHandle" ∧ (parseMethodDescriptor yX0_labelAhead.desc).map (fun d => d.parameters.length) = some 4 := by decide +kernel
abbrev hsX0_bitOf : List Cond := Cond.code yX0_bitOf cX0_bitOf 1 (some .int) :: hALL
abbrev rmX0_bitOf : Room := { frames := 0, cells := 0, slots := 0, locals := 0 }
theorem pdX0_bitOf : yX0_bitOf.cls = RX0 ∧ yX0_bitOf.cls ≠ "java/lang/invoke/MethodHandle" ∧ yX0_bitOf.cls ≠ "java/lang/invoke/VarHandle" ∧ (parseMethodDescriptor yX0_bitOf.desc).map (fun d => d.parameters.length) = some 1 := by decide +kernel
abbrev hsX0_leastFree : List Cond := Cond.code yX0_leastFree cX0_leastFree 2 (some .int) :: hALL
abbrev rmX0_leastFree : Room := { frames := 1, cells := 0, slots := 0, locals := 20 }
theorem pdX0_leastFree : yX0_leastFree.cls = RX0 ∧ yX0_leastFree.cls ≠ "java/lang/invoke/MethodHandle" ∧ yX0_leastFree.cls ≠ "java/lang/invoke/VarHandle" ∧ (parseMethodDescriptor yX0_leastFree.desc).map (fun d => d.parameters.length) = some 1 := by decide +kernel
abbrev hsX0_labelOver : List Cond := Cond.code yX0_labelOver cX0_labelOver 4 none :: hALL
abbrev rmX0_labelOver : Room := { frames := 1, cells := 0, slots := 0, locals := 21 }
theorem pdX0_labelOver : yX0_labelOver.cls = RX0 ∧ yX0_labelOver.cls ≠ "java/lang/invoke/MethodHandle" ∧ yX0_labelOver.cls ≠ "java/lang/invoke/VarHandle" ∧ (parseMethodDescriptor yX0_labelOver.desc).map (fun d => d.parameters.length) = some 1 := by decide +kernel
abbrev hsX0_fillRow : List Cond := Cond.code yX0_fillRow cX0_fillRow 6 none :: hALL
abbrev rmX0_fillRow : Room := { frames := 2, cells := 0, slots := 0, locals := 50 }
theorem pdX0_fillRow : yX0_fillRow.cls = RX0 ∧ yX0_fillRow.cls ≠ "java/lang/invoke/MethodHandle" ∧ yX0_fillRow.cls ≠ "java/lang/invoke/VarHandle" ∧ (parseMethodDescriptor yX0_fillRow.desc).map (fun d => d.parameters.length) = some 3 := by decide +kernel
abbrev hsX0_fillRows : List Cond := Cond.code yX0_fillRows cX0_fillRows 3 none :: hALL
abbrev rmX0_fillRows : Room := { frames := 3, cells := 0, slots := 0, locals := 75 }
theorem pdX0_fillRows : yX0_fillRows.cls = RX0 ∧ yX0_fillRows.cls ≠ "java/lang/invoke/MethodHandle" ∧ yX0_fillRows.cls ≠ "java/lang/invoke/VarHandle" ∧ (parseMethodDescriptor yX0_fillRows.desc).map (fun d => d.parameters.length) = some 1 := by decide +kernel
abbrev hsX0_takeFresh : List Cond := Cond.code yX0_takeFresh cX0_takeFresh 3 (some .boolean) :: hALL
abbrev rmX0_takeFresh : Room := { frames := 1, cells := 0, slots := 0, locals := 21 }
theorem pdX0_takeFresh : yX0_takeFresh.cls = RX0 ∧ yX0_takeFresh.cls ≠ "java/lang/invoke/MethodHandle" ∧ yX0_takeFresh.cls ≠ "java/lang/invoke/VarHandle" ∧ (parseMethodDescriptor yX0_takeFresh.desc).map (fun d => d.parameters.length) = some 0 := by decide +kernel
abbrev hsX0_slipToKeep : List Cond := Cond.code yX0_slipToKeep cX0_slipToKeep 4 (some .int) :: hALL
abbrev rmX0_slipToKeep : Room := { frames := 1, cells := 0, slots := 0, locals := 22 }
theorem pdX0_slipToKeep : yX0_slipToKeep.cls = RX0 ∧ yX0_slipToKeep.cls ≠ "java/lang/invoke/MethodHandle" ∧ yX0_slipToKeep.cls ≠ "java/lang/invoke/VarHandle" ∧ (parseMethodDescriptor yX0_slipToKeep.desc).map (fun d => d.parameters.length) = some 2 := by decide +kernel
abbrev hsX0_keepAll : List Cond := Cond.code yX0_keepAll cX0_keepAll 5 (some .boolean) :: hALL
abbrev rmX0_keepAll : Room := { frames := 2, cells := 0, slots := 0, locals := 45 }
theorem pdX0_keepAll : yX0_keepAll.cls = RX0 ∧ yX0_keepAll.cls ≠ "java/lang/invoke/MethodHandle" ∧ yX0_keepAll.cls ≠ "java/lang/invoke/VarHandle" ∧ (parseMethodDescriptor yX0_keepAll.desc).map (fun d => d.parameters.length) = some 0 := by decide +kernel
abbrev hsX0_tick : List Cond := Cond.code yX0_tick cX0_tick 2 (some .int) :: hALL
abbrev rmX0_tick : Room := { frames := 4, cells := 0, slots := 0, locals := 97 }
theorem pdX0_tick : yX0_tick.cls = RX0 ∧ yX0_tick.cls ≠ "java/lang/invoke/MethodHandle" ∧ yX0_tick.cls ≠ "java/lang/invoke/VarHandle" ∧ (parseMethodDescriptor yX0_tick.desc).map (fun d => d.parameters.length) = some 0 := by decide +kernel
abbrev hsX0_runTicks : List Cond := Cond.code yX0_runTicks cX0_runTicks 4 (some .int) :: hALL
abbrev rmX0_runTicks : Room := { frames := 5, cells := 0, slots := 0, locals := 118 }
theorem pdX0_runTicks : yX0_runTicks.cls = RX0 ∧ yX0_runTicks.cls ≠ "java/lang/invoke/MethodHandle" ∧ yX0_runTicks.cls ≠ "java/lang/invoke/VarHandle" ∧ (parseMethodDescriptor yX0_runTicks.desc).map (fun d => d.parameters.length) = some 1 := by decide +kernel
abbrev hsX0_ticksTillStill : List Cond := Cond.code yX0_ticksTillStill cX0_ticksTillStill 3 (some .int) :: hALL
abbrev rmX0_ticksTillStill : Room := { frames := 5, cells := 0, slots := 0, locals := 118 }
theorem pdX0_ticksTillStill : yX0_ticksTillStill.cls = RX0 ∧ yX0_ticksTillStill.cls ≠ "java/lang/invoke/MethodHandle" ∧ yX0_ticksTillStill.cls ≠ "java/lang/invoke/VarHandle" ∧ (parseMethodDescriptor yX0_ticksTillStill.desc).map (fun d => d.parameters.length) = some 0 := by decide +kernel
abbrev hsX1_isLink : List Cond := Cond.code yX1_isLink cX1_isLink 2 (some .boolean) :: hALL
abbrev rmX1_isLink : Room := { frames := 0, cells := 0, slots := 0, locals := 0 }
theorem pdX1_isLink : yX1_isLink.cls = RX1 ∧ yX1_isLink.cls ≠ "java/lang/invoke/MethodHandle" ∧ yX1_isLink.cls ≠ "java/lang/invoke/VarHandle" ∧ (parseMethodDescriptor yX1_isLink.desc).map (fun d => d.parameters.length) = some 1 := by decide +kernel
abbrev hsX1_sideAt : List Cond := Cond.code yX1_sideAt cX1_sideAt 3 (some .int) :: hALL
abbrev rmX1_sideAt : Room := { frames := 0, cells := 0, slots := 0, locals := 0 }
theorem pdX1_sideAt : yX1_sideAt.cls = RX1 ∧ yX1_sideAt.cls ≠ "java/lang/invoke/MethodHandle" ∧ yX1_sideAt.cls ≠ "java/lang/invoke/VarHandle" ∧ (parseMethodDescriptor yX1_sideAt.desc).map (fun d => d.parameters.length) = some 2 := by decide +kernel
abbrev hsX1_joined : List Cond := Cond.code yX1_joined cX1_joined 4 (some .boolean) :: hALL
abbrev rmX1_joined : Room := { frames := 1, cells := 0, slots := 0, locals := 22 }
theorem pdX1_joined : yX1_joined.cls = RX1 ∧ yX1_joined.cls ≠ "java/lang/invoke/MethodHandle" ∧ yX1_joined.cls ≠ "java/lang/invoke/VarHandle" ∧ (parseMethodDescriptor yX1_joined.desc).map (fun d => d.parameters.length) = some 2 := by decide +kernel
abbrev hsX1_shorten : List Cond := Cond.code yX1_shorten cX1_shorten 7 (some .boolean) :: hALL
abbrev rmX1_shorten : Room := { frames := 1, cells := 0, slots := 0, locals := 21 }
theorem pdX1_shorten : yX1_shorten.cls = RX1 ∧ yX1_shorten.cls ≠ "java/lang/invoke/MethodHandle" ∧ yX1_shorten.cls ≠ "java/lang/invoke/VarHandle" ∧ (parseMethodDescriptor yX1_shorten.desc).map (fun d => d.parameters.length) = some 1 := by decide +kernel
abbrev hsX1_leadsOn : List Cond := Cond.code yX1_leadsOn cX1_leadsOn 4 (some .boolean) :: hALL
abbrev rmX1_leadsOn : Room := { frames := 1, cells := 0, slots := 0, locals := 21 }
theorem pdX1_leadsOn : yX1_leadsOn.cls = RX1 ∧ yX1_leadsOn.cls ≠ "java/lang/invoke/MethodHandle" ∧ yX1_leadsOn.cls ≠ "java/lang/invoke/VarHandle" ∧ (parseMethodDescriptor yX1_leadsOn.desc).map (fun d => d.parameters.length) = some 2 := by decide +kernel
abbrev hsX1_findNextSide : List Cond := Cond.code yX1_findNextSide cX1_findNextSide 5 (some .int) :: hALL
abbrev rmX1_findNextSide : Room := { frames := 2, cells := 0, slots := 0, locals := 44 }
theorem pdX1_findNextSide : yX1_findNextSide.cls = RX1 ∧ yX1_findNextSide.cls ≠ "java/lang/invoke/MethodHandle" ∧ yX1_findNextSide.cls ≠ "java/lang/invoke/VarHandle" ∧ (parseMethodDescriptor yX1_findNextSide.desc).map (fun d => d.parameters.length) = some 2 := by decide +kernel
abbrev hsX1_findWaysOf : List Cond := Cond.code yX1_findWaysOf cX1_findWaysOf 4 none :: hALL
abbrev rmX1_findWaysOf : Room := { frames := 3, cells := 0, slots := 0, locals := 68 }
theorem pdX1_findWaysOf : yX1_findWaysOf.cls = RX1 ∧ yX1_findWaysOf.cls ≠ "java/lang/invoke/MethodHandle" ∧ yX1_findWaysOf.cls ≠ "java/lang/invoke/VarHandle" ∧ (parseMethodDescriptor yX1_findWaysOf.desc).map (fun d => d.parameters.length) = some 1 := by decide +kernel
abbrev hsX1_findWays : List Cond := Cond.code yX1_findWays cX1_findWays 2 none :: hALL
abbrev rmX1_findWays : Room := { frames := 4, cells := 0, slots := 0, locals := 91 }
theorem pdX1_findWays : yX1_findWays.cls = RX1 ∧ yX1_findWays.cls ≠ "java/lang/invoke/MethodHandle" ∧ yX1_findWays.cls ≠ "java/lang/invoke/VarHandle" ∧ (parseMethodDescriptor yX1_findWays.desc).map (fun d => d.parameters.length) = some 0 := by decide +kernel
abbrev hsX1_addLink : List Cond := Cond.code yX1_addLink cX1_addLink 5 (some .int) :: hALL
abbrev rmX1_addLink : Room := { frames := 5, cells := 0, slots := 0, locals := 112 }
theorem pdX1_addLink : yX1_addLink.cls = RX1 ∧ yX1_addLink.cls ≠ "java/lang/invoke/MethodHandle" ∧ yX1_addLink.cls ≠ "java/lang/invoke/VarHandle" ∧ (parseMethodDescriptor yX1_addLink.desc).map (fun d => d.parameters.length) = some 3 := by decide +kernel
abbrev hsX1_setCost : List Cond := Cond.code yX1_setCost cX1_setCost 3 none :: hALL
abbrev rmX1_setCost : Room := { frames := 5, cells := 0, slots := 0, locals := 112 }
theorem pdX1_setCost : yX1_setCost.cls = RX1 ∧ yX1_setCost.cls ≠ "java/lang/invoke/MethodHandle" ∧ yX1_setCost.cls ≠ "java/lang/invoke/VarHandle" ∧ (parseMethodDescriptor yX1_setCost.desc).map (fun d => d.parameters.length) = some 2 := by decide +kernel
abbrev hsX1_setUp : List Cond := Cond.code yX1_setUp cX1_setUp 3 none :: hALL
abbrev rmX1_setUp : Room := { frames := 5, cells := 0, slots := 0, locals := 112 }
theorem pdX1_setUp : yX1_setUp.cls = RX1 ∧ yX1_setUp.cls ≠ "java/lang/invoke/MethodHandle" ∧ yX1_setUp.cls ≠ "java/lang/invoke/VarHandle" ∧ (parseMethodDescriptor yX1_setUp.desc).map (fun d => d.parameters.length) = some 2 := by decide +kernel
abbrev hsX1_setEnd : List Cond := Cond.code yX1_setEnd cX1_setEnd 3 none :: hALL
abbrev rmX1_setEnd : Room := { frames := 4, cells := 0, slots := 0, locals := 91 }
theorem pdX1_setEnd : yX1_setEnd.cls = RX1 ∧ yX1_setEnd.cls ≠ "java/lang/invoke/MethodHandle" ∧ yX1_setEnd.cls ≠ "java/lang/invoke/VarHandle" ∧ (parseMethodDescriptor yX1_setEnd.desc).map (fun d => d.parameters.length) = some 2 := by decide +kernel
abbrev hsX1_nextBox : List Cond := Cond.code yX1_nextBox cX1_nextBox 4 (some .int) :: hALL
abbrev rmX1_nextBox : Room := { frames := 1, cells := 0, slots := 0, locals := 21 }
theorem pdX1_nextBox : yX1_nextBox.cls = RX1 ∧ yX1_nextBox.cls ≠ "java/lang/invoke/MethodHandle" ∧ yX1_nextBox.cls ≠ "java/lang/invoke/VarHandle" ∧ (parseMethodDescriptor yX1_nextBox.desc).map (fun d => d.parameters.length) = some 2 := by decide +kernel
abbrev hsX1_linksUp : List Cond := Cond.code yX1_linksUp cX1_linksUp 3 (some .int) :: hALL
abbrev rmX1_linksUp : Room := { frames := 0, cells := 0, slots := 0, locals := 0 }
theorem pdX1_linksUp : yX1_linksUp.cls = RX1 ∧ yX1_linksUp.cls ≠ "java/lang/invoke/MethodHandle" ∧ yX1_linksUp.cls ≠ "java/lang/invoke/VarHandle" ∧ (parseMethodDescriptor yX1_linksUp.desc).map (fun d => d.parameters.length) = some 0 := by decide +kernel
abbrev hsX1_classesWithEnd : List Cond := Cond.code yX1_classesWithEnd cX1_classesWithEnd 3 (some .int) :: hALL
abbrev rmX1_classesWithEnd : Room := { frames := 0, cells := 0, slots := 0, locals := 0 }
theorem pdX1_classesWithEnd : yX1_classesWithEnd.cls = RX1 ∧ yX1_classesWithEnd.cls ≠ "java/lang/invoke/MethodHandle" ∧ yX1_classesWithEnd.cls ≠ "java/lang/invoke/VarHandle" ∧ (parseMethodDescriptor yX1_classesWithEnd.desc).map (fun d => d.parameters.length) = some 0 := by decide +kernel
abbrev hsX2_walk : List Cond := Cond.code yX2_walk cX2_walk 10 (some .int) :: hALL
abbrev rmX2_walk : Room := { frames := 2, cells := 0, slots := 0, locals := 50 }
theorem pdX2_walk : yX2_walk.cls = RX2 ∧ yX2_walk.cls ≠ "java/lang/invoke/MethodHandle" ∧ yX2_walk.cls ≠ "java/lang/invoke/VarHandle" ∧ (parseMethodDescriptor yX2_walk.desc).map (fun d => d.parameters.length) = some 2 := by decide +kernel
abbrev hsX2_labelledBetween : List Cond := Cond.code yX2_labelledBetween cX2_labelledBetween 2 (some .boolean) :: hALL
abbrev rmX2_labelledBetween : Room := { frames := 0, cells := 0, slots := 0, locals := 0 }
theorem pdX2_labelledBetween : yX2_labelledBetween.cls = RX2 ∧ yX2_labelledBetween.cls ≠ "java/lang/invoke/MethodHandle" ∧ yX2_labelledBetween.cls ≠ "java/lang/invoke/VarHandle" ∧ (parseMethodDescriptor yX2_labelledBetween.desc).map (fun d => d.parameters.length) = some 0 := by decide +kernel
abbrev hsX3_isBox : List Cond := Cond.code yX3_isBox cX3_isBox 1 (some .boolean) :: hALL
abbrev rmX3_isBox : Room := { frames := 0, cells := 0, slots := 0, locals := 0 }
theorem pdX3_isBox : yX3_isBox.cls = RX3 ∧ yX3_isBox.cls ≠ "java/lang/invoke/MethodHandle" ∧ yX3_isBox.cls ≠ "java/lang/invoke/VarHandle" ∧ (parseMethodDescriptor yX3_isBox.desc).map (fun d => d.parameters.length) = some 1 := by decide +kernel
abbrev hsX3_isCost : List Cond := Cond.code yX3_isCost cX3_isCost 1 (some .boolean) :: hALL
abbrev rmX3_isCost : Room := { frames := 0, cells := 0, slots := 0, locals := 0 }
theorem pdX3_isCost : yX3_isCost.cls = RX3 ∧ yX3_isCost.cls ≠ "java/lang/invoke/MethodHandle" ∧ yX3_isCost.cls ≠ "java/lang/invoke/VarHandle" ∧ (parseMethodDescriptor yX3_isCost.desc).map (fun d => d.parameters.length) = some 1 := by decide +kernel
abbrev hsX3_link : List Cond := Cond.code yX3_link cX3_link 4 (some .int) :: hALL
abbrev rmX3_link : Room := { frames := 6, cells := 0, slots := 0, locals := 136 }
theorem pdX3_link : yX3_link.cls = RX3 ∧ yX3_link.cls ≠ "java/lang/invoke/MethodHandle" ∧ yX3_link.cls ≠ "java/lang/invoke/VarHandle" ∧ (parseMethodDescriptor yX3_link.desc).map (fun d => d.parameters.length) = some 3 := by decide +kernel
abbrev hsX3_cost : List Cond := Cond.code yX3_cost cX3_cost 4 (some .int) :: hALL
abbrev rmX3_cost : Room := { frames := 6, cells := 0, slots := 0, locals := 134 }
theorem pdX3_cost : yX3_cost.cls = RX3 ∧ yX3_cost.cls ≠ "java/lang/invoke/MethodHandle" ∧ yX3_cost.cls ≠ "java/lang/invoke/VarHandle" ∧ (parseMethodDescriptor yX3_cost.desc).map (fun d => d.parameters.length) = some 2 := by decide +kernel
abbrev hsX3_isYesNo : List Cond := Cond.code yX3_isYesNo cX3_isYesNo 1 (some .boolean) :: hALL
abbrev rmX3_isYesNo : Room := { frames := 0, cells := 0, slots := 0, locals := 0 }
theorem pdX3_isYesNo : yX3_isYesNo.cls = RX3 ∧ yX3_isYesNo.cls ≠ "java/lang/invoke/MethodHandle" ∧ yX3_isYesNo.cls ≠ "java/lang/invoke/VarHandle" ∧ (parseMethodDescriptor yX3_isYesNo.desc).map (fun d => d.parameters.length) = some 1 := by decide +kernel
abbrev hsX3_up : List Cond := Cond.code yX3_up cX3_up 4 (some .int) :: hALL
abbrev rmX3_up : Room := { frames := 6, cells := 0, slots := 0, locals := 134 }
theorem pdX3_up : yX3_up.cls = RX3 ∧ yX3_up.cls ≠ "java/lang/invoke/MethodHandle" ∧ yX3_up.cls ≠ "java/lang/invoke/VarHandle" ∧ (parseMethodDescriptor yX3_up.desc).map (fun d => d.parameters.length) = some 2 := by decide +kernel
abbrev hsX3_isClass : List Cond := Cond.code yX3_isClass cX3_isClass 1 (some .boolean) :: hALL
abbrev rmX3_isClass : Room := { frames := 0, cells := 0, slots := 0, locals := 0 }
theorem pdX3_isClass : yX3_isClass.cls = RX3 ∧ yX3_isClass.cls ≠ "java/lang/invoke/MethodHandle" ∧ yX3_isClass.cls ≠ "java/lang/invoke/VarHandle" ∧ (parseMethodDescriptor yX3_isClass.desc).map (fun d => d.parameters.length) = some 1 := by decide +kernel
abbrev hsX3_end : List Cond := Cond.code yX3_end cX3_end 4 (some .int) :: hALL
abbrev rmX3_end : Room := { frames := 5, cells := 0, slots := 0, locals := 113 }
theorem pdX3_end : yX3_end.cls = RX3 ∧ yX3_end.cls ≠ "java/lang/invoke/MethodHandle" ∧ yX3_end.cls ≠ "java/lang/invoke/VarHandle" ∧ (parseMethodDescriptor yX3_end.desc).map (fun d => d.parameters.length) = some 2 := by decide +kernel
abbrev hsX3_ofLink : List Cond := Cond.code yX3_ofLink cX3_ofLink 3 (some .int) :: hALL
abbrev rmX3_ofLink : Room := { frames := 1, cells := 0, slots := 0, locals := 21 }
theorem pdX3_ofLink : yX3_ofLink.cls = RX3 ∧ yX3_ofLink.cls ≠ "java/lang/invoke/MethodHandle" ∧ yX3_ofLink.cls ≠ "java/lang/invoke/VarHandle" ∧ (parseMethodDescriptor yX3_ofLink.desc).map (fun d => d.parameters.length) = some 2 := by decide +kernel
abbrev hsX3_next : List Cond := Cond.code yX3_next cX3_next 3 (some .int) :: hALL
abbrev rmX3_next : Room := { frames := 2, cells := 0, slots := 0, locals := 44 }
theorem pdX3_next : yX3_next.cls = RX3 ∧ yX3_next.cls ≠ "java/lang/invoke/MethodHandle" ∧ yX3_next.cls ≠ "java/lang/invoke/VarHandle" ∧ (parseMethodDescriptor yX3_next.desc).map (fun d => d.parameters.length) = some 2 := by decide +kernel
abbrev hsX3_far : List Cond := Cond.code yX3_far cX3_far 3 (some .int) :: hALL
abbrev rmX3_far : Room := { frames := 1, cells := 0, slots := 0, locals := 21 }
theorem pdX3_far : yX3_far.cls = RX3 ∧ yX3_far.cls ≠ "java/lang/invoke/MethodHandle" ∧ yX3_far.cls ≠ "java/lang/invoke/VarHandle" ∧ (parseMethodDescriptor yX3_far.desc).map (fun d => d.parameters.length) = some 2 := by decide +kernel
abbrev hsX3_mode : List Cond := Cond.code yX3_mode cX3_mode 4 (some .int) :: hALL
abbrev rmX3_mode : Room := { frames := 3, cells := 0, slots := 0, locals := 67 }
theorem pdX3_mode : yX3_mode.cls = RX3 ∧ yX3_mode.cls ≠ "java/lang/invoke/MethodHandle" ∧ yX3_mode.cls ≠ "java/lang/invoke/VarHandle" ∧ (parseMethodDescriptor yX3_mode.desc).map (fun d => d.parameters.length) = some 3 := by decide +kernel
abbrev hsX3_setting : List Cond := Cond.code yX3_setting cX3_setting 4 (some .int) :: hALL
abbrev rmX3_setting : Room := { frames := 1, cells := 0, slots := 0, locals := 20 }
theorem pdX3_setting : yX3_setting.cls = RX3 ∧ yX3_setting.cls ≠ "java/lang/invoke/MethodHandle" ∧ yX3_setting.cls ≠ "java/lang/invoke/VarHandle" ∧ (parseMethodDescriptor yX3_setting.desc).map (fun d => d.parameters.length) = some 2 := by decide +kernel
abbrev hsX3_ticks : List Cond := Cond.code yX3_ticks cX3_ticks 2 (some .int) :: hALL
abbrev rmX3_ticks : Room := { frames := 6, cells := 0, slots := 0, locals := 141 }
theorem pdX3_ticks : yX3_ticks.cls = RX3 ∧ yX3_ticks.cls ≠ "java/lang/invoke/MethodHandle" ∧ yX3_ticks.cls ≠ "java/lang/invoke/VarHandle" ∧ (parseMethodDescriptor yX3_ticks.desc).map (fun d => d.parameters.length) = some 1 := by decide +kernel
abbrev hsX3_sideFor : List Cond := Cond.code yX3_sideFor cX3_sideFor 3 (some .int) :: hALL
abbrev rmX3_sideFor : Room := { frames := 1, cells := 0, slots := 0, locals := 22 }
theorem pdX3_sideFor : yX3_sideFor.cls = RX3 ∧ yX3_sideFor.cls ≠ "java/lang/invoke/MethodHandle" ∧ yX3_sideFor.cls ≠ "java/lang/invoke/VarHandle" ∧ (parseMethodDescriptor yX3_sideFor.desc).map (fun d => d.parameters.length) = some 2 := by decide +kernel
abbrev hsX3_partOf : List Cond := Cond.code yX3_partOf cX3_partOf 2 (some .int) :: hALL
abbrev rmX3_partOf : Room := { frames := 1, cells := 0, slots := 0, locals := 20 }
theorem pdX3_partOf : yX3_partOf.cls = RX3 ∧ yX3_partOf.cls ≠ "java/lang/invoke/MethodHandle" ∧ yX3_partOf.cls ≠ "java/lang/invoke/VarHandle" ∧ (parseMethodDescriptor yX3_partOf.desc).map (fun d => d.parameters.length) = some 2 := by decide +kernel
abbrev hsX3_handed : List Cond := Cond.code yX3_handed cX3_handed 6 (some .int) :: hALL
abbrev rmX3_handed : Room := { frames := 2, cells := 0, slots := 0, locals := 44 }
theorem pdX3_handed : yX3_handed.cls = RX3 ∧ yX3_handed.cls ≠ "java/lang/invoke/MethodHandle" ∧ yX3_handed.cls ≠ "java/lang/invoke/VarHandle" ∧ (parseMethodDescriptor yX3_handed.desc).map (fun d => d.parameters.length) = some 4 := by decide +kernel
abbrev hsX3_kept : List Cond := Cond.code yX3_kept cX3_kept 6 (some .int) :: hALL
abbrev rmX3_kept : Room := { frames := 2, cells := 0, slots := 0, locals := 44 }
theorem pdX3_kept : yX3_kept.cls = RX3 ∧ yX3_kept.cls ≠ "java/lang/invoke/MethodHandle" ∧ yX3_kept.cls ≠ "java/lang/invoke/VarHandle" ∧ (parseMethodDescriptor yX3_kept.desc).map (fun d => d.parameters.length) = some 4 := by decide +kernel
abbrev hsX3_used : List Cond := Cond.code yX3_used cX3_used 4 (some .int) :: hALL
abbrev rmX3_used : Room := { frames := 2, cells := 0, slots := 0, locals := 44 }
theorem pdX3_used : yX3_used.cls = RX3 ∧ yX3_used.cls ≠ "java/lang/invoke/MethodHandle" ∧ yX3_used.cls ≠ "java/lang/invoke/VarHandle" ∧ (parseMethodDescriptor yX3_used.desc).map (fun d => d.parameters.length) = some 2 := by decide +kernel
abbrev hsX3_meaning : List Cond := Cond.code yX3_meaning cX3_meaning 6 (some .int) :: hALL
abbrev rmX3_meaning : Room := { frames := 2, cells := 0, slots := 0, locals := 50 }
theorem pdX3_meaning : yX3_meaning.cls = RX3 ∧ yX3_meaning.cls ≠ "java/lang/invoke/MethodHandle" ∧ yX3_meaning.cls ≠ "java/lang/invoke/VarHandle" ∧ (parseMethodDescriptor yX3_meaning.desc).map (fun d => d.parameters.length) = some 3 := by decide +kernel
abbrev hsX3_settles : List Cond := Cond.code yX3_settles cX3_settles 1 (some .int) :: hALL
abbrev rmX3_settles : Room := { frames := 6, cells := 0, slots := 0, locals := 140 }
theorem pdX3_settles : yX3_settles.cls = RX3 ∧ yX3_settles.cls ≠ "java/lang/invoke/MethodHandle" ∧ yX3_settles.cls ≠ "java/lang/invoke/VarHandle" ∧ (parseMethodDescriptor yX3_settles.desc).map (fun d => d.parameters.length) = some 0 := by decide +kernel
abbrev hsX3_letter : List Cond := Cond.code yX3_letter cX3_letter 3 (some .int) :: hALL
abbrev rmX3_letter : Room := { frames := 3, cells := 0, slots := 0, locals := 79 }
theorem pdX3_letter : yX3_letter.cls = RX3 ∧ yX3_letter.cls ≠ "java/lang/invoke/MethodHandle" ∧ yX3_letter.cls ≠ "java/lang/invoke/VarHandle" ∧ (parseMethodDescriptor yX3_letter.desc).map (fun d => d.parameters.length) = some 2 := by decide +kernel
abbrev hsX3_trace : List Cond := Cond.code yX3_trace cX3_trace 3 (some .int) :: hALL
abbrev rmX3_trace : Room := { frames := 0, cells := 0, slots := 0, locals := 0 }
theorem pdX3_trace : yX3_trace.cls = RX3 ∧ yX3_trace.cls ≠ "java/lang/invoke/MethodHandle" ∧ yX3_trace.cls ≠ "java/lang/invoke/VarHandle" ∧ (parseMethodDescriptor yX3_trace.desc).map (fun d => d.parameters.length) = some 2 := by decide +kernel
abbrev hsX3_isServed : List Cond := Cond.code yX3_isServed cX3_isServed 5 (some .boolean) :: hALL
abbrev rmX3_isServed : Room := { frames := 3, cells := 0, slots := 0, locals := 79 }
theorem pdX3_isServed : yX3_isServed.cls = RX3 ∧ yX3_isServed.cls ≠ "java/lang/invoke/MethodHandle" ∧ yX3_isServed.cls ≠ "java/lang/invoke/VarHandle" ∧ (parseMethodDescriptor yX3_isServed.desc).map (fun d => d.parameters.length) = some 3 := by decide +kernel
abbrev hsX3_served : List Cond := Cond.code yX3_served cX3_served 5 (some .int) :: hALL
abbrev rmX3_served : Room := { frames := 4, cells := 0, slots := 0, locals := 103 }
theorem pdX3_served : yX3_served.cls = RX3 ∧ yX3_served.cls ≠ "java/lang/invoke/MethodHandle" ∧ yX3_served.cls ≠ "java/lang/invoke/VarHandle" ∧ (parseMethodDescriptor yX3_served.desc).map (fun d => d.parameters.length) = some 2 := by decide +kernel
abbrev hsX3_merged : List Cond := Cond.code yX3_merged cX3_merged 5 (some .int) :: hALL
abbrev rmX3_merged : Room := { frames := 2, cells := 0, slots := 0, locals := 44 }
theorem pdX3_merged : yX3_merged.cls = RX3 ∧ yX3_merged.cls ≠ "java/lang/invoke/MethodHandle" ∧ yX3_merged.cls ≠ "java/lang/invoke/VarHandle" ∧ (parseMethodDescriptor yX3_merged.desc).map (fun d => d.parameters.length) = some 2 := by decide +kernel
abbrev hsX3_countSlips : List Cond := Cond.code yX3_countSlips cX3_countSlips 3 (some .int) :: hALL
abbrev rmX3_countSlips : Room := { frames := 0, cells := 0, slots := 0, locals := 0 }
theorem pdX3_countSlips : yX3_countSlips.cls = RX3 ∧ yX3_countSlips.cls ≠ "java/lang/invoke/MethodHandle" ∧ yX3_countSlips.cls ≠ "java/lang/invoke/VarHandle" ∧ (parseMethodDescriptor yX3_countSlips.desc).map (fun d => d.parameters.length) = some 1 := by decide +kernel
abbrev hsX3_many : List Cond := Cond.code yX3_many cX3_many 2 (some .int) :: hALL
abbrev rmX3_many : Room := { frames := 2, cells := 0, slots := 0, locals := 43 }
theorem pdX3_many : yX3_many.cls = RX3 ∧ yX3_many.cls ≠ "java/lang/invoke/MethodHandle" ∧ yX3_many.cls ≠ "java/lang/invoke/VarHandle" ∧ (parseMethodDescriptor yX3_many.desc).map (fun d => d.parameters.length) = some 1 := by decide +kernel
abbrev hsX4_within : List Cond := Cond.code yX4_within cX4_within 3 (some .boolean) :: hALL
abbrev rmX4_within : Room := { frames := 0, cells := 0, slots := 0, locals := 0 }
theorem pdX4_within : yX4_within.cls = RX4 ∧ yX4_within.cls ≠ "java/lang/invoke/MethodHandle" ∧ yX4_within.cls ≠ "java/lang/invoke/VarHandle" ∧ (parseMethodDescriptor yX4_within.desc).map (fun d => d.parameters.length) = some 3 := by decide +kernel
abbrev hsX4_isBox : List Cond := Cond.code yX4_isBox cX4_isBox 1 (some .boolean) :: hALL
abbrev rmX4_isBox : Room := { frames := 1, cells := 0, slots := 0, locals := 22 }
theorem pdX4_isBox : yX4_isBox.cls = RX4 ∧ yX4_isBox.cls ≠ "java/lang/invoke/MethodHandle" ∧ yX4_isBox.cls ≠ "java/lang/invoke/VarHandle" ∧ (parseMethodDescriptor yX4_isBox.desc).map (fun d => d.parameters.length) = some 1 := by decide +kernel
abbrev hsX4_isClass : List Cond := Cond.code yX4_isClass cX4_isClass 1 (some .boolean) :: hALL
abbrev rmX4_isClass : Room := { frames := 1, cells := 0, slots := 0, locals := 22 }
theorem pdX4_isClass : yX4_isClass.cls = RX4 ∧ yX4_isClass.cls ≠ "java/lang/invoke/MethodHandle" ∧ yX4_isClass.cls ≠ "java/lang/invoke/VarHandle" ∧ (parseMethodDescriptor yX4_isClass.desc).map (fun d => d.parameters.length) = some 1 := by decide +kernel
abbrev hsX4_isLink : List Cond := Cond.code yX4_isLink cX4_isLink 2 (some .boolean) :: hALL
abbrev rmX4_isLink : Room := { frames := 1, cells := 0, slots := 0, locals := 22 }
theorem pdX4_isLink : yX4_isLink.cls = RX4 ∧ yX4_isLink.cls ≠ "java/lang/invoke/MethodHandle" ∧ yX4_isLink.cls ≠ "java/lang/invoke/VarHandle" ∧ (parseMethodDescriptor yX4_isLink.desc).map (fun d => d.parameters.length) = some 1 := by decide +kernel
abbrev hsX4_linkBetween : List Cond := Cond.code yX4_linkBetween cX4_linkBetween 4 (some .int) :: hALL
abbrev rmX4_linkBetween : Room := { frames := 0, cells := 0, slots := 0, locals := 0 }
theorem pdX4_linkBetween : yX4_linkBetween.cls = RX4 ∧ yX4_linkBetween.cls ≠ "java/lang/invoke/MethodHandle" ∧ yX4_linkBetween.cls ≠ "java/lang/invoke/VarHandle" ∧ (parseMethodDescriptor yX4_linkBetween.desc).map (fun d => d.parameters.length) = some 2 := by decide +kernel
abbrev hsX4_isAt : List Cond := Cond.code yX4_isAt cX4_isAt 3 (some .boolean) :: hALL
abbrev rmX4_isAt : Room := { frames := 0, cells := 0, slots := 0, locals := 0 }
theorem pdX4_isAt : yX4_isAt.cls = RX4 ∧ yX4_isAt.cls ≠ "java/lang/invoke/MethodHandle" ∧ yX4_isAt.cls ≠ "java/lang/invoke/VarHandle" ∧ (parseMethodDescriptor yX4_isAt.desc).map (fun d => d.parameters.length) = some 2 := by decide +kernel
abbrev hsX4_otherOf : List Cond := Cond.code yX4_otherOf cX4_otherOf 3 (some .int) :: hALL
abbrev rmX4_otherOf : Room := { frames := 0, cells := 0, slots := 0, locals := 0 }
theorem pdX4_otherOf : yX4_otherOf.cls = RX4 ∧ yX4_otherOf.cls ≠ "java/lang/invoke/MethodHandle" ∧ yX4_otherOf.cls ≠ "java/lang/invoke/VarHandle" ∧ (parseMethodDescriptor yX4_otherOf.desc).map (fun d => d.parameters.length) = some 2 := by decide +kernel
abbrev hsX4_link : List Cond := Cond.code yX4_link cX4_link 4 (some .int) :: hALL
abbrev rmX4_link : Room := { frames := 2, cells := 0, slots := 0, locals := 42 }
theorem pdX4_link : yX4_link.cls = RX4 ∧ yX4_link.cls ≠ "java/lang/invoke/MethodHandle" ∧ yX4_link.cls ≠ "java/lang/invoke/VarHandle" ∧ (parseMethodDescriptor yX4_link.desc).map (fun d => d.parameters.length) = some 3 := by decide +kernel
abbrev hsX4_cost : List Cond := Cond.code yX4_cost cX4_cost 4 (some .int) :: hALL
abbrev rmX4_cost : Room := { frames := 2, cells := 0, slots := 0, locals := 43 }
theorem pdX4_cost : yX4_cost.cls = RX4 ∧ yX4_cost.cls ≠ "java/lang/invoke/MethodHandle" ∧ yX4_cost.cls ≠ "java/lang/invoke/VarHandle" ∧ (parseMethodDescriptor yX4_cost.desc).map (fun d => d.parameters.length) = some 2 := by decide +kernel
abbrev hsX4_up : List Cond := Cond.code yX4_up cX4_up 5 (some .int) :: hALL
abbrev rmX4_up : Room := { frames := 2, cells := 0, slots := 0, locals := 43 }
theorem pdX4_up : yX4_up.cls = RX4 ∧ yX4_up.cls ≠ "java/lang/invoke/MethodHandle" ∧ yX4_up.cls ≠ "java/lang/invoke/VarHandle" ∧ (parseMethodDescriptor yX4_up.desc).map (fun d => d.parameters.length) = some 2 := by decide +kernel
abbrev hsX4_end : List Cond := Cond.code yX4_end cX4_end 4 (some .int) :: hALL
abbrev rmX4_end : Room := { frames := 2, cells := 0, slots := 0, locals := 42 }
theorem pdX4_end : yX4_end.cls = RX4 ∧ yX4_end.cls ≠ "java/lang/invoke/MethodHandle" ∧ yX4_end.cls ≠ "java/lang/invoke/VarHandle" ∧ (parseMethodDescriptor yX4_end.desc).map (fun d => d.parameters.length) = some 2 := by decide +kernel
abbrev hsX4_ofLink : List Cond := Cond.code yX4_ofLink cX4_ofLink 3 (some .int) :: hALL
abbrev rmX4_ofLink : Room := { frames := 2, cells := 0, slots := 0, locals := 43 }
theorem pdX4_ofLink : yX4_ofLink.cls = RX4 ∧ yX4_ofLink.cls ≠ "java/lang/invoke/MethodHandle" ∧ yX4_ofLink.cls ≠ "java/lang/invoke/VarHandle" ∧ (parseMethodDescriptor yX4_ofLink.desc).map (fun d => d.parameters.length) = some 2 := by decide +kernel
abbrev hsX4_findFar : List Cond := Cond.code yX4_findFar cX4_findFar 6 none :: hALL
abbrev rmX4_findFar : Room := { frames := 0, cells := 0, slots := 0, locals := 0 }
theorem pdX4_findFar : yX4_findFar.cls = RX4 ∧ yX4_findFar.cls ≠ "java/lang/invoke/MethodHandle" ∧ yX4_findFar.cls ≠ "java/lang/invoke/VarHandle" ∧ (parseMethodDescriptor yX4_findFar.desc).map (fun d => d.parameters.length) = some 1 := by decide +kernel
abbrev hsX4_nextOf : List Cond := Cond.code yX4_nextOf cX4_nextOf 5 (some .int) :: hALL
abbrev rmX4_nextOf : Room := { frames := 1, cells := 0, slots := 0, locals := 25 }
theorem pdX4_nextOf : yX4_nextOf.cls = RX4 ∧ yX4_nextOf.cls ≠ "java/lang/invoke/MethodHandle" ∧ yX4_nextOf.cls ≠ "java/lang/invoke/VarHandle" ∧ (parseMethodDescriptor yX4_nextOf.desc).map (fun d => d.parameters.length) = some 2 := by decide +kernel
abbrev hsX4_next : List Cond := Cond.code yX4_next cX4_next 3 (some .int) :: hALL
abbrev rmX4_next : Room := { frames := 2, cells := 0, slots := 0, locals := 49 }
theorem pdX4_next : yX4_next.cls = RX4 ∧ yX4_next.cls ≠ "java/lang/invoke/MethodHandle" ∧ yX4_next.cls ≠ "java/lang/invoke/VarHandle" ∧ (parseMethodDescriptor yX4_next.desc).map (fun d => d.parameters.length) = some 2 := by decide +kernel
abbrev hsX4_far : List Cond := Cond.code yX4_far cX4_far 3 (some .int) :: hALL
abbrev rmX4_far : Room := { frames := 2, cells := 0, slots := 0, locals := 42 }
theorem pdX4_far : yX4_far.cls = RX4 ∧ yX4_far.cls ≠ "java/lang/invoke/MethodHandle" ∧ yX4_far.cls ≠ "java/lang/invoke/VarHandle" ∧ (parseMethodDescriptor yX4_far.desc).map (fun d => d.parameters.length) = some 2 := by decide +kernel
abbrev hsX4_at : List Cond := Cond.code yX4_at cX4_at 3 (some .int) :: hALL
abbrev rmX4_at : Room := { frames := 0, cells := 0, slots := 0, locals := 0 }
theorem pdX4_at : yX4_at.cls = RX4 ∧ yX4_at.cls ≠ "java/lang/invoke/MethodHandle" ∧ yX4_at.cls ≠ "java/lang/invoke/VarHandle" ∧ (parseMethodDescriptor yX4_at.desc).map (fun d => d.parameters.length) = some 3 := by decide +kernel
abbrev hsX4_is : List Cond := Cond.code yX4_is cX4_is 3 (some .boolean) :: hALL
abbrev rmX4_is : Room := { frames := 0, cells := 0, slots := 0, locals := 0 }
theorem pdX4_is : yX4_is.cls = RX4 ∧ yX4_is.cls ≠ "java/lang/invoke/MethodHandle" ∧ yX4_is.cls ≠ "java/lang/invoke/VarHandle" ∧ (parseMethodDescriptor yX4_is.desc).map (fun d => d.parameters.length) = some 2 := by decide +kernel
abbrev hsX4_mode : List Cond := Cond.code yX4_mode cX4_mode 6 (some .int) :: hALL
abbrev rmX4_mode : Room := { frames := 2, cells := 0, slots := 0, locals := 42 }
theorem pdX4_mode : yX4_mode.cls = RX4 ∧ yX4_mode.cls ≠ "java/lang/invoke/MethodHandle" ∧ yX4_mode.cls ≠ "java/lang/invoke/VarHandle" ∧ (parseMethodDescriptor yX4_mode.desc).map (fun d => d.parameters.length) = some 3 := by decide +kernel
abbrev hsX4_setting : List Cond := Cond.code yX4_setting cX4_setting 5 (some .int) :: hALL
abbrev rmX4_setting : Room := { frames := 1, cells := 0, slots := 0, locals := 22 }
theorem pdX4_setting : yX4_setting.cls = RX4 ∧ yX4_setting.cls ≠ "java/lang/invoke/MethodHandle" ∧ yX4_setting.cls ≠ "java/lang/invoke/VarHandle" ∧ (parseMethodDescriptor yX4_setting.desc).map (fun d => d.parameters.length) = some 2 := by decide +kernel
abbrev hsX4_usedAt : List Cond := Cond.code yX4_usedAt cX4_usedAt 4 (some .int) :: hALL
abbrev rmX4_usedAt : Room := { frames := 2, cells := 0, slots := 0, locals := 49 }
theorem pdX4_usedAt : yX4_usedAt.cls = RX4 ∧ yX4_usedAt.cls ≠ "java/lang/invoke/MethodHandle" ∧ yX4_usedAt.cls ≠ "java/lang/invoke/VarHandle" ∧ (parseMethodDescriptor yX4_usedAt.desc).map (fun d => d.parameters.length) = some 2 := by decide +kernel
abbrev hsX4_countOf : List Cond := Cond.code yX4_countOf cX4_countOf 4 (some .int) :: hALL
abbrev rmX4_countOf : Room := { frames := 3, cells := 0, slots := 0, locals := 72 }
theorem pdX4_countOf : yX4_countOf.cls = RX4 ∧ yX4_countOf.cls ≠ "java/lang/invoke/MethodHandle" ∧ yX4_countOf.cls ≠ "java/lang/invoke/VarHandle" ∧ (parseMethodDescriptor yX4_countOf.desc).map (fun d => d.parameters.length) = some 2 := by decide +kernel
abbrev hsX4_hands : List Cond := Cond.code yX4_hands cX4_hands 4 (some .boolean) :: hALL
abbrev rmX4_hands : Room := { frames := 1, cells := 0, slots := 0, locals := 22 }
theorem pdX4_hands : yX4_hands.cls = RX4 ∧ yX4_hands.cls ≠ "java/lang/invoke/MethodHandle" ∧ yX4_hands.cls ≠ "java/lang/invoke/VarHandle" ∧ (parseMethodDescriptor yX4_hands.desc).map (fun d => d.parameters.length) = some 3 := by decide +kernel
abbrev hsX4_labelWas : List Cond := Cond.code yX4_labelWas cX4_labelWas 6 (some .int) :: hALL
abbrev rmX4_labelWas : Room := { frames := 1, cells := 0, slots := 0, locals := 22 }
theorem pdX4_labelWas : yX4_labelWas.cls = RX4 ∧ yX4_labelWas.cls ≠ "java/lang/invoke/MethodHandle" ∧ yX4_labelWas.cls ≠ "java/lang/invoke/VarHandle" ∧ (parseMethodDescriptor yX4_labelWas.desc).map (fun d => d.parameters.length) = some 3 := by decide +kernel
abbrev hsX4_isInRow : List Cond := Cond.code yX4_isInRow cX4_isInRow 6 (some .boolean) :: hALL
abbrev rmX4_isInRow : Room := { frames := 1, cells := 0, slots := 0, locals := 22 }
theorem pdX4_isInRow : yX4_isInRow.cls = RX4 ∧ yX4_isInRow.cls ≠ "java/lang/invoke/MethodHandle" ∧ yX4_isInRow.cls ≠ "java/lang/invoke/VarHandle" ∧ (parseMethodDescriptor yX4_isInRow.desc).map (fun d => d.parameters.length) = some 3 := by decide +kernel
abbrev hsX4_isNew : List Cond := Cond.code yX4_isNew cX4_isNew 4 (some .boolean) :: hALL
abbrev rmX4_isNew : Room := { frames := 2, cells := 0, slots := 0, locals := 47 }
theorem pdX4_isNew : yX4_isNew.cls = RX4 ∧ yX4_isNew.cls ≠ "java/lang/invoke/MethodHandle" ∧ yX4_isNew.cls ≠ "java/lang/invoke/VarHandle" ∧ (parseMethodDescriptor yX4_isNew.desc).map (fun d => d.parameters.length) = some 3 := by decide +kernel
abbrev hsX4_labels : List Cond := Cond.code yX4_labels cX4_labels 6 none :: hALL
abbrev rmX4_labels : Room := { frames := 2, cells := 0, slots := 0, locals := 45 }
theorem pdX4_labels : yX4_labels.cls = RX4 ∧ yX4_labels.cls ≠ "java/lang/invoke/MethodHandle" ∧ yX4_labels.cls ≠ "java/lang/invoke/VarHandle" ∧ (parseMethodDescriptor yX4_labels.desc).map (fun d => d.parameters.length) = some 4 := by decide +kernel
abbrev hsX4_handsInRow : List Cond := Cond.code yX4_handsInRow cX4_handsInRow 5 (some .boolean) :: hALL
abbrev rmX4_handsInRow : Room := { frames := 2, cells := 0, slots := 0, locals := 45 }
theorem pdX4_handsInRow : yX4_handsInRow.cls = RX4 ∧ yX4_handsInRow.cls ≠ "java/lang/invoke/MethodHandle" ∧ yX4_handsInRow.cls ≠ "java/lang/invoke/VarHandle" ∧ (parseMethodDescriptor yX4_handsInRow.desc).map (fun d => d.parameters.length) = some 3 := by decide +kernel
abbrev hsX4_handsRow : List Cond := Cond.code yX4_handsRow cX4_handsRow 5 none :: hALL
abbrev rmX4_handsRow : Room := { frames := 3, cells := 0, slots := 0, locals := 70 }
theorem pdX4_handsRow : yX4_handsRow.cls = RX4 ∧ yX4_handsRow.cls ≠ "java/lang/invoke/MethodHandle" ∧ yX4_handsRow.cls ≠ "java/lang/invoke/VarHandle" ∧ (parseMethodDescriptor yX4_handsRow.desc).map (fun d => d.parameters.length) = some 2 := by decide +kernel
abbrev hsX4_handsAll : List Cond := Cond.code yX4_handsAll cX4_handsAll 3 none :: hALL
abbrev rmX4_handsAll : Room := { frames := 4, cells := 0, slots := 0, locals := 94 }
theorem pdX4_handsAll : yX4_handsAll.cls = RX4 ∧ yX4_handsAll.cls ≠ "java/lang/invoke/MethodHandle" ∧ yX4_handsAll.cls ≠ "java/lang/invoke/VarHandle" ∧ (parseMethodDescriptor yX4_handsAll.desc).map (fun d => d.parameters.length) = some 1 := by decide +kernel
abbrev hsX4_keeps : List Cond := Cond.code yX4_keeps cX4_keeps 7 none :: hALL
abbrev rmX4_keeps : Room := { frames := 2, cells := 0, slots := 0, locals := 43 }
theorem pdX4_keeps : yX4_keeps.cls = RX4 ∧ yX4_keeps.cls ≠ "java/lang/invoke/MethodHandle" ∧ yX4_keeps.cls ≠ "java/lang/invoke/VarHandle" ∧ (parseMethodDescriptor yX4_keeps.desc).map (fun d => d.parameters.length) = some 0 := by decide +kernel
abbrev hsX4_goesOn : List Cond := Cond.code yX4_goesOn cX4_goesOn 2 none :: hALL
abbrev rmX4_goesOn : Room := { frames := 5, cells := 0, slots := 0, locals := 116 }
theorem pdX4_goesOn : yX4_goesOn.cls = RX4 ∧ yX4_goesOn.cls ≠ "java/lang/invoke/MethodHandle" ∧ yX4_goesOn.cls ≠ "java/lang/invoke/VarHandle" ∧ (parseMethodDescriptor yX4_goesOn.desc).map (fun d => d.parameters.length) = some 0 := by decide +kernel
abbrev hsX4_isChanged : List Cond := Cond.code yX4_isChanged cX4_isChanged 5 (some .boolean) :: hALL
abbrev rmX4_isChanged : Room := { frames := 0, cells := 0, slots := 0, locals := 0 }
theorem pdX4_isChanged : yX4_isChanged.cls = RX4 ∧ yX4_isChanged.cls ≠ "java/lang/invoke/MethodHandle" ∧ yX4_isChanged.cls ≠ "java/lang/invoke/VarHandle" ∧ (parseMethodDescriptor yX4_isChanged.desc).map (fun d => d.parameters.length) = some 1 := by decide +kernel
abbrev hsX4_ticks : List Cond := Cond.code yX4_ticks cX4_ticks 4 (some .int) :: hALL
abbrev rmX4_ticks : Room := { frames := 6, cells := 0, slots := 0, locals := 137 }
theorem pdX4_ticks : yX4_ticks.cls = RX4 ∧ yX4_ticks.cls ≠ "java/lang/invoke/MethodHandle" ∧ yX4_ticks.cls ≠ "java/lang/invoke/VarHandle" ∧ (parseMethodDescriptor yX4_ticks.desc).map (fun d => d.parameters.length) = some 1 := by decide +kernel
abbrev hsX4_isThere : List Cond := Cond.code yX4_isThere cX4_isThere 3 (some .boolean) :: hALL
abbrev rmX4_isThere : Room := { frames := 2, cells := 0, slots := 0, locals := 43 }
theorem pdX4_isThere : yX4_isThere.cls = RX4 ∧ yX4_isThere.cls ≠ "java/lang/invoke/MethodHandle" ∧ yX4_isThere.cls ≠ "java/lang/invoke/VarHandle" ∧ (parseMethodDescriptor yX4_isThere.desc).map (fun d => d.parameters.length) = some 2 := by decide +kernel
abbrev hsX4_tell : List Cond := Cond.code yX4_tell cX4_tell 3 (some .int) :: hALL
abbrev rmX4_tell : Room := { frames := 1, cells := 0, slots := 0, locals := 22 }
theorem pdX4_tell : yX4_tell.cls = RX4 ∧ yX4_tell.cls ≠ "java/lang/invoke/MethodHandle" ∧ yX4_tell.cls ≠ "java/lang/invoke/VarHandle" ∧ (parseMethodDescriptor yX4_tell.desc).map (fun d => d.parameters.length) = some 3 := by decide +kernel
abbrev hsX4_handed : List Cond := Cond.code yX4_handed cX4_handed 5 (some .int) :: hALL
abbrev rmX4_handed : Room := { frames := 3, cells := 0, slots := 0, locals := 65 }
theorem pdX4_handed : yX4_handed.cls = RX4 ∧ yX4_handed.cls ≠ "java/lang/invoke/MethodHandle" ∧ yX4_handed.cls ≠ "java/lang/invoke/VarHandle" ∧ (parseMethodDescriptor yX4_handed.desc).map (fun d => d.parameters.length) = some 4 := by decide +kernel
abbrev hsX4_kept : List Cond := Cond.code yX4_kept cX4_kept 5 (some .int) :: hALL
abbrev rmX4_kept : Room := { frames := 3, cells := 0, slots := 0, locals := 65 }
theorem pdX4_kept : yX4_kept.cls = RX4 ∧ yX4_kept.cls ≠ "java/lang/invoke/MethodHandle" ∧ yX4_kept.cls ≠ "java/lang/invoke/VarHandle" ∧ (parseMethodDescriptor yX4_kept.desc).map (fun d => d.parameters.length) = some 4 := by decide +kernel
abbrev hsX4_usedLabel : List Cond := Cond.code yX4_usedLabel cX4_usedLabel 4 (some .int) :: hALL
abbrev rmX4_usedLabel : Room := { frames := 3, cells := 0, slots := 0, locals := 72 }
theorem pdX4_usedLabel : yX4_usedLabel.cls = RX4 ∧ yX4_usedLabel.cls ≠ "java/lang/invoke/MethodHandle" ∧ yX4_usedLabel.cls ≠ "java/lang/invoke/VarHandle" ∧ (parseMethodDescriptor yX4_usedLabel.desc).map (fun d => d.parameters.length) = some 2 := by decide +kernel
abbrev hsX4_used : List Cond := Cond.code yX4_used cX4_used 4 (some .int) :: hALL
abbrev rmX4_used : Room := { frames := 4, cells := 0, slots := 0, locals := 95 }
theorem pdX4_used : yX4_used.cls = RX4 ∧ yX4_used.cls ≠ "java/lang/invoke/MethodHandle" ∧ yX4_used.cls ≠ "java/lang/invoke/VarHandle" ∧ (parseMethodDescriptor yX4_used.desc).map (fun d => d.parameters.length) = some 2 := by decide +kernel
abbrev hsX4_meaningOf : List Cond := Cond.code yX4_meaningOf cX4_meaningOf 7 (some .int) :: hALL
abbrev rmX4_meaningOf : Room := { frames := 1, cells := 0, slots := 0, locals := 22 }
theorem pdX4_meaningOf : yX4_meaningOf.cls = RX4 ∧ yX4_meaningOf.cls ≠ "java/lang/invoke/MethodHandle" ∧ yX4_meaningOf.cls ≠ "java/lang/invoke/VarHandle" ∧ (parseMethodDescriptor yX4_meaningOf.desc).map (fun d => d.parameters.length) = some 3 := by decide +kernel
abbrev hsX4_meaning : List Cond := Cond.code yX4_meaning cX4_meaning 4 (some .int) :: hALL
abbrev rmX4_meaning : Room := { frames := 3, cells := 0, slots := 0, locals := 65 }
theorem pdX4_meaning : yX4_meaning.cls = RX4 ∧ yX4_meaning.cls ≠ "java/lang/invoke/MethodHandle" ∧ yX4_meaning.cls ≠ "java/lang/invoke/VarHandle" ∧ (parseMethodDescriptor yX4_meaning.desc).map (fun d => d.parameters.length) = some 3 := by decide +kernel
abbrev hsX4_putsAside : List Cond := Cond.code yX4_putsAside cX4_putsAside 3 none :: hALL
abbrev rmX4_putsAside : Room := { frames := 0, cells := 0, slots := 0, locals := 0 }
theorem pdX4_putsAside : yX4_putsAside.cls = RX4 ∧ yX4_putsAside.cls ≠ "java/lang/invoke/MethodHandle" ∧ yX4_putsAside.cls ≠ "java/lang/invoke/VarHandle" ∧ (parseMethodDescriptor yX4_putsAside.desc).map (fun d => d.parameters.length) = some 1 := by decide +kernel
abbrev hsX4_settles : List Cond := Cond.code yX4_settles cX4_settles 3 (some .int) :: hALL
abbrev rmX4_settles : Room := { frames := 6, cells := 0, slots := 0, locals := 137 }
theorem pdX4_settles : yX4_settles.cls = RX4 ∧ yX4_settles.cls ≠ "java/lang/invoke/MethodHandle" ∧ yX4_settles.cls ≠ "java/lang/invoke/VarHandle" ∧ (parseMethodDescriptor yX4_settles.desc).map (fun d => d.parameters.length) = some 0 := by decide +kernel
abbrev hsX4_goes : List Cond := Cond.code yX4_goes cX4_goes 9 (some .int) :: hALL
abbrev rmX4_goes : Room := { frames := 4, cells := 0, slots := 0, locals := 95 }
theorem pdX4_goes : yX4_goes.cls = RX4 ∧ yX4_goes.cls ≠ "java/lang/invoke/MethodHandle" ∧ yX4_goes.cls ≠ "java/lang/invoke/VarHandle" ∧ (parseMethodDescriptor yX4_goes.desc).map (fun d => d.parameters.length) = some 2 := by decide +kernel
abbrev hsX4_letter : List Cond := Cond.code yX4_letter cX4_letter 5 (some .int) :: hALL
abbrev rmX4_letter : Room := { frames := 5, cells := 0, slots := 0, locals := 123 }
theorem pdX4_letter : yX4_letter.cls = RX4 ∧ yX4_letter.cls ≠ "java/lang/invoke/MethodHandle" ∧ yX4_letter.cls ≠ "java/lang/invoke/VarHandle" ∧ (parseMethodDescriptor yX4_letter.desc).map (fun d => d.parameters.length) = some 2 := by decide +kernel
abbrev hsX4_trace : List Cond := Cond.code yX4_trace cX4_trace 3 (some .int) :: hALL
abbrev rmX4_trace : Room := { frames := 1, cells := 0, slots := 0, locals := 22 }
theorem pdX4_trace : yX4_trace.cls = RX4 ∧ yX4_trace.cls ≠ "java/lang/invoke/MethodHandle" ∧ yX4_trace.cls ≠ "java/lang/invoke/VarHandle" ∧ (parseMethodDescriptor yX4_trace.desc).map (fun d => d.parameters.length) = some 2 := by decide +kernel
abbrev hsX4_isCarried : List Cond := Cond.code yX4_isCarried cX4_isCarried 2 (some .boolean) :: hALL
abbrev rmX4_isCarried : Room := { frames := 0, cells := 0, slots := 0, locals := 0 }
theorem pdX4_isCarried : yX4_isCarried.cls = RX4 ∧ yX4_isCarried.cls ≠ "java/lang/invoke/MethodHandle" ∧ yX4_isCarried.cls ≠ "java/lang/invoke/VarHandle" ∧ (parseMethodDescriptor yX4_isCarried.desc).map (fun d => d.parameters.length) = some 0 := by decide +kernel
abbrev hsX4_served : List Cond := Cond.code yX4_served cX4_served 7 (some .int) :: hALL
abbrev rmX4_served : Room := { frames := 5, cells := 0, slots := 0, locals := 123 }
theorem pdX4_served : yX4_served.cls = RX4 ∧ yX4_served.cls ≠ "java/lang/invoke/MethodHandle" ∧ yX4_served.cls ≠ "java/lang/invoke/VarHandle" ∧ (parseMethodDescriptor yX4_served.desc).map (fun d => d.parameters.length) = some 2 := by decide +kernel
abbrev hsX4_merged : List Cond := Cond.code yX4_merged cX4_merged 5 (some .int) :: hALL
abbrev rmX4_merged : Room := { frames := 4, cells := 0, slots := 0, locals := 95 }
theorem pdX4_merged : yX4_merged.cls = RX4 ∧ yX4_merged.cls ≠ "java/lang/invoke/MethodHandle" ∧ yX4_merged.cls ≠ "java/lang/invoke/VarHandle" ∧ (parseMethodDescriptor yX4_merged.desc).map (fun d => d.parameters.length) = some 2 := by decide +kernel
abbrev hsX4_manyIn : List Cond := Cond.code yX4_manyIn cX4_manyIn 3 (some .int) :: hALL
abbrev rmX4_manyIn : Room := { frames := 0, cells := 0, slots := 0, locals := 0 }
theorem pdX4_manyIn : yX4_manyIn.cls = RX4 ∧ yX4_manyIn.cls ≠ "java/lang/invoke/MethodHandle" ∧ yX4_manyIn.cls ≠ "java/lang/invoke/VarHandle" ∧ (parseMethodDescriptor yX4_manyIn.desc).map (fun d => d.parameters.length) = some 1 := by decide +kernel
abbrev hsX4_many : List Cond := Cond.code yX4_many cX4_many 4 (some .int) :: hALL
abbrev rmX4_many : Room := { frames := 1, cells := 0, slots := 0, locals := 22 }
theorem pdX4_many : yX4_many.cls = RX4 ∧ yX4_many.cls ≠ "java/lang/invoke/MethodHandle" ∧ yX4_many.cls ≠ "java/lang/invoke/VarHandle" ∧ (parseMethodDescriptor yX4_many.desc).map (fun d => d.parameters.length) = some 1 := by decide +kernel
theorem h_tout4 {x : Int32} (c0 : ¬ x = 0) (c1 : ¬ x = 1) (c2 : ¬ x = 2) (c3 : ¬ x = 3) : x.toInt < 0 ∨ 3 < x.toInt := by
  have d0 : ¬ x.toInt = 0 := h_tab c0
  have d1 : ¬ x.toInt = 1 := h_tab c1
  have d2 : ¬ x.toInt = 2 := h_tab c2
  have d3 : ¬ x.toInt = 3 := h_tab c3
  omega
theorem h_tout7 {x : Int32} (c0 : ¬ x = 0) (c1 : ¬ x = 1) (c2 : ¬ x = 2) (c3 : ¬ x = 3) (c4 : ¬ x = 4) (c5 : ¬ x = 5) (c6 : ¬ x = 6) : x.toInt < 0 ∨ 6 < x.toInt := by
  have d0 : ¬ x.toInt = 0 := h_tab c0
  have d1 : ¬ x.toInt = 1 := h_tab c1
  have d2 : ¬ x.toInt = 2 := h_tab c2
  have d3 : ¬ x.toInt = 3 := h_tab c3
  have d4 : ¬ x.toInt = 4 := h_tab c4
  have d5 : ¬ x.toInt = 5 := h_tab c5
  have d6 : ¬ x.toInt = 6 := h_tab c6
  omega
theorem h_tout20 {x : Int32} (c0 : ¬ x = 0) (c1 : ¬ x = 1) (c2 : ¬ x = 2) (c3 : ¬ x = 3) (c4 : ¬ x = 4) (c5 : ¬ x = 5) (c6 : ¬ x = 6) (c7 : ¬ x = 7) (c8 : ¬ x = 8) (c9 : ¬ x = 9) (c10 : ¬ x = 10) (c11 : ¬ x = 11) (c12 : ¬ x = 12) (c13 : ¬ x = 13) (c14 : ¬ x = 14) (c15 : ¬ x = 15) (c16 : ¬ x = 16) (c17 : ¬ x = 17) (c18 : ¬ x = 18) (c19 : ¬ x = 19) : x.toInt < 0 ∨ 19 < x.toInt := by
  have d0 : ¬ x.toInt = 0 := h_tab c0
  have d1 : ¬ x.toInt = 1 := h_tab c1
  have d2 : ¬ x.toInt = 2 := h_tab c2
  have d3 : ¬ x.toInt = 3 := h_tab c3
  have d4 : ¬ x.toInt = 4 := h_tab c4
  have d5 : ¬ x.toInt = 5 := h_tab c5
  have d6 : ¬ x.toInt = 6 := h_tab c6
  have d7 : ¬ x.toInt = 7 := h_tab c7
  have d8 : ¬ x.toInt = 8 := h_tab c8
  have d9 : ¬ x.toInt = 9 := h_tab c9
  have d10 : ¬ x.toInt = 10 := h_tab c10
  have d11 : ¬ x.toInt = 11 := h_tab c11
  have d12 : ¬ x.toInt = 12 := h_tab c12
  have d13 : ¬ x.toInt = 13 := h_tab c13
  have d14 : ¬ x.toInt = 14 := h_tab c14
  have d15 : ¬ x.toInt = 15 := h_tab c15
  have d16 : ¬ x.toInt = 16 := h_tab c16
  have d17 : ¬ x.toInt = 17 := h_tab c17
  have d18 : ¬ x.toInt = 18 := h_tab c18
  have d19 : ¬ x.toInt = 19 := h_tab c19
  omega
end
section
def f_X0_has (S : HSt) (a1 a2 : Int32) : Option Int32 := (h_ld S 8 28 ((a1 * 4) + a2)).bind (fun v1 => if v1 = 1 then (some 1) else (some 0))
def f_X3_slot (a0 a1 : Int32) : Option Int32 := some ((a0 * 4) + a1)
def f_X0_handNothing_41 (k2 : HSt → Int32 → Int32 → Option HSt) (S : HSt) (x1 x2 : Int32) : Option HSt := k2 S x1 (x2 + 1)
def f_X0_handNothing_2_s (k2 : HSt → Int32 → Int32 → Option HSt) (S : HSt) (x1 x2 : Int32) : Option HSt := (f_X3_slot (2 * (S.1 0)) 0).bind (fun r1 => if r1 ≤ x2 then (some S) else ((h_ld S 0 24 (x2 / 4)).bind (fun v4 => if v4 = x1 then ((h_st S 6 96 x2 0).bind (fun S7 => f_X0_handNothing_41 k2 S7 x1 x2)) else (f_X0_handNothing_41 k2 S x1 x2))))
def f_X0_handNothing_2 : Nat → HSt → Int32 → Int32 → Option HSt
  | 0, _, _, _ => none
  | n + 1, S, x1, x2 => f_X0_handNothing_2_s (f_X0_handNothing_2 n) S x1 x2
def f_X0_handNothing (S : HSt) (a1 : Int32) : Option HSt := f_X0_handNothing_2 h_fu S a1 0
def f_X0_changeMode (S : HSt) (a1 a2 a3 : Int32) : Option (Int32 × HSt) := (h_ld S 8 28 ((a1 * 4) + a2)).bind (fun v1 => (h_st S 8 28 ((a1 * 4) + a2) a3).bind (fun S3 => if a2 = 2 then (if a3 = v1 then (some (v1, S3)) else ((f_X0_handNothing S3 a1).bind (fun S9 => some (v1, S9)))) else (some (v1, S3))))
def f_X0_forgetLink_8_s (k8 : HSt → Int32 → Int32 → Option HSt) (S : HSt) (x1 x2 : Int32) : Option HSt := (f_X3_slot ((2 * x1) + 2) 0).bind (fun r1 => if r1 ≤ x2 then (some S) else ((h_st S 6 96 x2 0).bind (fun S4 => (h_st S4 7 96 x2 0).bind (fun S6 => k8 S6 x1 (x2 + 1)))))
def f_X0_forgetLink_8 : Nat → HSt → Int32 → Int32 → Option HSt
  | 0, _, _, _ => none
  | n + 1, S, x1, x2 => f_X0_forgetLink_8_s (f_X0_forgetLink_8 n) S x1 x2
def f_X0_forgetLink (S : HSt) (a1 : Int32) : Option HSt := (f_X3_slot (2 * a1) 0).bind (fun r1 => f_X0_forgetLink_8 h_fu S a1 r1)
def f_X3_pair (a0 a1 : Int32) : Option Int32 := some ((a0 * 4) + a1)
def f_X0_slipUsed (S : HSt) (a1 a2 : Int32) : Option Int32 := (f_X3_pair a1 a2).bind (fun r1 => (h_ld S 5 28 r1).bind (fun v3 => if v3 = (-1) then (some 0) else ((f_X3_slot v3 a2).bind (fun r6 => (h_ld S 7 96 r6).bind (fun v8 => some v8)))))
def f_X3_labelOf (a0 : Int32) : Option Int32 := some (a0 >>> (4 &&& 31))
def f_X0_classMeant_107 (S : HSt) (k55 : Int32 → Int32 → Int32 → Int32 → Int32 → Int32 → Option Int32) (x1 x3 x4 x5 x6 x7 : Int32) : Option Int32 := k55 x1 x3 x4 x5 x6 (x7 + 1)
def f_X0_classMeant_55_s (S : HSt) (k45 : Int32 → Int32 → Int32 → Int32 → Int32 → Option Int32) (k55 : Int32 → Int32 → Int32 → Int32 → Int32 → Int32 → Option Int32) (x1 x3 x4 x5 x6 x7 : Int32) : Option Int32 := if x5 ≤ x7 then (k45 x1 x3 x4 x5 (x6 + 1)) else ((f_X3_slot x7 x6).bind (fun r2 => (h_ld S 6 96 r2).bind (fun v4 => (h_ld S 0 24 x7).bind (fun v6 => if v6 = x1 then (if v4 = 0 then (f_X0_classMeant_107 S k55 x1 x3 x4 x5 x6 x7) else ((f_X3_labelOf v4).bind (fun r10 => if r10 = x3 then (some x6) else (f_X0_classMeant_107 S k55 x1 x3 x4 x5 x6 x7)))) else (f_X0_classMeant_107 S k55 x1 x3 x4 x5 x6 x7)))))
def f_X0_classMeant_55 (S : HSt) (k45 : Int32 → Int32 → Int32 → Int32 → Int32 → Option Int32) : Nat → Int32 → Int32 → Int32 → Int32 → Int32 → Int32 → Option Int32
  | 0, _, _, _, _, _, _ => none
  | n + 1, x1, x3, x4, x5, x6, x7 => f_X0_classMeant_55_s S k45 (f_X0_classMeant_55 S k45 n) x1 x3 x4 x5 x6 x7
def f_X0_classMeant_45_s (S : HSt) (k45 : Int32 → Int32 → Int32 → Int32 → Int32 → Option Int32) (x1 x3 x4 x5 x6 : Int32) : Option Int32 := if 4 ≤ x6 then (some (-1)) else (f_X0_classMeant_55 S k45 h_fu x1 x3 x4 x5 x6 x4)
def f_X0_classMeant_45 (S : HSt) : Nat → Int32 → Int32 → Int32 → Int32 → Int32 → Option Int32
  | 0, _, _, _, _, _ => none
  | n + 1, x1, x3, x4, x5, x6 => f_X0_classMeant_45_s S (f_X0_classMeant_45 S n) x1 x3 x4 x5 x6
def f_X0_classMeant_40 (S : HSt) (x1 x3 x4 t0 : Int32) : Option Int32 := f_X0_classMeant_45 S h_fu x1 x3 x4 t0 0
def f_X0_classMeant_14 (S : HSt) (x1 x2 x3 t0 : Int32) : Option Int32 := (f_X0_has S x1 2).bind (fun r1 => if r1 = 0 then (f_X0_classMeant_40 S x1 x3 t0 (2 * (S.1 0))) else (f_X0_classMeant_40 S x1 x3 t0 (x2 + 1)))
def f_X0_classMeant (S : HSt) (a1 a2 a3 : Int32) : Option Int32 := (f_X0_has S a1 2).bind (fun r1 => if r1 = 0 then (f_X0_classMeant_14 S a1 a2 a3 0) else (f_X0_classMeant_14 S a1 a2 a3 a2))
def f_X0_greatestLabel_4_s (S : HSt) (k4 : Int32 → Int32 → Option Int32) (x1 x2 : Int32) : Option Int32 := if 96 ≤ x2 then (some x1) else ((h_ld S 6 96 x2).bind (fun v2 => (f_X3_labelOf v2).bind (fun r4 => k4 (if x1 < r4 then r4 else x1) (x2 + 1))))
def f_X0_greatestLabel_4 (S : HSt) : Nat → Int32 → Int32 → Option Int32
  | 0, _, _ => none
  | n + 1, x1, x2 => f_X0_greatestLabel_4_s S (f_X0_greatestLabel_4 S n) x1 x2
def f_X0_greatestLabel (S : HSt) : Option Int32 := f_X0_greatestLabel_4 S h_fu 0 0
def f_X3_countOf (a0 : Int32) : Option Int32 := some (a0 &&& 15)
def f_X0_countToHand (S : HSt) (a1 a2 : Int32) : Option Int32 := (h_ld S 3 4 a2).bind (fun v1 => if v1 = a1 then (some 0) else ((f_X3_pair a1 a2).bind (fun r4 => (h_ld S 5 28 r4).bind (fun v6 => if v6 = (-1) then (some (-1)) else ((f_X0_slipUsed S a1 a2).bind (fun r9 => if r9 = 0 then (if (S.1 1) = 1 then (some (-1)) else (some 1)) else ((f_X3_countOf r9).bind (fun r12 => if (r12 + 1) ≤ (S.1 2) then (some (r12 + 1)) else (some (-1))))))))))
def f_X1_isUpSide (S : HSt) (a1 : Int32) : Option Int32 := (h_ld S 2 12 (a1 >>> (1 &&& 31))).bind (fun v1 => if v1 = 1 then (some 1) else (some 0))
def f_X0_goesOver_61 (S : HSt) : Option Int32 := some 1
def f_X0_goesOver (S : HSt) (a1 a2 : Int32) : Option Int32 := (f_X1_isUpSide S a1).bind (fun r1 => if r1 = 0 then (some 0) else ((h_ld S 0 24 (a1 ^^^ 1)).bind (fun v4 => (h_ld S 0 24 a1).bind (fun v6 => (f_X0_has S v6 0).bind (fun r8 => if r8 = 0 then (f_X0_goesOver_61 S) else ((f_X3_pair v4 a2).bind (fun r11 => (h_ld S 5 28 r11).bind (fun v13 => if v13 = (a1 ^^^ 1) then (f_X0_goesOver_61 S) else (some 0)))))))))
def f_X3_slipWith (a0 a1 : Int32) : Option Int32 := some ((a0 * 16) + a1)
def f_X0_placeOver_59 (k2 : HSt → Int32 → Int32 → Option HSt) (S : HSt) (x1 x2 t0 t1 : Int32) : Option HSt := (h_st S 9 96 t1 t0).bind (fun S1 => k2 S1 x1 (x2 + 1))
def f_X0_placeOver_31 (k2 : HSt → Int32 → Int32 → Option HSt) (S : HSt) (x1 x2 t0 : Int32) : Option HSt := (f_X3_slot x1 x2).bind (fun r1 => if t0 = 0 then (f_X0_placeOver_59 k2 S x1 x2 0 r1) else ((h_ld S 10 4 x2).bind (fun v4 => (f_X3_slipWith 1 v4).bind (fun r6 => f_X0_placeOver_59 k2 S x1 x2 r6 r1))))
def f_X0_placeOver_30 (k2 : HSt → Int32 → Int32 → Option HSt) (S : HSt) (x1 x2 : Int32) : Option HSt := f_X0_placeOver_31 k2 S x1 x2 0
def f_X0_placeOver_2_s (k2 : HSt → Int32 → Int32 → Option HSt) (S : HSt) (x1 x2 : Int32) : Option HSt := if 4 ≤ x2 then (some S) else ((h_ld S 10 4 x2).bind (fun v2 => if v2 = (-1) then (f_X0_placeOver_30 k2 S x1 x2) else ((f_X0_goesOver S x1 x2).bind (fun r5 => if r5 = 0 then (f_X0_placeOver_30 k2 S x1 x2) else (f_X0_placeOver_31 k2 S x1 x2 1)))))
def f_X0_placeOver_2 : Nat → HSt → Int32 → Int32 → Option HSt
  | 0, _, _, _ => none
  | n + 1, S, x1, x2 => f_X0_placeOver_2_s (f_X0_placeOver_2 n) S x1 x2
def f_X0_placeOver (S : HSt) (a1 : Int32) : Option HSt := f_X0_placeOver_2 h_fu S a1 0
def f_X0_placeSlips_58 (k27 : HSt → Int32 → Int32 → Option HSt) (S : HSt) (x1 x2 : Int32) : Option HSt := k27 S x1 (x2 + 1)
def f_X0_placeSlips_27_s (k27 : HSt → Int32 → Int32 → Option HSt) (S : HSt) (x1 x2 : Int32) : Option HSt := if (2 * (S.1 0)) ≤ x2 then (some S) else ((h_ld S 0 24 x2).bind (fun v2 => if v2 = x1 then ((f_X0_placeOver S x2).bind (fun S7 => f_X0_placeSlips_58 k27 S7 x1 x2)) else (f_X0_placeSlips_58 k27 S x1 x2)))
def f_X0_placeSlips_27 : Nat → HSt → Int32 → Int32 → Option HSt
  | 0, _, _, _ => none
  | n + 1, S, x1, x2 => f_X0_placeSlips_27_s (f_X0_placeSlips_27 n) S x1 x2
def f_X0_placeSlips_2_s (k2 : HSt → Int32 → Int32 → Option HSt) (S : HSt) (x1 x2 : Int32) : Option HSt := if 4 ≤ x2 then (f_X0_placeSlips_27 h_fu S x1 0) else ((f_X0_countToHand S x1 x2).bind (fun r2 => (h_st S 10 4 x2 r2).bind (fun S4 => k2 S4 x1 (x2 + 1))))
def f_X0_placeSlips_2 : Nat → HSt → Int32 → Int32 → Option HSt
  | 0, _, _, _ => none
  | n + 1, S, x1, x2 => f_X0_placeSlips_2_s (f_X0_placeSlips_2 n) S x1 x2
def f_X0_placeSlips (S : HSt) (a1 : Int32) : Option HSt := f_X0_placeSlips_2 h_fu S a1 0
def f_X0_labelAhead_88 (S : HSt) (k9 : Int32 → Int32 → Int32 → Int32 → Int32 → Int32 → Option Int32) (x1 x2 x4 x5 x6 x7 : Int32) : Option Int32 := k9 x1 x2 x4 x5 x6 (x7 + 1)
def f_X0_labelAhead_86 (S : HSt) (k9 : Int32 → Int32 → Int32 → Int32 → Int32 → Int32 → Option Int32) (x1 x2 x4 x5 x7 t0 : Int32) : Option Int32 := f_X0_labelAhead_88 S k9 x1 x2 x4 x5 t0 x7
def f_X0_labelAhead_54 (S : HSt) (k9 : Int32 → Int32 → Int32 → Int32 → Int32 → Int32 → Option Int32) (x1 x2 x4 x6 x7 t0 : Int32) : Option Int32 := (f_X3_slot x7 x2).bind (fun r1 => (h_ld S 6 96 r1).bind (fun v3 => (f_X3_labelOf v3).bind (fun r5 => if r5 < 16 then (f_X0_labelAhead_86 S k9 x1 x2 x4 t0 x7 x6) else (f_X0_labelAhead_86 S k9 x1 x2 x4 t0 x7 r5))))
def f_X0_labelAhead_49 (S : HSt) (k9 : Int32 → Int32 → Int32 → Int32 → Int32 → Int32 → Option Int32) (x1 x2 x4 x6 x7 : Int32) : Option Int32 := f_X0_labelAhead_54 S k9 x1 x2 x4 x6 x7 1
def f_X0_labelAhead_9_s (S : HSt) (k9 : Int32 → Int32 → Int32 → Int32 → Int32 → Int32 → Option Int32) (x1 x2 x4 x5 x6 x7 : Int32) : Option Int32 := if x4 ≤ x7 then (if x5 = 0 then (some (-1)) else ((h_ld S 3 4 x2).bind (fun v3 => if v3 = x1 then ((f_X0_has S x1 3).bind (fun r6 => if r6 = 0 then (some x6) else (some 3))) else (some x6)))) else ((h_ld S 0 24 x7).bind (fun v9 => if v9 = x1 then (if x5 = 0 then ((f_X3_slot x7 x2).bind (fun r13 => (h_ld S 9 96 r13).bind (fun v15 => if v15 = 0 then (f_X0_labelAhead_54 S k9 x1 x2 x4 x6 x7 0) else (f_X0_labelAhead_49 S k9 x1 x2 x4 x6 x7)))) else (f_X0_labelAhead_49 S k9 x1 x2 x4 x6 x7)) else (f_X0_labelAhead_88 S k9 x1 x2 x4 x5 x6 x7)))
def f_X0_labelAhead_9 (S : HSt) : Nat → Int32 → Int32 → Int32 → Int32 → Int32 → Int32 → Option Int32
  | 0, _, _, _, _, _, _ => none
  | n + 1, x1, x2, x4, x5, x6, x7 => f_X0_labelAhead_9_s S (f_X0_labelAhead_9 S n) x1 x2 x4 x5 x6 x7
def f_X0_labelAhead (S : HSt) (a1 a2 a3 a4 : Int32) : Option Int32 := f_X0_labelAhead_9 S h_fu a1 a2 a4 0 0 a3
def f_X0_bitOf (a0 : Int32) : Option Int32 := if a0 < 16 then (some 0) else (some (1 <<< ((a0 - 16) &&& 31)))
def f_X0_leastFree_3_s (k3 : Int32 → Int32 → Option Int32) (x0 x1 : Int32) : Option Int32 := if 20 ≤ x1 then (some 20) else ((f_X0_bitOf x1).bind (fun r2 => if (x0 &&& r2) = 0 then (some x1) else (k3 x0 (x1 + 1))))
def f_X0_leastFree_3 : Nat → Int32 → Int32 → Option Int32
  | 0, _, _ => none
  | n + 1, x0, x1 => f_X0_leastFree_3_s (f_X0_leastFree_3 n) x0 x1
def f_X0_leastFree (a0 : Int32) : Option Int32 := f_X0_leastFree_3 h_fu a0 16
def f_X0_labelOver_45 (k2 : HSt → Int32 → Int32 → Option HSt) (S : HSt) (x1 x2 : Int32) : Option HSt := k2 S x1 (x2 + 1)
def f_X0_labelOver_2_s (k2 : HSt → Int32 → Int32 → Option HSt) (S : HSt) (x1 x2 : Int32) : Option HSt := if 4 ≤ x2 then (some S) else ((f_X3_slot x1 x2).bind (fun r2 => (h_ld S 9 96 r2).bind (fun v4 => if v4 = 0 then (f_X0_labelOver_45 k2 S x1 x2) else ((f_X3_slot x1 x2).bind (fun r7 => (h_ld S 11 4 x2).bind (fun v9 => (f_X3_countOf v4).bind (fun r11 => (f_X3_slipWith v9 r11).bind (fun r13 => (h_st S 9 96 r7 r13).bind (fun S15 => f_X0_labelOver_45 k2 S15 x1 x2)))))))))
def f_X0_labelOver_2 : Nat → HSt → Int32 → Int32 → Option HSt
  | 0, _, _, _ => none
  | n + 1, S, x1, x2 => f_X0_labelOver_2_s (f_X0_labelOver_2 n) S x1 x2
def f_X0_labelOver (S : HSt) (a1 : Int32) : Option HSt := f_X0_labelOver_2 h_fu S a1 0
def f_X0_fillRow_130 (k104 : HSt → Int32 → Int32 → Int32 → Option HSt) (S : HSt) (x1 x3 x5 : Int32) : Option HSt := k104 S x1 x3 (x5 + 1)
def f_X0_fillRow_104_s (k104 : HSt → Int32 → Int32 → Int32 → Option HSt) (S : HSt) (x1 x3 x5 : Int32) : Option HSt := if x3 ≤ x5 then (some S) else ((h_ld S 0 24 x5).bind (fun v2 => if v2 = x1 then ((f_X0_labelOver S x5).bind (fun S7 => f_X0_fillRow_130 k104 S7 x1 x3 x5)) else (f_X0_fillRow_130 k104 S x1 x3 x5)))
def f_X0_fillRow_104 : Nat → HSt → Int32 → Int32 → Int32 → Option HSt
  | 0, _, _, _, _ => none
  | n + 1, S, x1, x3, x5 => f_X0_fillRow_104_s (f_X0_fillRow_104 n) S x1 x3 x5
def f_X0_fillRow_95 (k52 : HSt → Int32 → Int32 → Int32 → Int32 → Int32 → Option HSt) (S : HSt) (x1 x2 x3 x4 x5 : Int32) : Option HSt := k52 S x1 x2 x3 x4 (x5 + 1)
def f_X0_fillRow_52_s (k52 : HSt → Int32 → Int32 → Int32 → Int32 → Int32 → Option HSt) (S : HSt) (x1 x2 x3 x4 x5 : Int32) : Option HSt := if 4 ≤ x5 then (f_X0_fillRow_104 h_fu S x1 x3 x2) else ((h_ld S 11 4 x5).bind (fun v2 => if v2 = 0 then ((f_X0_leastFree x4).bind (fun r5 => (h_st S 11 4 x5 r5).bind (fun S7 => (h_ld S7 11 4 x5).bind (fun v9 => (f_X0_bitOf v9).bind (fun r11 => f_X0_fillRow_95 k52 S7 x1 x2 x3 (x4 ||| r11) x5))))) else (f_X0_fillRow_95 k52 S x1 x2 x3 x4 x5)))
def f_X0_fillRow_52 : Nat → HSt → Int32 → Int32 → Int32 → Int32 → Int32 → Option HSt
  | 0, _, _, _, _, _, _ => none
  | n + 1, S, x1, x2, x3, x4, x5 => f_X0_fillRow_52_s (f_X0_fillRow_52 n) S x1 x2 x3 x4 x5
def f_X0_fillRow_6_s (k6 : HSt → Int32 → Int32 → Int32 → Int32 → Int32 → Option HSt) (S : HSt) (x1 x2 x3 x4 x5 : Int32) : Option HSt := if 4 ≤ x5 then (f_X0_fillRow_52 h_fu S x1 x2 x3 x4 0) else ((f_X0_labelAhead S x1 x5 x2 x3).bind (fun r2 => (h_st S 11 4 x5 r2).bind (fun S4 => (h_ld S4 11 4 x5).bind (fun v6 => (f_X0_bitOf v6).bind (fun r8 => k6 S4 x1 x2 x3 (x4 ||| r8) (x5 + 1))))))
def f_X0_fillRow_6 : Nat → HSt → Int32 → Int32 → Int32 → Int32 → Int32 → Option HSt
  | 0, _, _, _, _, _, _ => none
  | n + 1, S, x1, x2, x3, x4, x5 => f_X0_fillRow_6_s (f_X0_fillRow_6 n) S x1 x2 x3 x4 x5
def f_X0_fillRow (S : HSt) (a1 a2 a3 : Int32) : Option HSt := f_X0_fillRow_6 h_fu S a1 a2 a3 0 0
def f_X0_fillRows_62 (k27 : HSt → Int32 → Int32 → Option HSt) (S : HSt) (x1 x2 : Int32) : Option HSt := k27 S x1 (x2 + 1)
def f_X0_fillRows_27_s (k27 : HSt → Int32 → Int32 → Option HSt) (S : HSt) (x1 x2 : Int32) : Option HSt := if (2 * (S.1 0)) ≤ x2 then (some S) else ((h_ld S 0 24 x2).bind (fun v2 => if v2 = x1 then ((f_X0_fillRow S x1 x2 (x2 + 1)).bind (fun S7 => f_X0_fillRows_62 k27 S7 x1 x2)) else (f_X0_fillRows_62 k27 S x1 x2)))
def f_X0_fillRows_27 : Nat → HSt → Int32 → Int32 → Option HSt
  | 0, _, _, _ => none
  | n + 1, S, x1, x2 => f_X0_fillRows_27_s (f_X0_fillRows_27 n) S x1 x2
def f_X0_fillRows (S : HSt) (a1 : Int32) : Option HSt := (f_X0_has S a1 2).bind (fun r1 => if r1 = 0 then ((f_X0_fillRow S a1 0 (2 * (S.1 0))).bind (fun S6 => some S6)) else (f_X0_fillRows_27 h_fu S a1 0))
def f_X0_takeFresh_45 (k4 : HSt → Int32 → Int32 → Option (Int32 × HSt)) (S : HSt) (x2 t0 : Int32) : Option (Int32 × HSt) := (h_ld S 9 96 x2).bind (fun v1 => (h_st S 6 96 x2 v1).bind (fun S3 => k4 S3 t0 (x2 + 1)))
def f_X0_takeFresh_40 (k4 : HSt → Int32 → Int32 → Option (Int32 × HSt)) (S : HSt) (x2 : Int32) : Option (Int32 × HSt) := f_X0_takeFresh_45 k4 S x2 1
def f_X0_takeFresh_4_s (k4 : HSt → Int32 → Int32 → Option (Int32 × HSt)) (S : HSt) (x1 x2 : Int32) : Option (Int32 × HSt) := (f_X3_slot (2 * (S.1 0)) 0).bind (fun r1 => if r1 ≤ x2 then (h_b x1 (some (x1, S))) else (if x1 = 0 then ((h_ld S 6 96 x2).bind (fun v5 => (h_ld S 9 96 x2).bind (fun v7 => if v5 = v7 then (f_X0_takeFresh_45 k4 S x2 0) else (f_X0_takeFresh_40 k4 S x2)))) else (f_X0_takeFresh_40 k4 S x2)))
def f_X0_takeFresh_4 : Nat → HSt → Int32 → Int32 → Option (Int32 × HSt)
  | 0, _, _, _ => none
  | n + 1, S, x1, x2 => f_X0_takeFresh_4_s (f_X0_takeFresh_4 n) S x1 x2
def f_X0_takeFresh (S : HSt) : Option (Int32 × HSt) := f_X0_takeFresh_4 h_fu S 0 0
def f_X0_slipToKeep_38 (S : HSt) (x1 x2 : Int32) : Option Int32 := (f_X3_slot (x1 ^^^ 1) x2).bind (fun r1 => (h_ld S 6 96 r1).bind (fun v3 => some v3))
def f_X0_slipToKeep (S : HSt) (a1 a2 : Int32) : Option Int32 := (h_ld S 0 24 a1).bind (fun v1 => (f_X0_has S v1 1).bind (fun r3 => if r3 = 0 then (f_X0_slipToKeep_38 S a1 a2) else ((f_X3_pair v1 a2).bind (fun r6 => (h_ld S 5 28 r6).bind (fun v8 => if v8 = a1 then (f_X0_slipToKeep_38 S a1 a2) else (some 0))))))
def f_X0_keepAll_56 (k19 : HSt → Int32 → Int32 → Int32 → Option (Int32 × HSt)) (S : HSt) (x2 x3 x4 t0 : Int32) : Option (Int32 × HSt) := (f_X3_slot x2 x3).bind (fun r1 => (h_st S 7 96 r1 x4).bind (fun S3 => k19 S3 t0 x2 (x3 + 1)))
def f_X0_keepAll_51 (k19 : HSt → Int32 → Int32 → Int32 → Option (Int32 × HSt)) (S : HSt) (x2 x3 x4 : Int32) : Option (Int32 × HSt) := f_X0_keepAll_56 k19 S x2 x3 x4 1
def f_X0_keepAll_19_s (k4 : HSt → Int32 → Int32 → Option (Int32 × HSt)) (k19 : HSt → Int32 → Int32 → Int32 → Option (Int32 × HSt)) (S : HSt) (x1 x2 x3 : Int32) : Option (Int32 × HSt) := if 4 ≤ x3 then (k4 S x1 (x2 + 1)) else ((f_X0_slipToKeep S x2 x3).bind (fun r2 => if x1 = 0 then ((f_X3_slot x2 x3).bind (fun r5 => (h_ld S 7 96 r5).bind (fun v7 => if v7 = r2 then (f_X0_keepAll_56 k19 S x2 x3 r2 0) else (f_X0_keepAll_51 k19 S x2 x3 r2)))) else (f_X0_keepAll_51 k19 S x2 x3 r2)))
def f_X0_keepAll_19 (k4 : HSt → Int32 → Int32 → Option (Int32 × HSt)) : Nat → HSt → Int32 → Int32 → Int32 → Option (Int32 × HSt)
  | 0, _, _, _, _ => none
  | n + 1, S, x1, x2, x3 => f_X0_keepAll_19_s k4 (f_X0_keepAll_19 k4 n) S x1 x2 x3
def f_X0_keepAll_4_s (k4 : HSt → Int32 → Int32 → Option (Int32 × HSt)) (S : HSt) (x1 x2 : Int32) : Option (Int32 × HSt) := if (2 * (S.1 0)) ≤ x2 then (h_b x1 (some (x1, S))) else (f_X0_keepAll_19 k4 h_fu S x1 x2 0)
def f_X0_keepAll_4 : Nat → HSt → Int32 → Int32 → Option (Int32 × HSt)
  | 0, _, _, _ => none
  | n + 1, S, x1, x2 => f_X0_keepAll_4_s (f_X0_keepAll_4 n) S x1 x2
def f_X0_keepAll (S : HSt) : Option (Int32 × HSt) := f_X0_keepAll_4 h_fu S 0 0
def f_X0_tick_36 (S : HSt) (t0 : Int32) : Option (Int32 × HSt) := h_bi (f_X0_keepAll S ) (fun r1 S3 => if r1 = 0 then (some (t0, S3)) else (some (t0 ||| 2, S3)))
def f_X0_tick_2_s (k2 : HSt → Int32 → Option (Int32 × HSt)) (S : HSt) (x1 : Int32) : Option (Int32 × HSt) := if 7 ≤ x1 then (h_bi (f_X0_takeFresh S ) (fun r2 S4 => if r2 = 0 then (f_X0_tick_36 S4 0) else (f_X0_tick_36 S4 1))) else ((f_X0_placeSlips S x1).bind (fun S8 => (f_X0_fillRows S8 x1).bind (fun S11 => k2 S11 (x1 + 1))))
def f_X0_tick_2 : Nat → HSt → Int32 → Option (Int32 × HSt)
  | 0, _, _ => none
  | n + 1, S, x1 => f_X0_tick_2_s (f_X0_tick_2 n) S x1
def f_X0_tick (S : HSt) : Option (Int32 × HSt) := f_X0_tick_2 h_fu S 0
def f_X0_runTicks_21 (k4 : HSt → Int32 → Int32 → Int32 → Option (Int32 × HSt)) (S : HSt) (x1 x2 x3 : Int32) : Option (Int32 × HSt) := k4 S x1 x2 (x3 + 1)
def f_X0_runTicks_4_s (k4 : HSt → Int32 → Int32 → Int32 → Option (Int32 × HSt)) (S : HSt) (x1 x2 x3 : Int32) : Option (Int32 × HSt) := if x1 ≤ x3 then ((some (h_put S 3 ((S.1 3) + x1))).bind (fun S2 => some (x2, S2))) else (h_bi (f_X0_tick S ) (fun r4 S6 => if (r4 &&& 1) = 0 then (f_X0_runTicks_21 k4 S6 x1 x2 x3) else (f_X0_runTicks_21 k4 S6 x1 (x2 + 1) x3)))
def f_X0_runTicks_4 : Nat → HSt → Int32 → Int32 → Int32 → Option (Int32 × HSt)
  | 0, _, _, _, _ => none
  | n + 1, S, x1, x2, x3 => f_X0_runTicks_4_s (f_X0_runTicks_4 n) S x1 x2 x3
def f_X0_runTicks (S : HSt) (a1 : Int32) : Option (Int32 × HSt) := f_X0_runTicks_4 h_fu S a1 0 0
def f_X0_ticksTillStill_68 (S : HSt) (x1 : Int32) : Option (Int32 × HSt) := (some (h_cp S 12 6 96)).bind (fun S1 => (some (h_cp S1 13 7 96)).bind (fun S3 => some (x1, S3)))
def f_X0_ticksTillStill_62 (k41 : HSt → Int32 → Int32 → Option (Int32 × HSt)) (S : HSt) (x1 x2 : Int32) : Option (Int32 × HSt) := k41 S x1 (x2 + 1)
def f_X0_ticksTillStill_41_s (k41 : HSt → Int32 → Int32 → Option (Int32 × HSt)) (S : HSt) (x1 x2 : Int32) : Option (Int32 × HSt) := if x1 = (-9) then (if 30 ≤ x2 then (f_X0_ticksTillStill_68 S x1) else (h_bi (f_X0_tick S ) (fun r3 S5 => if r3 = 0 then (f_X0_ticksTillStill_62 k41 S5 x2 x2) else (f_X0_ticksTillStill_62 k41 S5 x1 x2)))) else (f_X0_ticksTillStill_68 S x1)
def f_X0_ticksTillStill_41 : Nat → HSt → Int32 → Int32 → Option (Int32 × HSt)
  | 0, _, _, _ => none
  | n + 1, S, x1, x2 => f_X0_ticksTillStill_41_s (f_X0_ticksTillStill_41 n) S x1 x2
def f_X0_ticksTillStill (S : HSt) : Option (Int32 × HSt) := (some (h_cp S 6 12 96)).bind (fun S1 => (some (h_cp S1 7 13 96)).bind (fun S3 => f_X0_ticksTillStill_41 h_fu S3 (-9) 0))
def f_X1_isLink (S : HSt) (a1 : Int32) : Option Int32 := if a1 < 0 then (some 0) else (if (S.1 0) ≤ a1 then (some 0) else (some 1))
def f_X1_sideAt (S : HSt) (a1 a2 : Int32) : Option Int32 := (h_ld S 0 24 (2 * a1)).bind (fun v1 => if v1 = a2 then (some (2 * a1)) else ((h_ld S 0 24 ((2 * a1) + 1)).bind (fun v4 => if v4 = a2 then (some ((2 * a1) + 1)) else (some (-1)))))
def f_X1_joined_32 (S : HSt) (k2 : Int32 → Int32 → Int32 → Option Int32) (x1 x2 x3 : Int32) : Option Int32 := k2 x1 x2 (x3 + 1)
def f_X1_joined_2_s (S : HSt) (k2 : Int32 → Int32 → Int32 → Option Int32) (x1 x2 x3 : Int32) : Option Int32 := if (S.1 0) ≤ x3 then (some 0) else ((f_X1_sideAt S x3 x1).bind (fun r2 => if r2 = (-1) then (f_X1_joined_32 S k2 x1 x2 x3) else ((f_X1_sideAt S x3 x2).bind (fun r5 => if r5 = (-1) then (f_X1_joined_32 S k2 x1 x2 x3) else (some 1)))))
def f_X1_joined_2 (S : HSt) : Nat → Int32 → Int32 → Int32 → Option Int32
  | 0, _, _, _ => none
  | n + 1, x1, x2, x3 => f_X1_joined_2_s S (f_X1_joined_2 S n) x1 x2 x3
def f_X1_joined (S : HSt) (a1 a2 : Int32) : Option Int32 := f_X1_joined_2 S h_fu a1 a2 0
def f_X1_shorten_108 (k4 : HSt → Int32 → Int32 → Int32 → Option (Int32 × HSt)) (S : HSt) (x1 x2 x3 : Int32) : Option (Int32 × HSt) := k4 S x1 x2 (x3 + 1)
def f_X1_shorten_97 (k4 : HSt → Int32 → Int32 → Int32 → Option (Int32 × HSt)) (S : HSt) (x1 x3 x5 x6 : Int32) : Option (Int32 × HSt) := (h_st S 4 28 x5 x6).bind (fun S1 => f_X1_shorten_108 k4 S1 x1 1 x3)
def f_X1_shorten_4_s (k4 : HSt → Int32 → Int32 → Int32 → Option (Int32 × HSt)) (S : HSt) (x1 x2 x3 : Int32) : Option (Int32 × HSt) := if (2 * (S.1 0)) ≤ x3 then (h_b x2 (some (x2, S))) else ((h_ld S 0 24 (x3 ^^^ 1)).bind (fun v2 => (f_X3_pair v2 x1).bind (fun r4 => (h_ld S 4 28 r4).bind (fun v6 => (f_X1_isUpSide S x3).bind (fun r8 => if r8 = 0 then (f_X1_shorten_108 k4 S x1 x2 x3) else (if v6 = (-9) then (f_X1_shorten_108 k4 S x1 x2 x3) else ((h_ld S 0 24 x3).bind (fun v12 => (f_X3_pair v12 x1).bind (fun r14 => (h_ld S 1 12 (x3 >>> (1 &&& 31))).bind (fun v16 => (h_ld S 4 28 r14).bind (fun v18 => if v18 = (-9) then (f_X1_shorten_97 k4 S x1 x3 r14 (v6 + v16)) else ((h_ld S 4 28 r14).bind (fun v21 => if v21 ≤ (v6 + v16) then (f_X1_shorten_108 k4 S x1 x2 x3) else (f_X1_shorten_97 k4 S x1 x3 r14 (v6 + v16)))))))))))))))
def f_X1_shorten_4 : Nat → HSt → Int32 → Int32 → Int32 → Option (Int32 × HSt)
  | 0, _, _, _, _ => none
  | n + 1, S, x1, x2, x3 => f_X1_shorten_4_s (f_X1_shorten_4 n) S x1 x2 x3
def f_X1_shorten (S : HSt) (a1 : Int32) : Option (Int32 × HSt) := f_X1_shorten_4 h_fu S a1 0 0
def f_X1_leadsOn (S : HSt) (a1 a2 : Int32) : Option Int32 := (h_ld S 0 24 (a1 ^^^ 1)).bind (fun v1 => (f_X3_pair v1 a2).bind (fun r3 => (h_ld S 4 28 r3).bind (fun v5 => (f_X1_isUpSide S a1).bind (fun r7 => if r7 = 0 then (some 0) else (if v5 = (-9) then (some 0) else ((h_ld S 1 12 (a1 >>> (1 &&& 31))).bind (fun v11 => (h_ld S 0 24 a1).bind (fun v13 => (f_X3_pair v13 a2).bind (fun r15 => (h_ld S 4 28 r15).bind (fun v17 => if (v5 + v11) = v17 then (some 1) else (some 0)))))))))))
def f_X1_findNextSide_92 (S : HSt) (k32 : Int32 → Int32 → Int32 → Int32 → Option Int32) (x1 x2 x3 x4 : Int32) : Option Int32 := k32 x1 x2 x3 (x4 + 1)
def f_X1_findNextSide_89 (S : HSt) (k32 : Int32 → Int32 → Int32 → Int32 → Option Int32) (x1 x2 x4 : Int32) : Option Int32 := f_X1_findNextSide_92 S k32 x1 x2 x4 x4
def f_X1_findNextSide_32_s (S : HSt) (k32 : Int32 → Int32 → Int32 → Int32 → Option Int32) (x1 x2 x3 x4 : Int32) : Option Int32 := if (2 * (S.1 0)) ≤ x4 then (some x3) else ((h_ld S 0 24 x4).bind (fun v2 => if v2 = x1 then ((f_X1_leadsOn S x4 x2).bind (fun r5 => if r5 = 0 then (f_X1_findNextSide_92 S k32 x1 x2 x3 x4) else (if x3 = (-1) then (f_X1_findNextSide_89 S k32 x1 x2 x4) else ((h_ld S 0 24 (x4 ^^^ 1)).bind (fun v9 => (h_ld S 0 24 (x3 ^^^ 1)).bind (fun v11 => if v11 ≤ v9 then (f_X1_findNextSide_92 S k32 x1 x2 x3 x4) else (f_X1_findNextSide_89 S k32 x1 x2 x4))))))) else (f_X1_findNextSide_92 S k32 x1 x2 x3 x4)))
def f_X1_findNextSide_32 (S : HSt) : Nat → Int32 → Int32 → Int32 → Int32 → Option Int32
  | 0, _, _, _, _ => none
  | n + 1, x1, x2, x3, x4 => f_X1_findNextSide_32_s S (f_X1_findNextSide_32 S n) x1 x2 x3 x4
def f_X1_findNextSide (S : HSt) (a1 a2 : Int32) : Option Int32 := (h_ld S 3 4 a2).bind (fun v1 => if a1 = v1 then (some (-1)) else ((f_X3_pair a1 a2).bind (fun r4 => (h_ld S 4 28 r4).bind (fun v6 => if v6 = (-9) then (some (-1)) else (f_X1_findNextSide_32 S h_fu a1 a2 (-1) 0)))))
def f_X1_findWaysOf_83_s (k83 : HSt → Int32 → Int32 → Option HSt) (S : HSt) (x1 x3 : Int32) : Option HSt := if 7 ≤ x3 then (some S) else ((f_X3_pair x3 x1).bind (fun r2 => (f_X1_findNextSide S x3 x1).bind (fun r4 => (h_st S 5 28 r2 r4).bind (fun S6 => k83 S6 x1 (x3 + 1)))))
def f_X1_findWaysOf_83 : Nat → HSt → Int32 → Int32 → Option HSt
  | 0, _, _, _ => none
  | n + 1, S, x1, x3 => f_X1_findWaysOf_83_s (f_X1_findWaysOf_83 n) S x1 x3
def f_X1_findWaysOf_81 (S : HSt) (x1 : Int32) : Option HSt := f_X1_findWaysOf_83 h_fu S x1 0
def f_X1_findWaysOf_59_s (k59 : HSt → Int32 → Int32 → Int32 → Option HSt) (S : HSt) (x1 x2 x3 : Int32) : Option HSt := if x2 = 0 then (f_X1_findWaysOf_81 S x1) else (if 7 ≤ x3 then (f_X1_findWaysOf_81 S x1) else (h_bi (f_X1_shorten S x1) (fun r3 S5 => k59 S5 x1 r3 (x3 + 1))))
def f_X1_findWaysOf_59 : Nat → HSt → Int32 → Int32 → Int32 → Option HSt
  | 0, _, _, _, _ => none
  | n + 1, S, x1, x2, x3 => f_X1_findWaysOf_59_s (f_X1_findWaysOf_59 n) S x1 x2 x3
def f_X1_findWaysOf_56 (S : HSt) (x1 t0 : Int32) : Option HSt := f_X1_findWaysOf_59 h_fu S x1 t0 0
def f_X1_findWaysOf_33 (k2 : HSt → Int32 → Int32 → Option HSt) (S : HSt) (x1 x2 t0 t1 : Int32) : Option HSt := (h_st S 4 28 t1 t0).bind (fun S1 => k2 S1 x1 (x2 + 1))
def f_X1_findWaysOf_2_s (k2 : HSt → Int32 → Int32 → Option HSt) (S : HSt) (x1 x2 : Int32) : Option HSt := if 7 ≤ x2 then ((h_ld S 3 4 x1).bind (fun v2 => if v2 = (-9) then (f_X1_findWaysOf_56 S x1 0) else (f_X1_findWaysOf_56 S x1 1))) else ((f_X3_pair x2 x1).bind (fun r5 => (h_ld S 3 4 x1).bind (fun v7 => if x2 = v7 then (f_X1_findWaysOf_33 k2 S x1 x2 0 r5) else (f_X1_findWaysOf_33 k2 S x1 x2 (-9) r5))))
def f_X1_findWaysOf_2 : Nat → HSt → Int32 → Int32 → Option HSt
  | 0, _, _, _ => none
  | n + 1, S, x1, x2 => f_X1_findWaysOf_2_s (f_X1_findWaysOf_2 n) S x1 x2
def f_X1_findWaysOf (S : HSt) (a1 : Int32) : Option HSt := f_X1_findWaysOf_2 h_fu S a1 0
def f_X1_findWays_2_s (k2 : HSt → Int32 → Option HSt) (S : HSt) (x1 : Int32) : Option HSt := if 4 ≤ x1 then (some S) else ((f_X1_findWaysOf S x1).bind (fun S4 => k2 S4 (x1 + 1)))
def f_X1_findWays_2 : Nat → HSt → Int32 → Option HSt
  | 0, _, _ => none
  | n + 1, S, x1 => f_X1_findWays_2_s (f_X1_findWays_2 n) S x1
def f_X1_findWays (S : HSt) : Option HSt := f_X1_findWays_2 h_fu S 0
def f_X1_addLink (S : HSt) (a1 a2 a3 : Int32) : Option (Int32 × HSt) := (some (h_put S 0 ((S.1 0) + 1))).bind (fun S1 => (h_st S1 0 24 (2 * (S.1 0)) a1).bind (fun S3 => (h_st S3 0 24 ((2 * (S.1 0)) + 1) a2).bind (fun S5 => (h_st S5 1 12 (S.1 0) a3).bind (fun S7 => (h_st S7 2 12 (S.1 0) 1).bind (fun S9 => (f_X1_findWays S9 ).bind (fun S13 => some (S.1 0, S13)))))))
def f_X1_setCost (S : HSt) (a1 a2 : Int32) : Option HSt := (h_st S 1 12 a1 a2).bind (fun S1 => (f_X1_findWays S1 ).bind (fun S5 => some S5))
def f_X1_setUp (S : HSt) (a1 a2 : Int32) : Option HSt := (h_st S 2 12 a1 a2).bind (fun S1 => (f_X1_findWays S1 ).bind (fun S5 => some S5))
def f_X1_setEnd (S : HSt) (a1 a2 : Int32) : Option HSt := (h_st S 3 4 a1 a2).bind (fun S1 => (f_X1_findWaysOf S1 a1).bind (fun S5 => some S5))
def f_X1_nextBox (S : HSt) (a1 a2 : Int32) : Option Int32 := (f_X3_pair a1 a2).bind (fun r1 => (h_ld S 5 28 r1).bind (fun v3 => if v3 = (-1) then (some (-9)) else ((h_ld S 0 24 (v3 ^^^ 1)).bind (fun v6 => some v6))))
def f_X1_linksUp_4_s (S : HSt) (k4 : Int32 → Int32 → Option Int32) (x1 x2 : Int32) : Option Int32 := if (S.1 0) ≤ x2 then (some x1) else ((h_ld S 2 12 x2).bind (fun v2 => k4 (x1 + v2) (x2 + 1)))
def f_X1_linksUp_4 (S : HSt) : Nat → Int32 → Int32 → Option Int32
  | 0, _, _ => none
  | n + 1, x1, x2 => f_X1_linksUp_4_s S (f_X1_linksUp_4 S n) x1 x2
def f_X1_linksUp (S : HSt) : Option Int32 := f_X1_linksUp_4 S h_fu 0 0
def f_X1_classesWithEnd_23 (S : HSt) (k4 : Int32 → Int32 → Option Int32) (x1 x2 : Int32) : Option Int32 := k4 x1 (x2 + 1)
def f_X1_classesWithEnd_4_s (S : HSt) (k4 : Int32 → Int32 → Option Int32) (x1 x2 : Int32) : Option Int32 := if 4 ≤ x2 then (some x1) else ((h_ld S 3 4 x2).bind (fun v2 => if v2 = (-9) then (f_X1_classesWithEnd_23 S k4 x1 x2) else (f_X1_classesWithEnd_23 S k4 (x1 + 1) x2)))
def f_X1_classesWithEnd_4 (S : HSt) : Nat → Int32 → Int32 → Option Int32
  | 0, _, _ => none
  | n + 1, x1, x2 => f_X1_classesWithEnd_4_s S (f_X1_classesWithEnd_4 S n) x1 x2
def f_X1_classesWithEnd (S : HSt) : Option Int32 := f_X1_classesWithEnd_4 S h_fu 0 0
def f_X2_walkT_156 (k11 : HSt → Int32 → Int32 → Int32 → Int32 → Int32 → Option (Int32 × HSt)) (S : HSt) (x2 x6 x8 t0 : Int32) : Option (Int32 × HSt) := (h_ld S 0 24 (x8 ^^^ 1)).bind (fun v1 => k11 S x2 v1 t0 (x8 ^^^ 1) (x6 + 1))
def f_X2_walkT_138 (k11 : HSt → Int32 → Int32 → Int32 → Int32 → Int32 → Option (Int32 × HSt)) (S : HSt) (x2 x6 x8 x9 : Int32) : Option (Int32 × HSt) := (f_X3_labelOf x9).bind (fun r1 => if r1 = 3 then (f_X2_walkT_156 k11 S x2 x6 x8 0) else ((f_X3_labelOf x9).bind (fun r4 => f_X2_walkT_156 k11 S x2 x6 x8 r4)))
def f_X2_walkT_64 (k11 : HSt → Int32 → Int32 → Int32 → Int32 → Int32 → Option (Int32 × HSt)) (S : HSt) (x2 x3 x4 x6 t0 : Int32) : Option (Int32 × HSt) := if t0 = (-1) then (some (2, S)) else ((h_ld S 3 4 t0).bind (fun v2 => if v2 = x3 then (some (0, S)) else ((f_X3_pair x3 t0).bind (fun r5 => (h_ld S 5 28 r5).bind (fun v7 => if v7 = (-1) then (some (1, S)) else ((f_X0_slipUsed S x3 t0).bind (fun r10 => if r10 = 0 then (if x4 = 0 then (f_X2_walkT_138 k11 S x2 x6 v7 r10) else (some (3, S))) else (f_X2_walkT_138 k11 S x2 x6 v7 r10))))))))
def f_X2_walkT_11_s (k11 : HSt → Int32 → Int32 → Int32 → Int32 → Int32 → Option (Int32 × HSt)) (S : HSt) (x2 x3 x4 x5 x6 : Int32) : Option (Int32 × HSt) := if 14 < x6 then (some (4, S)) else ((h_st S 14 15 x6 x3).bind (fun S2 => (h_st S2 15 15 x6 x4).bind (fun S4 => (some (h_put S4 4 (x6 + 1))).bind (fun S6 => if x4 = 0 then (f_X2_walkT_64 k11 S6 x2 x3 x4 x6 x2) else ((f_X0_classMeant S6 x3 x5 x4).bind (fun r9 => f_X2_walkT_64 k11 S6 x2 x3 x4 x6 r9))))))
def f_X2_walkT_11 : Nat → HSt → Int32 → Int32 → Int32 → Int32 → Int32 → Option (Int32 × HSt)
  | 0, _, _, _, _, _, _ => none
  | n + 1, S, x2, x3, x4, x5, x6 => f_X2_walkT_11_s (f_X2_walkT_11 n) S x2 x3 x4 x5 x6
def f_X2_walkT (S : HSt) (a1 a2 : Int32) : Option (Int32 × HSt) := f_X2_walkT_11 h_fu S a2 a1 0 (-1) 0
def f_X2_walkR_156 (k11 : HSt → Int32 → Int32 → Int32 → Int32 → Int32 → Option (Int32 × HSt)) (S : HSt) (x2 x6 x8 t0 : Int32) : Option (Int32 × HSt) := (h_ld S 0 24 (x8 ^^^ 1)).bind (fun v1 => k11 S x2 v1 t0 (x8 ^^^ 1) (x6 + 1))
def f_X2_walkR_138 (k11 : HSt → Int32 → Int32 → Int32 → Int32 → Int32 → Option (Int32 × HSt)) (S : HSt) (x2 x6 x8 x9 : Int32) : Option (Int32 × HSt) := (f_X3_labelOf x9).bind (fun r1 => if r1 = 3 then (f_X2_walkR_156 k11 S x2 x6 x8 0) else ((f_X3_labelOf x9).bind (fun r4 => f_X2_walkR_156 k11 S x2 x6 x8 r4)))
def f_X2_walkR_64 (k11 : HSt → Int32 → Int32 → Int32 → Int32 → Int32 → Option (Int32 × HSt)) (S : HSt) (x2 x3 x4 x6 t0 : Int32) : Option (Int32 × HSt) := if t0 = (-1) then (some (2, S)) else ((h_ld S 3 4 t0).bind (fun v2 => if v2 = x3 then (some (0, S)) else ((f_X3_pair x3 t0).bind (fun r5 => (h_ld S 5 28 r5).bind (fun v7 => if v7 = (-1) then (some (1, S)) else ((f_X0_slipUsed S x3 t0).bind (fun r10 => if r10 = 0 then (if x4 = 0 then (f_X2_walkR_138 k11 S x2 x6 v7 r10) else (some (3, S))) else (f_X2_walkR_138 k11 S x2 x6 v7 r10))))))))
def f_X2_walkR_11_s (k11 : HSt → Int32 → Int32 → Int32 → Int32 → Int32 → Option (Int32 × HSt)) (S : HSt) (x2 x3 x4 x5 x6 : Int32) : Option (Int32 × HSt) := if 14 < x6 then (some (4, S)) else ((h_st S 16 15 x6 x3).bind (fun S2 => (h_st S2 17 15 x6 x4).bind (fun S4 => (some (h_put S4 5 (x6 + 1))).bind (fun S6 => if x4 = 0 then (f_X2_walkR_64 k11 S6 x2 x3 x4 x6 x2) else ((f_X0_classMeant S6 x3 x5 x4).bind (fun r9 => f_X2_walkR_64 k11 S6 x2 x3 x4 x6 r9))))))
def f_X2_walkR_11 : Nat → HSt → Int32 → Int32 → Int32 → Int32 → Int32 → Option (Int32 × HSt)
  | 0, _, _, _, _, _, _ => none
  | n + 1, S, x2, x3, x4, x5, x6 => f_X2_walkR_11_s (f_X2_walkR_11 n) S x2 x3 x4 x5 x6
def f_X2_walkR (S : HSt) (a1 a2 : Int32) : Option (Int32 × HSt) := f_X2_walkR_11 h_fu S a2 a1 0 (-1) 0
def f_X2_labelledBetweenR_2_s (S : HSt) (k2 : Int32 → Option Int32) (x1 : Int32) : Option Int32 := if ((S.1 5) - 1) ≤ x1 then (some 1) else ((h_ld S 17 15 x1).bind (fun v2 => if v2 = 0 then (some 0) else (k2 (x1 + 1))))
def f_X2_labelledBetweenR_2 (S : HSt) : Nat → Int32 → Option Int32
  | 0, _ => none
  | n + 1, x1 => f_X2_labelledBetweenR_2_s S (f_X2_labelledBetweenR_2 S n) x1
def f_X2_labelledBetweenR (S : HSt) : Option Int32 := f_X2_labelledBetweenR_2 S h_fu 1
def f_X3_isBox (a0 : Int32) : Option Int32 := if a0 < 0 then (some 0) else (if 7 ≤ a0 then (some 0) else (some 1))
def f_X3_isCost (a0 : Int32) : Option Int32 := if a0 < 1 then (some 0) else (if 9 < a0 then (some 0) else (some 1))
def f_X3_link (S : HSt) (a1 a2 a3 : Int32) : Option (Int32 × HSt) := (f_X3_isBox a1).bind (fun r1 => if r1 = 0 then (some ((-1), S)) else ((f_X3_isBox a2).bind (fun r4 => if r4 = 0 then (some ((-1), S)) else ((f_X3_isCost a3).bind (fun r7 => if r7 = 0 then (some ((-2), S)) else (if a1 = a2 then (some ((-3), S)) else ((f_X1_joined S a1 a2).bind (fun r11 => if r11 = 0 then (if (S.1 0) < 12 then (h_bi (f_X1_addLink S (if a2 < a1 then a2 else a1) (if a1 < a2 then a2 else a1) a3) (fun r15 S17 => some (r15, S17))) else (some ((-4), S))) else (some ((-3), S))))))))))
def f_X3_cost (S : HSt) (a1 a2 : Int32) : Option (Int32 × HSt) := (f_X1_isLink S a1).bind (fun r1 => if r1 = 0 then (some ((-1), S)) else ((f_X3_isCost a2).bind (fun r4 => if r4 = 0 then (some ((-2), S)) else ((h_ld S 1 12 a1).bind (fun v7 => (f_X1_setCost S a1 a2).bind (fun S11 => some (v7, S11)))))))
def f_X3_isYesNo_9 : Option Int32 := some 1
def f_X3_isYesNo (a0 : Int32) : Option Int32 := if a0 = 0 then f_X3_isYesNo_9 else (if a0 = 1 then f_X3_isYesNo_9 else (some 0))
def f_X3_up (S : HSt) (a1 a2 : Int32) : Option (Int32 × HSt) := (f_X1_isLink S a1).bind (fun r1 => if r1 = 0 then (some ((-1), S)) else ((f_X3_isYesNo a2).bind (fun r4 => if r4 = 0 then (some ((-2), S)) else ((h_ld S 2 12 a1).bind (fun v7 => (f_X1_setUp S a1 a2).bind (fun S11 => if a2 = 0 then ((f_X0_forgetLink S11 a1).bind (fun S15 => some (v7, S15))) else (some (v7, S11))))))))
def f_X3_isClass (a0 : Int32) : Option Int32 := if a0 < 0 then (some 0) else (if 4 ≤ a0 then (some 0) else (some 1))
def f_X3_end_25 (S : HSt) (x1 x2 : Int32) : Option (Int32 × HSt) := (h_ld S 3 4 x1).bind (fun v1 => (f_X1_setEnd S x1 x2).bind (fun S5 => some (v1, S5)))
def f_X3_end (S : HSt) (a1 a2 : Int32) : Option (Int32 × HSt) := (f_X3_isClass a1).bind (fun r1 => if r1 = 0 then (some ((-1), S)) else ((f_X3_isBox a2).bind (fun r4 => if r4 = 0 then (if a2 = (-9) then (f_X3_end_25 S a1 a2) else (some ((-2), S))) else (f_X3_end_25 S a1 a2))))
def f_X3_ofLink (S : HSt) (a1 a2 : Int32) : Option Int32 := (f_X1_isLink S a1).bind (fun r1 => if r1 = 0 then (some (-1)) else (if a2 = 0 then ((h_ld S 0 24 (2 * a1)).bind (fun v5 => some v5)) else (if a2 = 1 then ((h_ld S 0 24 ((2 * a1) + 1)).bind (fun v8 => some v8)) else (if a2 = 2 then ((h_ld S 1 12 a1).bind (fun v11 => some v11)) else (if a2 = 3 then ((h_ld S 2 12 a1).bind (fun v14 => some v14)) else (some (-2)))))))
def f_X3_next (S : HSt) (a1 a2 : Int32) : Option Int32 := (f_X3_isBox a1).bind (fun r1 => if r1 = 0 then (some (-1)) else ((f_X3_isClass a2).bind (fun r4 => if r4 = 0 then (some (-1)) else ((f_X1_nextBox S a1 a2).bind (fun r7 => some r7)))))
def f_X3_far (S : HSt) (a1 a2 : Int32) : Option Int32 := (f_X3_isBox a1).bind (fun r1 => if r1 = 0 then (some (-1)) else ((f_X3_isClass a2).bind (fun r4 => if r4 = 0 then (some (-1)) else ((f_X3_pair a1 a2).bind (fun r7 => (h_ld S 4 28 r7).bind (fun v9 => some v9))))))
def f_X3_mode (S : HSt) (a1 a2 a3 : Int32) : Option (Int32 × HSt) := (f_X3_isBox a1).bind (fun r1 => if r1 = 0 then (some ((-1), S)) else (if a2 < 0 then (some ((-2), S)) else (if 4 ≤ a2 then (some ((-2), S)) else ((f_X3_isYesNo a3).bind (fun r6 => if r6 = 0 then (some ((-2), S)) else (h_bi (f_X0_changeMode S a1 a2 a3) (fun r9 S11 => some (r9, S11))))))))
def f_X3_setting_29 (S : HSt) (x1 x2 : Int32) : Option (Int32 × HSt) := if x1 = 1 then (if x2 < 1 then (some ((-2), S)) else (if 9 < x2 then (some ((-2), S)) else ((some (h_put S 2 x2)).bind (fun S4 => some (S.1 2, S4))))) else (some ((-2), S))
def f_X3_setting (S : HSt) (a1 a2 : Int32) : Option (Int32 × HSt) := if a1 = 0 then ((f_X3_isYesNo a2).bind (fun r2 => if r2 = 0 then (f_X3_setting_29 S a1 a2) else ((some (h_put S 1 a2)).bind (fun S5 => some (S.1 1, S5))))) else (f_X3_setting_29 S a1 a2)
def f_X3_ticks (S : HSt) (a1 : Int32) : Option (Int32 × HSt) := if a1 < 0 then (some ((-2), S)) else (if a1 ≤ 20 then (h_bi (f_X0_runTicks S a1) (fun r3 S5 => some (r3, S5))) else (some ((-2), S)))
def f_X3_sideFor (S : HSt) (a1 a2 : Int32) : Option Int32 := (f_X3_isBox a1).bind (fun r1 => if r1 = 0 then (some (-1)) else ((f_X1_isLink S a2).bind (fun r4 => if r4 = 0 then (some (-1)) else ((f_X1_sideAt S a2 a1).bind (fun r7 => some r7)))))
def f_X3_partOf (a0 a1 : Int32) : Option Int32 := if a1 < 0 then (some (-2)) else (if a1 ≤ 1 then (if a0 = 0 then (some (-9)) else (if a1 = 0 then ((f_X3_labelOf a0).bind (fun r7 => some r7)) else ((f_X3_countOf a0).bind (fun r5 => some r5)))) else (some (-2)))
def f_X3_handed (S : HSt) (a1 a2 a3 a4 : Int32) : Option Int32 := (f_X3_sideFor S a1 a2).bind (fun r1 => if r1 = (-1) then (some (-1)) else ((f_X3_isClass a3).bind (fun r4 => if r4 = 0 then (some (-1)) else ((f_X3_slot r1 a3).bind (fun r7 => (h_ld S 6 96 r7).bind (fun v9 => (f_X3_partOf v9 a4).bind (fun r11 => some r11)))))))
def f_X3_kept (S : HSt) (a1 a2 a3 a4 : Int32) : Option Int32 := (f_X3_sideFor S a1 a2).bind (fun r1 => if r1 = (-1) then (some (-1)) else ((f_X3_isClass a3).bind (fun r4 => if r4 = 0 then (some (-1)) else ((f_X3_slot r1 a3).bind (fun r7 => (h_ld S 7 96 r7).bind (fun v9 => (f_X3_partOf v9 a4).bind (fun r11 => some r11)))))))
def f_X3_used (S : HSt) (a1 a2 : Int32) : Option Int32 := (f_X3_isBox a1).bind (fun r1 => if r1 = 0 then (some (-1)) else ((f_X3_isClass a2).bind (fun r4 => if r4 = 0 then (some (-1)) else ((f_X0_slipUsed S a1 a2).bind (fun r7 => if r7 = 0 then (some (-9)) else ((f_X3_labelOf r7).bind (fun r10 => some r10)))))))
def f_X3_meaning (S : HSt) (a1 a2 a3 : Int32) : Option Int32 := (f_X3_sideFor S a1 a2).bind (fun r1 => if r1 = (-1) then (some (-1)) else (if a3 < 0 then (some (-2)) else (if a3 ≤ 99 then ((f_X0_classMeant S a1 r1 a3).bind (fun r6 => if r6 = (-1) then (some (-9)) else (some r6))) else (some (-2)))))
def f_X3_settles (S : HSt) : Option (Int32 × HSt) := h_bi (f_X0_ticksTillStill S ) (fun r1 S3 => some (r1, S3))
def f_X3_letter (S : HSt) (a1 a2 : Int32) : Option (Int32 × HSt) := (f_X3_isBox a1).bind (fun r1 => if r1 = 0 then (some ((-1), S)) else ((f_X3_isClass a2).bind (fun r4 => if r4 = 0 then (some ((-1), S)) else (h_bi (f_X2_walkT S a1 a2) (fun r7 S9 => some (r7, S9))))))
def f_X3_trace (S : HSt) (a1 a2 : Int32) : Option Int32 := if a1 < 0 then (some (-2)) else (if 14 < a1 then (some (-2)) else (if a2 < 0 then (some (-2)) else (if a2 ≤ 1 then (if a1 < (S.1 4) then (if a2 = 0 then ((h_ld S 14 15 a1).bind (fun v9 => some v9)) else ((h_ld S 15 15 a1).bind (fun v7 => some v7))) else (some (-9))) else (some (-2)))))
def f_X3_isServed_17 (S : HSt) (x3 t0 : Int32) : Option (Int32 × HSt) := if x3 = 0 then (h_b t0 (some (t0, S))) else (if x3 = 1 then (if t0 = 0 then (some (1, S)) else (some (0, S))) else (if t0 = 0 then (some (0, S)) else ((f_X2_labelledBetweenR S ).bind (fun r4 => if r4 = 0 then (some (0, S)) else (some (1, S))))))
def f_X3_isServed (S : HSt) (a1 a2 a3 : Int32) : Option (Int32 × HSt) := h_bi (f_X2_walkR S a1 a2) (fun r1 S3 => if r1 = 0 then (f_X3_isServed_17 S3 a3 1) else (f_X3_isServed_17 S3 a3 0))
def f_X3_served_51 (k26 : HSt → Int32 → Int32 → Int32 → Int32 → Option (Int32 × HSt)) (S : HSt) (x1 x2 x3 x4 : Int32) : Option (Int32 × HSt) := k26 S x1 x2 x3 (x4 + 1)
def f_X3_served_26_s (k26 : HSt → Int32 → Int32 → Int32 → Int32 → Option (Int32 × HSt)) (S : HSt) (x1 x2 x3 x4 : Int32) : Option (Int32 × HSt) := if 7 ≤ x4 then (some (x3, S)) else (h_bi (f_X3_isServed S x4 x1 x2) (fun r2 S4 => if r2 = 0 then (f_X3_served_51 k26 S4 x1 x2 x3 x4) else (f_X3_served_51 k26 S4 x1 x2 (x3 ||| (1 <<< (x4 &&& 31))) x4)))
def f_X3_served_26 : Nat → HSt → Int32 → Int32 → Int32 → Int32 → Option (Int32 × HSt)
  | 0, _, _, _, _, _ => none
  | n + 1, S, x1, x2, x3, x4 => f_X3_served_26_s (f_X3_served_26 n) S x1 x2 x3 x4
def f_X3_served (S : HSt) (a1 a2 : Int32) : Option (Int32 × HSt) := (f_X3_isClass a1).bind (fun r1 => if r1 = 0 then (some ((-1), S)) else (if a2 < 0 then (some ((-2), S)) else (if a2 ≤ 2 then (f_X3_served_26 h_fu S a1 a2 0 0) else (some ((-2), S)))))
def f_X3_merged_62 (S : HSt) (k21 : Int32 → Int32 → Int32 → Int32 → Option Int32) (x1 x2 x3 x4 : Int32) : Option Int32 := k21 x1 x2 x3 (x4 + 1)
def f_X3_merged_21_s (S : HSt) (k21 : Int32 → Int32 → Int32 → Int32 → Option Int32) (x1 x2 x3 x4 : Int32) : Option Int32 := if 7 ≤ x4 then (some x3) else ((f_X1_nextBox S x4 x2).bind (fun r2 => if r2 = x1 then ((f_X0_slipUsed S x4 x2).bind (fun r5 => if r5 = 0 then (f_X3_merged_62 S k21 x1 x2 x3 x4) else (f_X3_merged_62 S k21 x1 x2 (x3 ||| (1 <<< (x4 &&& 31))) x4))) else (f_X3_merged_62 S k21 x1 x2 x3 x4)))
def f_X3_merged_21 (S : HSt) : Nat → Int32 → Int32 → Int32 → Int32 → Option Int32
  | 0, _, _, _, _ => none
  | n + 1, x1, x2, x3, x4 => f_X3_merged_21_s S (f_X3_merged_21 S n) x1 x2 x3 x4
def f_X3_merged (S : HSt) (a1 a2 : Int32) : Option Int32 := (f_X3_isBox a1).bind (fun r1 => if r1 = 0 then (some (-1)) else ((f_X3_isClass a2).bind (fun r4 => if r4 = 0 then (some (-1)) else (f_X3_merged_21 S h_fu a1 a2 0 0))))
def f_X3_countSlipsH_19 (S : HSt) (k4 : Int32 → Int32 → Option Int32) (x1 x2 : Int32) : Option Int32 := k4 x1 (x2 + 1)
def f_X3_countSlipsH_4_s (S : HSt) (k4 : Int32 → Int32 → Option Int32) (x1 x2 : Int32) : Option Int32 := if 96 ≤ x2 then (some x1) else ((h_ld S 6 96 x2).bind (fun v2 => if v2 = 0 then (f_X3_countSlipsH_19 S k4 x1 x2) else (f_X3_countSlipsH_19 S k4 (x1 + 1) x2)))
def f_X3_countSlipsH_4 (S : HSt) : Nat → Int32 → Int32 → Option Int32
  | 0, _, _ => none
  | n + 1, x1, x2 => f_X3_countSlipsH_4_s S (f_X3_countSlipsH_4 S n) x1 x2
def f_X3_countSlipsH (S : HSt) : Option Int32 := f_X3_countSlipsH_4 S h_fu 0 0
def f_X3_countSlipsK_19 (S : HSt) (k4 : Int32 → Int32 → Option Int32) (x1 x2 : Int32) : Option Int32 := k4 x1 (x2 + 1)
def f_X3_countSlipsK_4_s (S : HSt) (k4 : Int32 → Int32 → Option Int32) (x1 x2 : Int32) : Option Int32 := if 96 ≤ x2 then (some x1) else ((h_ld S 7 96 x2).bind (fun v2 => if v2 = 0 then (f_X3_countSlipsK_19 S k4 x1 x2) else (f_X3_countSlipsK_19 S k4 (x1 + 1) x2)))
def f_X3_countSlipsK_4 (S : HSt) : Nat → Int32 → Int32 → Option Int32
  | 0, _, _ => none
  | n + 1, x1, x2 => f_X3_countSlipsK_4_s S (f_X3_countSlipsK_4 S n) x1 x2
def f_X3_countSlipsK (S : HSt) : Option Int32 := f_X3_countSlipsK_4 S h_fu 0 0
def f_X3_many (S : HSt) (a1 : Int32) : Option Int32 := if a1 = 0 then (some (S.1 0)) else (if a1 = 1 then ((f_X1_linksUp S ).bind (fun r3 => some r3)) else (if a1 = 2 then ((f_X3_countSlipsH S ).bind (fun r6 => some r6)) else (if a1 = 3 then ((f_X3_countSlipsK S ).bind (fun r9 => some r9)) else (if a1 = 4 then ((f_X1_classesWithEnd S ).bind (fun r12 => some r12)) else (if a1 = 5 then (some (S.1 3)) else (if a1 = 6 then ((f_X0_greatestLabel S ).bind (fun r16 => some r16)) else (some (-2))))))))
def f_X4_within (a0 a1 a2 : Int32) : Option Int32 := if a0 < a1 then (some 0) else (if a2 < a0 then (some 0) else (some 1))
def f_X4_isBox (a0 : Int32) : Option Int32 := (f_X4_within a0 0 6).bind (fun r1 => h_b r1 (some r1))
def f_X4_isClass (a0 : Int32) : Option Int32 := (f_X4_within a0 0 3).bind (fun r1 => h_b r1 (some r1))
def f_X4_isLink (S : HSt) (a1 : Int32) : Option Int32 := (f_X4_within a1 0 ((S.1 0) - 1)).bind (fun r1 => h_b r1 (some r1))
def f_X4_linkBetween_52 (S : HSt) (k2 : Int32 → Int32 → Int32 → Option Int32) (x1 x2 x3 : Int32) : Option Int32 := k2 x1 x2 (x3 + 1)
def f_X4_linkBetween_30 (S : HSt) (k2 : Int32 → Int32 → Int32 → Option Int32) (x1 x2 x3 : Int32) : Option Int32 := (h_ld S 0 12 x3).bind (fun v1 => if v1 = x2 then ((h_ld S 1 12 x3).bind (fun v4 => if v4 = x1 then (some x3) else (f_X4_linkBetween_52 S k2 x1 x2 x3))) else (f_X4_linkBetween_52 S k2 x1 x2 x3))
def f_X4_linkBetween_2_s (S : HSt) (k2 : Int32 → Int32 → Int32 → Option Int32) (x1 x2 x3 : Int32) : Option Int32 := if (S.1 0) ≤ x3 then (some (-9)) else ((h_ld S 0 12 x3).bind (fun v2 => if v2 = x1 then ((h_ld S 1 12 x3).bind (fun v5 => if v5 = x2 then (some x3) else (f_X4_linkBetween_30 S k2 x1 x2 x3))) else (f_X4_linkBetween_30 S k2 x1 x2 x3)))
def f_X4_linkBetween_2 (S : HSt) : Nat → Int32 → Int32 → Int32 → Option Int32
  | 0, _, _, _ => none
  | n + 1, x1, x2, x3 => f_X4_linkBetween_2_s S (f_X4_linkBetween_2 S n) x1 x2 x3
def f_X4_linkBetween (S : HSt) (a1 a2 : Int32) : Option Int32 := f_X4_linkBetween_2 S h_fu a1 a2 0
def f_X4_isAt_20 (S : HSt) : Option Int32 := some 1
def f_X4_isAt (S : HSt) (a1 a2 : Int32) : Option Int32 := (h_ld S 0 12 a1).bind (fun v1 => if v1 = a2 then (f_X4_isAt_20 S) else ((h_ld S 1 12 a1).bind (fun v4 => if v4 = a2 then (f_X4_isAt_20 S) else (some 0))))
def f_X4_otherOf (S : HSt) (a1 a2 : Int32) : Option Int32 := (h_ld S 0 12 a1).bind (fun v1 => if v1 = a2 then ((h_ld S 1 12 a1).bind (fun v6 => some v6)) else ((h_ld S 0 12 a1).bind (fun v4 => some v4)))
def f_X4_link_97 (S : HSt) (x3 t0 t1 : Int32) : Option (Int32 × HSt) := (h_st S 1 12 t1 t0).bind (fun S1 => (h_st S1 2 12 (S1.1 0) x3).bind (fun S3 => (h_stz S3 3 12 (S3.1 0) 1).bind (fun S5 => (some (h_put S5 0 ((S5.1 0) + 1))).bind (fun S7 => some ((S7.1 0) - 1, S7)))))
def f_X4_link_78 (S : HSt) (x1 x2 x3 t0 t1 : Int32) : Option (Int32 × HSt) := (h_st S 0 12 t1 t0).bind (fun S1 => if x2 ≤ x1 then (f_X4_link_97 S1 x3 x1 (S1.1 0)) else (f_X4_link_97 S1 x3 x2 (S1.1 0)))
def f_X4_link (S : HSt) (a1 a2 a3 : Int32) : Option (Int32 × HSt) := (f_X4_isBox a1).bind (fun r1 => if r1 = 0 then (some ((-1), S)) else ((f_X4_isBox a2).bind (fun r4 => if r4 = 0 then (some ((-1), S)) else ((f_X4_within a3 1 9).bind (fun r7 => if r7 = 0 then (some ((-2), S)) else (if a1 = a2 then (some ((-3), S)) else ((f_X4_linkBetween S a1 a2).bind (fun r11 => if r11 = (-9) then (if (S.1 0) = 12 then (some ((-4), S)) else (if a2 ≤ a1 then (f_X4_link_78 S a1 a2 a3 a2 (S.1 0)) else (f_X4_link_78 S a1 a2 a3 a1 (S.1 0)))) else (some ((-3), S))))))))))
def f_X4_cost (S : HSt) (a1 a2 : Int32) : Option (Int32 × HSt) := (f_X4_isLink S a1).bind (fun r1 => if r1 = 0 then (some ((-1), S)) else ((f_X4_within a2 1 9).bind (fun r4 => if r4 = 0 then (some ((-2), S)) else ((h_ld S 2 12 a1).bind (fun v7 => (h_st S 2 12 a1 a2).bind (fun S9 => some (v7, S9)))))))
def f_X4_up_95 (k56 : HSt → Int32 → Int32 → Int32 → Int32 → Option (Int32 × HSt)) (S : HSt) (x1 x2 x3 x4 : Int32) : Option (Int32 × HSt) := k56 S x1 x2 x3 (x4 + 1)
def f_X4_up_56_s (k56 : HSt → Int32 → Int32 → Int32 → Int32 → Option (Int32 × HSt)) (S : HSt) (x1 x2 x3 x4 : Int32) : Option (Int32 × HSt) := if 336 ≤ x4 then (some (x3, S)) else (if x2 = 0 then (if ((x4 / 4) - (x4 / 4) / 12 * 12) = x1 then ((h_st S 8 336 x4 0).bind (fun S4 => (h_st S4 10 336 x4 0).bind (fun S6 => f_X4_up_95 k56 S6 x1 x2 x3 x4))) else (f_X4_up_95 k56 S x1 x2 x3 x4)) else (some (x3, S)))
def f_X4_up_56 : Nat → HSt → Int32 → Int32 → Int32 → Int32 → Option (Int32 × HSt)
  | 0, _, _, _, _, _ => none
  | n + 1, S, x1, x2, x3, x4 => f_X4_up_56_s (f_X4_up_56 n) S x1 x2 x3 x4
def f_X4_up_52 (S : HSt) (x1 x2 x3 t0 t1 : Int32) : Option (Int32 × HSt) := (h_stz S 3 12 t1 t0).bind (fun S1 => f_X4_up_56 h_fu S1 x1 x2 x3 0)
def f_X4_up_36 (S : HSt) (x1 x2 t0 : Int32) : Option (Int32 × HSt) := if x2 = 1 then (f_X4_up_52 S x1 x2 t0 1 x1) else (f_X4_up_52 S x1 x2 t0 0 x1)
def f_X4_up (S : HSt) (a1 a2 : Int32) : Option (Int32 × HSt) := (f_X4_isLink S a1).bind (fun r1 => if r1 = 0 then (some ((-1), S)) else ((f_X4_within a2 0 1).bind (fun r4 => if r4 = 0 then (some ((-2), S)) else ((h_ld S 3 12 a1).bind (fun v7 => if v7 = 0 then (f_X4_up_36 S a1 a2 0) else (f_X4_up_36 S a1 a2 1))))))
def f_X4_end_25 (S : HSt) (x1 x2 : Int32) : Option (Int32 × HSt) := (h_ld S 4 4 x1).bind (fun v1 => (h_st S 4 4 x1 x2).bind (fun S3 => some (v1, S3)))
def f_X4_end (S : HSt) (a1 a2 : Int32) : Option (Int32 × HSt) := (f_X4_isClass a1).bind (fun r1 => if r1 = 0 then (some ((-1), S)) else (if a2 = (-9) then (f_X4_end_25 S a1 a2) else ((f_X4_isBox a2).bind (fun r5 => if r5 = 0 then (some ((-2), S)) else (f_X4_end_25 S a1 a2)))))
def f_X4_ofLink (S : HSt) (a1 a2 : Int32) : Option Int32 := (f_X4_isLink S a1).bind (fun r1 => if r1 = 0 then (some (-1)) else (if a2 = 0 then ((h_ld S 0 12 a1).bind (fun v5 => some v5)) else (if a2 = 1 then ((h_ld S 1 12 a1).bind (fun v8 => some v8)) else (if a2 = 2 then ((h_ld S 2 12 a1).bind (fun v11 => some v11)) else (if a2 = 3 then ((h_ld S 3 12 a1).bind (fun v14 => if v14 = 0 then (some 0) else (some 1))) else (some (-2)))))))
def f_X4_findFar_183 (k47 : HSt → Int32 → Int32 → Option HSt) (S : HSt) (x2 x3 : Int32) : Option HSt := k47 S x2 (x3 + 1)
def f_X4_findFar_127 (k47 : HSt → Int32 → Int32 → Option HSt) (S : HSt) (x2 x3 x4 x5 : Int32) : Option HSt := (h_ld S 3 12 x3).bind (fun v1 => if v1 = 0 then (f_X4_findFar_183 k47 S x2 x3) else ((h_ld S 5 7 x5).bind (fun v4 => (h_ld S 2 12 x3).bind (fun v6 => (h_ld S 5 7 x4).bind (fun v8 => if v8 ≤ (v4 + v6) then (f_X4_findFar_183 k47 S x2 x3) else ((h_ld S 5 7 x5).bind (fun v11 => (h_ld S 2 12 x3).bind (fun v13 => (h_st S 5 7 x4 (v11 + v13)).bind (fun S15 => f_X4_findFar_183 k47 S15 1 x3)))))))))
def f_X4_findFar_47_s (k39 : HSt → Int32 → Option HSt) (k47 : HSt → Int32 → Int32 → Option HSt) (S : HSt) (x2 x3 : Int32) : Option HSt := if (S.1 0) ≤ x3 then (k39 S x2) else ((h_ld S 0 12 x3).bind (fun v2 => (h_ld S 1 12 x3).bind (fun v4 => (h_ld S 3 12 x3).bind (fun v6 => if v6 = 0 then (f_X4_findFar_127 k47 S x2 x3 v2 v4) else ((h_ld S 5 7 v2).bind (fun v9 => (h_ld S 2 12 x3).bind (fun v11 => (h_ld S 5 7 v4).bind (fun v13 => if v13 ≤ (v9 + v11) then (f_X4_findFar_127 k47 S x2 x3 v2 v4) else ((h_ld S 5 7 v2).bind (fun v16 => (h_ld S 2 12 x3).bind (fun v18 => (h_st S 5 7 v4 (v16 + v18)).bind (fun S20 => f_X4_findFar_127 k47 S20 1 x3 v2 v4))))))))))))
def f_X4_findFar_47 (k39 : HSt → Int32 → Option HSt) : Nat → HSt → Int32 → Int32 → Option HSt
  | 0, _, _, _ => none
  | n + 1, S, x2, x3 => f_X4_findFar_47_s k39 (f_X4_findFar_47 k39 n) S x2 x3
def f_X4_findFar_39_s (k39 : HSt → Int32 → Option HSt) (S : HSt) (x2 : Int32) : Option HSt := if x2 = 0 then (some S) else (f_X4_findFar_47 k39 h_fu S 0 0)
def f_X4_findFar_39 : Nat → HSt → Int32 → Option HSt
  | 0, _, _ => none
  | n + 1, S, x2 => f_X4_findFar_39_s (f_X4_findFar_39 n) S x2
def f_X4_findFar_30 (k2 : HSt → Int32 → Int32 → Option HSt) (S : HSt) (x1 x2 t0 t1 : Int32) : Option HSt := (h_st S 5 7 t1 t0).bind (fun S1 => k2 S1 x1 (x2 + 1))
def f_X4_findFar_2_s (k2 : HSt → Int32 → Int32 → Option HSt) (S : HSt) (x1 x2 : Int32) : Option HSt := if 7 ≤ x2 then (f_X4_findFar_39 h_fu S 1) else ((h_ld S 4 4 x1).bind (fun v2 => if v2 = x2 then (f_X4_findFar_30 k2 S x1 x2 0 x2) else (f_X4_findFar_30 k2 S x1 x2 1000 x2)))
def f_X4_findFar_2 : Nat → HSt → Int32 → Int32 → Option HSt
  | 0, _, _, _ => none
  | n + 1, S, x1, x2 => f_X4_findFar_2_s (f_X4_findFar_2 n) S x1 x2
def f_X4_findFar (S : HSt) (a1 : Int32) : Option HSt := f_X4_findFar_2 h_fu S a1 0
def f_X4_nextOf_84 (k7 : HSt → Int32 → Int32 → Option (Int32 × HSt)) (S : HSt) (x1 x3 : Int32) : Option (Int32 × HSt) := k7 S x1 (x3 + 1)
def f_X4_nextOf_7_s (k7 : HSt → Int32 → Int32 → Option (Int32 × HSt)) (S : HSt) (x1 x3 : Int32) : Option (Int32 × HSt) := if 7 ≤ x3 then (some ((-9), S)) else ((h_ld S 5 7 x1).bind (fun v2 => if v2 ≤ 0 then (some ((-9), S)) else ((h_ld S 5 7 x1).bind (fun v5 => if 1000 ≤ v5 then (some ((-9), S)) else ((f_X4_linkBetween S x1 x3).bind (fun r8 => if r8 = (-9) then (f_X4_nextOf_84 k7 S x1 x3) else ((h_ld S 3 12 r8).bind (fun v11 => if v11 = 0 then (f_X4_nextOf_84 k7 S x1 x3) else ((h_ld S 5 7 x3).bind (fun v14 => (h_ld S 2 12 r8).bind (fun v16 => (h_ld S 5 7 x1).bind (fun v18 => if (v14 + v16) = v18 then (some (x3, S)) else (f_X4_nextOf_84 k7 S x1 x3)))))))))))))
def f_X4_nextOf_7 : Nat → HSt → Int32 → Int32 → Option (Int32 × HSt)
  | 0, _, _, _ => none
  | n + 1, S, x1, x3 => f_X4_nextOf_7_s (f_X4_nextOf_7 n) S x1 x3
def f_X4_nextOf (S : HSt) (a1 a2 : Int32) : Option (Int32 × HSt) := (f_X4_findFar S a2).bind (fun S3 => f_X4_nextOf_7 h_fu S3 a1 0)
def f_X4_next (S : HSt) (a1 a2 : Int32) : Option (Int32 × HSt) := (f_X4_isBox a1).bind (fun r1 => if r1 = 0 then (some ((-1), S)) else ((f_X4_isClass a2).bind (fun r4 => if r4 = 0 then (some ((-1), S)) else (h_bi (f_X4_nextOf S a1 a2) (fun r7 S9 => some (r7, S9))))))
def f_X4_far (S : HSt) (a1 a2 : Int32) : Option (Int32 × HSt) := (f_X4_isBox a1).bind (fun r1 => if r1 = 0 then (some ((-1), S)) else ((f_X4_isClass a2).bind (fun r4 => if r4 = 0 then (some ((-1), S)) else ((f_X4_findFar S a2).bind (fun S9 => (h_ld S9 5 7 a1).bind (fun v10 => if 1000 ≤ v10 then (some ((-9), S9)) else ((h_ld S9 5 7 a1).bind (fun v13 => some (v13, S9)))))))))
def f_X4_at (a0 a1 a2 : Int32) : Option Int32 := some ((4 * ((12 * a0) + a1)) + a2)
def f_X4_is (S : HSt) (a1 a2 : Int32) : Option Int32 := (h_ld S 6 28 ((4 * a1) + a2)).bind (fun v1 => if v1 = 1 then (some 1) else (some 0))
def f_X4_mode_61_s (k61 : HSt → Int32 → Int32 → Int32 → Int32 → Int32 → Option (Int32 × HSt)) (S : HSt) (x1 x2 x3 x4 x5 : Int32) : Option (Int32 × HSt) := (f_X4_at (x1 + 1) 0 0).bind (fun r1 => if r1 ≤ x5 then (some (x4, S)) else (if x2 = 2 then (if x4 = x3 then (some (x4, S)) else ((h_st S 8 336 x5 0).bind (fun S6 => k61 S6 x1 x2 x3 x4 (x5 + 1)))) else (some (x4, S))))
def f_X4_mode_61 : Nat → HSt → Int32 → Int32 → Int32 → Int32 → Int32 → Option (Int32 × HSt)
  | 0, _, _, _, _, _, _ => none
  | n + 1, S, x1, x2, x3, x4, x5 => f_X4_mode_61_s (f_X4_mode_61 n) S x1 x2 x3 x4 x5
def f_X4_mode (S : HSt) (a1 a2 a3 : Int32) : Option (Int32 × HSt) := (f_X4_isBox a1).bind (fun r1 => if r1 = 0 then (some ((-1), S)) else ((f_X4_within a2 0 3).bind (fun r4 => if r4 = 0 then (some ((-2), S)) else ((f_X4_within a3 0 1).bind (fun r7 => if r7 = 0 then (some ((-2), S)) else ((h_ld S 6 28 ((4 * a1) + a2)).bind (fun v10 => (h_st S 6 28 ((4 * a1) + a2) a3).bind (fun S12 => (f_X4_at a1 0 0).bind (fun r14 => f_X4_mode_61 h_fu S12 a1 a2 a3 v10 r14)))))))))
def f_X4_setting_33 (S : HSt) (x1 x2 t0 : Int32) : Option (Int32 × HSt) := if t0 = 0 then (some ((-2), S)) else ((h_ld S 7 2 x1).bind (fun v2 => (h_st S 7 2 x1 x2).bind (fun S4 => some (v2, S4))))
def f_X4_setting_32 (S : HSt) (x1 x2 : Int32) : Option (Int32 × HSt) := f_X4_setting_33 S x1 x2 0
def f_X4_setting (S : HSt) (a1 a2 : Int32) : Option (Int32 × HSt) := if a1 = 0 then ((f_X4_within a2 0 1).bind (fun r6 => f_X4_setting_33 S a1 a2 r6)) else (if a1 = 1 then ((f_X4_within a2 1 9).bind (fun r3 => if r3 = 0 then (f_X4_setting_32 S a1 a2) else (f_X4_setting_33 S a1 a2 1))) else (f_X4_setting_32 S a1 a2))
def f_X4_usedAt (S : HSt) (a1 a2 : Int32) : Option (Int32 × HSt) := h_bi (f_X4_nextOf S a1 a2) (fun r1 S3 => if r1 = (-9) then (some ((-9), S3)) else ((f_X4_linkBetween S3 a1 r1).bind (fun r5 => (f_X4_at a1 r5 a2).bind (fun r7 => some (r7, S3)))))
def f_X4_countOf (S : HSt) (a1 a2 : Int32) : Option (Int32 × HSt) := (h_ld S 4 4 a2).bind (fun v1 => if v1 = a1 then (some (0, S)) else (h_bi (f_X4_usedAt S a1 a2) (fun r4 S6 => if r4 = (-9) then (some ((-9), S6)) else ((h_ld S6 10 336 r4).bind (fun v8 => if v8 = 0 then ((h_ld S6 7 2 0).bind (fun v18 => if v18 = 1 then (some ((-9), S6)) else (some (1, S6)))) else ((h_ld S6 11 336 r4).bind (fun v11 => (h_ld S6 7 2 1).bind (fun v13 => if (v11 + 1) ≤ v13 then ((h_ld S6 11 336 r4).bind (fun v16 => some (v16 + 1, S6))) else (some ((-9), S6))))))))))
def f_X4_hands_63 (S : HSt) : Option Int32 := some 1
def f_X4_hands (S : HSt) (a1 a2 a3 : Int32) : Option Int32 := (f_X4_isAt S a2 a1).bind (fun r1 => if r1 = 0 then (some 0) else ((h_ld S 3 12 a2).bind (fun v4 => if v4 = 0 then (some 0) else ((h_ld S 17 28 ((4 * a1) + a3)).bind (fun v7 => if v7 = (-9) then (some 0) else ((f_X4_is S a1 0).bind (fun r10 => if r10 = 0 then (f_X4_hands_63 S) else ((f_X4_otherOf S a2 a1).bind (fun r13 => (h_ld S 16 28 ((4 * r13) + a3)).bind (fun v15 => if v15 = a1 then (f_X4_hands_63 S) else (some 0)))))))))))
def f_X4_labelWas_48 (S : HSt) (k3 : Int32 → Int32 → Int32 → Int32 → Option Int32) (x1 x2 x3 x4 : Int32) : Option Int32 := k3 x1 x2 x3 (x4 + 1)
def f_X4_labelWas_38 (S : HSt) (k3 : Int32 → Int32 → Int32 → Int32 → Option Int32) (x1 x2 x3 x4 x5 : Int32) : Option Int32 := if x5 < 16 then (f_X4_labelWas_48 S k3 x1 x2 x3 x4) else (some x5)
def f_X4_labelWas_3_s (S : HSt) (k3 : Int32 → Int32 → Int32 → Int32 → Option Int32) (x1 x2 x3 x4 : Int32) : Option Int32 := if (S.1 0) ≤ x4 then (some 0) else ((f_X4_at x1 x4 x3).bind (fun r2 => (h_ld S 12 336 r2).bind (fun v4 => if x2 = (-9) then (f_X4_labelWas_38 S k3 x1 x2 x3 x4 v4) else (if x2 = x4 then (f_X4_labelWas_38 S k3 x1 x2 x3 x4 v4) else (f_X4_labelWas_48 S k3 x1 x2 x3 x4)))))
def f_X4_labelWas_3 (S : HSt) : Nat → Int32 → Int32 → Int32 → Int32 → Option Int32
  | 0, _, _, _, _ => none
  | n + 1, x1, x2, x3, x4 => f_X4_labelWas_3_s S (f_X4_labelWas_3 S n) x1 x2 x3 x4
def f_X4_labelWas (S : HSt) (a1 a2 a3 : Int32) : Option Int32 := f_X4_labelWas_3 S h_fu a1 a2 a3 0
def f_X4_isInRow_52 (S : HSt) (k15 : Int32 → Int32 → Int32 → Int32 → Int32 → Option Int32) (x1 x2 x3 x4 x5 : Int32) : Option Int32 := k15 x1 x2 x3 x4 (x5 + 1)
def f_X4_isInRow_33 (S : HSt) (k15 : Int32 → Int32 → Int32 → Int32 → Int32 → Option Int32) (x1 x2 x3 x4 x5 : Int32) : Option Int32 := (f_X4_at x1 x4 x5).bind (fun r1 => (h_ld S 8 336 r1).bind (fun v3 => if v3 = x3 then (some 1) else (f_X4_isInRow_52 S k15 x1 x2 x3 x4 x5)))
def f_X4_isInRow_15_s (S : HSt) (k3 : Int32 → Int32 → Int32 → Int32 → Option Int32) (k15 : Int32 → Int32 → Int32 → Int32 → Int32 → Option Int32) (x1 x2 x3 x4 x5 : Int32) : Option Int32 := if 4 ≤ x5 then (k3 x1 x2 x3 (x4 + 1)) else (if x2 = (-9) then (f_X4_isInRow_33 S k15 x1 x2 x3 x4 x5) else (if x2 = x4 then (f_X4_isInRow_33 S k15 x1 x2 x3 x4 x5) else (f_X4_isInRow_52 S k15 x1 x2 x3 x4 x5)))
def f_X4_isInRow_15 (S : HSt) (k3 : Int32 → Int32 → Int32 → Int32 → Option Int32) : Nat → Int32 → Int32 → Int32 → Int32 → Int32 → Option Int32
  | 0, _, _, _, _, _ => none
  | n + 1, x1, x2, x3, x4, x5 => f_X4_isInRow_15_s S k3 (f_X4_isInRow_15 S k3 n) x1 x2 x3 x4 x5
def f_X4_isInRow_3_s (S : HSt) (k3 : Int32 → Int32 → Int32 → Int32 → Option Int32) (x1 x2 x3 x4 : Int32) : Option Int32 := if (S.1 0) ≤ x4 then (some 0) else (f_X4_isInRow_15 S k3 h_fu x1 x2 x3 x4 0)
def f_X4_isInRow_3 (S : HSt) : Nat → Int32 → Int32 → Int32 → Int32 → Option Int32
  | 0, _, _, _, _ => none
  | n + 1, x1, x2, x3, x4 => f_X4_isInRow_3_s S (f_X4_isInRow_3 S n) x1 x2 x3 x4
def f_X4_isInRow (S : HSt) (a1 a2 a3 : Int32) : Option Int32 := f_X4_isInRow_3 S h_fu a1 a2 a3 0
def f_X4_isNew_19 (S : HSt) (x1 x2 x3 : Int32) : Option Int32 := (f_X4_labelWas S x1 x2 x3).bind (fun r1 => if r1 = 0 then (some 1) else (some 0))
def f_X4_isNew (S : HSt) (a1 a2 a3 : Int32) : Option Int32 := (h_ld S 4 4 a3).bind (fun v1 => if v1 = a1 then ((f_X4_is S a1 3).bind (fun r4 => if r4 = 0 then (f_X4_isNew_19 S a1 a2 a3) else (some 0))) else (f_X4_isNew_19 S a1 a2 a3))
def f_X4_labels_71 (k3 : HSt → Int32 → Int32 → Int32 → Int32 → Int32 → Option HSt) (S : HSt) (x1 x2 x3 x4 x5 : Int32) : Option HSt := k3 S x1 x2 x3 x4 (x5 + 1)
def f_X4_labels_24 (k3 : HSt → Int32 → Int32 → Int32 → Int32 → Int32 → Option HSt) (S : HSt) (x1 x2 x3 x4 x5 : Int32) : Option HSt := (f_X4_hands S x1 x5 x3).bind (fun r1 => if r1 = 0 then (f_X4_labels_71 k3 S x1 x2 x3 x4 x5) else ((f_X4_at x1 x5 x3).bind (fun r4 => (h_st S 8 336 r4 x4).bind (fun S6 => (f_X4_at x1 x5 x3).bind (fun r8 => (h_ld S6 17 28 ((4 * x1) + x3)).bind (fun v10 => (h_st S6 9 336 r8 v10).bind (fun S12 => f_X4_labels_71 k3 S12 x1 x2 x3 x4 x5)))))))
def f_X4_labels_3_s (k3 : HSt → Int32 → Int32 → Int32 → Int32 → Int32 → Option HSt) (S : HSt) (x1 x2 x3 x4 x5 : Int32) : Option HSt := if (S.1 0) ≤ x5 then (some S) else (if x2 = (-9) then (f_X4_labels_24 k3 S x1 x2 x3 x4 x5) else (if x2 = x5 then (f_X4_labels_24 k3 S x1 x2 x3 x4 x5) else (f_X4_labels_71 k3 S x1 x2 x3 x4 x5)))
def f_X4_labels_3 : Nat → HSt → Int32 → Int32 → Int32 → Int32 → Int32 → Option HSt
  | 0, _, _, _, _, _, _ => none
  | n + 1, S, x1, x2, x3, x4, x5 => f_X4_labels_3_s (f_X4_labels_3 n) S x1 x2 x3 x4 x5
def f_X4_labels (S : HSt) (a1 a2 a3 a4 : Int32) : Option HSt := f_X4_labels_3 h_fu S a1 a2 a3 a4 0
def f_X4_handsInRow_37 (S : HSt) (k3 : Int32 → Int32 → Int32 → Int32 → Option Int32) (x1 x2 x3 x4 : Int32) : Option Int32 := k3 x1 x2 x3 (x4 + 1)
def f_X4_handsInRow_24 (S : HSt) (k3 : Int32 → Int32 → Int32 → Int32 → Option Int32) (x1 x2 x3 x4 : Int32) : Option Int32 := (f_X4_hands S x1 x4 x3).bind (fun r1 => if r1 = 0 then (f_X4_handsInRow_37 S k3 x1 x2 x3 x4) else (some 1))
def f_X4_handsInRow_3_s (S : HSt) (k3 : Int32 → Int32 → Int32 → Int32 → Option Int32) (x1 x2 x3 x4 : Int32) : Option Int32 := if (S.1 0) ≤ x4 then (some 0) else (if x2 = (-9) then (f_X4_handsInRow_24 S k3 x1 x2 x3 x4) else (if x2 = x4 then (f_X4_handsInRow_24 S k3 x1 x2 x3 x4) else (f_X4_handsInRow_37 S k3 x1 x2 x3 x4)))
def f_X4_handsInRow_3 (S : HSt) : Nat → Int32 → Int32 → Int32 → Int32 → Option Int32
  | 0, _, _, _, _ => none
  | n + 1, x1, x2, x3, x4 => f_X4_handsInRow_3_s S (f_X4_handsInRow_3 S n) x1 x2 x3 x4
def f_X4_handsInRow (S : HSt) (a1 a2 a3 : Int32) : Option Int32 := f_X4_handsInRow_3 S h_fu a1 a2 a3 0
def f_X4_handsRow_117 (k62 : HSt → Int32 → Int32 → Int32 → Option HSt) (S : HSt) (x1 x2 x3 : Int32) : Option HSt := k62 S x1 x2 (x3 + 1)
def f_X4_handsRow_91_s (k62 : HSt → Int32 → Int32 → Int32 → Option HSt) (k91 : HSt → Int32 → Int32 → Int32 → Int32 → Option HSt) (S : HSt) (x1 x2 x3 x4 : Int32) : Option HSt := (f_X4_isInRow S x1 x2 x4).bind (fun r1 => if r1 = 0 then ((f_X4_labels S x1 x2 x3 x4).bind (fun S6 => f_X4_handsRow_117 k62 S6 x1 x2 x3)) else (k91 S x1 x2 x3 (x4 + 1)))
def f_X4_handsRow_91 (k62 : HSt → Int32 → Int32 → Int32 → Option HSt) : Nat → HSt → Int32 → Int32 → Int32 → Int32 → Option HSt
  | 0, _, _, _, _, _ => none
  | n + 1, S, x1, x2, x3, x4 => f_X4_handsRow_91_s k62 (f_X4_handsRow_91 k62 n) S x1 x2 x3 x4
def f_X4_handsRow_62_s (k62 : HSt → Int32 → Int32 → Int32 → Option HSt) (S : HSt) (x1 x2 x3 : Int32) : Option HSt := if 4 ≤ x3 then (some S) else ((f_X4_isNew S x1 x2 x3).bind (fun r2 => if r2 = 0 then (f_X4_handsRow_117 k62 S x1 x2 x3) else ((f_X4_handsInRow S x1 x2 x3).bind (fun r5 => if r5 = 0 then (f_X4_handsRow_117 k62 S x1 x2 x3) else (f_X4_handsRow_91 k62 h_fu S x1 x2 x3 16)))))
def f_X4_handsRow_62 : Nat → HSt → Int32 → Int32 → Int32 → Option HSt
  | 0, _, _, _, _ => none
  | n + 1, S, x1, x2, x3 => f_X4_handsRow_62_s (f_X4_handsRow_62 n) S x1 x2 x3
def f_X4_handsRow_54 (k2 : HSt → Int32 → Int32 → Int32 → Option HSt) (S : HSt) (x1 x2 x3 : Int32) : Option HSt := k2 S x1 x2 (x3 + 1)
def f_X4_handsRow_51 (k2 : HSt → Int32 → Int32 → Int32 → Option HSt) (S : HSt) (x1 x2 x3 t0 t1 t2 t3 : Int32) : Option HSt := (f_X4_labels S t3 t2 t1 t0).bind (fun S3 => f_X4_handsRow_54 k2 S3 x1 x2 x3)
def f_X4_handsRow_44 (k2 : HSt → Int32 → Int32 → Int32 → Option HSt) (S : HSt) (x1 x2 x3 t0 t1 t2 : Int32) : Option HSt := (f_X4_labelWas S x1 x2 x3).bind (fun r1 => f_X4_handsRow_51 k2 S x1 x2 x3 r1 t0 t1 t2)
def f_X4_handsRow_2_s (k2 : HSt → Int32 → Int32 → Int32 → Option HSt) (S : HSt) (x1 x2 x3 : Int32) : Option HSt := if 4 ≤ x3 then (f_X4_handsRow_62 h_fu S x1 x2 0) else ((f_X4_isNew S x1 x2 x3).bind (fun r2 => if r2 = 0 then ((h_ld S 4 4 x3).bind (fun v5 => if v5 = x1 then ((f_X4_is S x1 3).bind (fun r8 => if r8 = 0 then (f_X4_handsRow_44 k2 S x1 x2 x3 x3 x2 x1) else (f_X4_handsRow_51 k2 S x1 x2 x3 3 x3 x2 x1))) else (f_X4_handsRow_44 k2 S x1 x2 x3 x3 x2 x1))) else (f_X4_handsRow_54 k2 S x1 x2 x3)))
def f_X4_handsRow_2 : Nat → HSt → Int32 → Int32 → Int32 → Option HSt
  | 0, _, _, _, _ => none
  | n + 1, S, x1, x2, x3 => f_X4_handsRow_2_s (f_X4_handsRow_2 n) S x1 x2 x3
def f_X4_handsRow (S : HSt) (a1 a2 : Int32) : Option HSt := f_X4_handsRow_2 h_fu S a1 a2 0
def f_X4_handsAll_19_s (k19 : HSt → Int32 → Int32 → Option HSt) (S : HSt) (x1 x2 : Int32) : Option HSt := if (S.1 0) ≤ x2 then (some S) else ((f_X4_handsRow S x1 x2).bind (fun S4 => k19 S4 x1 (x2 + 1)))
def f_X4_handsAll_19 : Nat → HSt → Int32 → Int32 → Option HSt
  | 0, _, _, _ => none
  | n + 1, S, x1, x2 => f_X4_handsAll_19_s (f_X4_handsAll_19 n) S x1 x2
def f_X4_handsAll (S : HSt) (a1 : Int32) : Option HSt := (f_X4_is S a1 2).bind (fun r1 => if r1 = 0 then ((f_X4_handsRow S a1 (-9)).bind (fun S6 => some S6)) else (f_X4_handsAll_19 h_fu S a1 0))
def f_X4_keeps_146 (k2 : HSt → Int32 → Option HSt) (S : HSt) (x1 : Int32) : Option HSt := k2 S (x1 + 1)
def f_X4_keeps_126 (k2 : HSt → Int32 → Option HSt) (S : HSt) (x1 x3 x4 x5 t0 t1 : Int32) : Option HSt := (h_st S 10 336 t1 t0).bind (fun S1 => (f_X4_at x5 x3 x4).bind (fun r3 => (h_ld S1 9 336 r3).bind (fun v5 => (h_st S1 11 336 x1 v5).bind (fun S7 => f_X4_keeps_146 k2 S7 x1))))
def f_X4_keeps_97 (k2 : HSt → Int32 → Option HSt) (S : HSt) (x1 x3 x4 x5 t0 : Int32) : Option HSt := if t0 = 0 then (f_X4_keeps_126 k2 S x1 x3 x4 x5 0 x1) else ((f_X4_at x5 x3 x4).bind (fun r2 => (h_ld S 8 336 r2).bind (fun v4 => f_X4_keeps_126 k2 S x1 x3 x4 x5 v4 x1)))
def f_X4_keeps_92 (k2 : HSt → Int32 → Option HSt) (S : HSt) (x1 x3 x4 x5 : Int32) : Option HSt := f_X4_keeps_97 k2 S x1 x3 x4 x5 1
def f_X4_keeps_2_s (k2 : HSt → Int32 → Option HSt) (S : HSt) (x1 : Int32) : Option HSt := if 336 ≤ x1 then (some S) else ((h_st S 10 336 x1 0).bind (fun S2 => (f_X4_isLink S2 ((x1 / 4) - (x1 / 4) / 12 * 12)).bind (fun r4 => if r4 = 0 then (f_X4_keeps_146 k2 S2 x1) else ((f_X4_isAt S2 ((x1 / 4) - (x1 / 4) / 12 * 12) (x1 / 48)).bind (fun r7 => if r7 = 0 then (f_X4_keeps_146 k2 S2 x1) else ((h_ld S2 3 12 ((x1 / 4) - (x1 / 4) / 12 * 12)).bind (fun v10 => if v10 = 0 then (f_X4_keeps_146 k2 S2 x1) else ((f_X4_otherOf S2 ((x1 / 4) - (x1 / 4) / 12 * 12) (x1 / 48)).bind (fun r13 => (f_X4_is S2 (x1 / 48) 1).bind (fun r15 => if r15 = 0 then (f_X4_keeps_92 k2 S2 x1 ((x1 / 4) - (x1 / 4) / 12 * 12) (x1 - x1 / 4 * 4) r13) else ((h_ld S2 16 28 ((4 * (x1 / 48)) + (x1 - x1 / 4 * 4))).bind (fun v18 => if v18 = r13 then (f_X4_keeps_92 k2 S2 x1 ((x1 / 4) - (x1 / 4) / 12 * 12) (x1 - x1 / 4 * 4) r13) else (f_X4_keeps_97 k2 S2 x1 ((x1 / 4) - (x1 / 4) / 12 * 12) (x1 - x1 / 4 * 4) r13 0)))))))))))))
def f_X4_keeps_2 : Nat → HSt → Int32 → Option HSt
  | 0, _, _ => none
  | n + 1, S, x1 => f_X4_keeps_2_s (f_X4_keeps_2 n) S x1
def f_X4_keeps (S : HSt) : Option HSt := f_X4_keeps_2 h_fu S 0
def f_X4_goesOn_118_s (k118 : HSt → Int32 → Option HSt) (S : HSt) (x1 : Int32) : Option HSt := if 7 ≤ x1 then ((f_X4_keeps S ).bind (fun S4 => some S4)) else ((f_X4_handsAll S x1).bind (fun S7 => k118 S7 (x1 + 1)))
def f_X4_goesOn_118 : Nat → HSt → Int32 → Option HSt
  | 0, _, _ => none
  | n + 1, S, x1 => f_X4_goesOn_118_s (f_X4_goesOn_118 n) S x1
def f_X4_goesOn_48_s (k48 : HSt → Int32 → Option HSt) (S : HSt) (x1 : Int32) : Option HSt := if 336 ≤ x1 then (f_X4_goesOn_118 h_fu S 0) else ((h_ld S 8 336 x1).bind (fun v2 => (h_st S 12 336 x1 v2).bind (fun S4 => (h_ld S4 9 336 x1).bind (fun v6 => (h_st S4 13 336 x1 v6).bind (fun S8 => (h_ld S8 10 336 x1).bind (fun v10 => (h_st S8 14 336 x1 v10).bind (fun S12 => (h_ld S12 11 336 x1).bind (fun v14 => (h_st S12 15 336 x1 v14).bind (fun S16 => (h_st S16 8 336 x1 0).bind (fun S18 => k48 S18 (x1 + 1)))))))))))
def f_X4_goesOn_48 : Nat → HSt → Int32 → Option HSt
  | 0, _, _ => none
  | n + 1, S, x1 => f_X4_goesOn_48_s (f_X4_goesOn_48 n) S x1
def f_X4_goesOn_2_s (k2 : HSt → Int32 → Option HSt) (S : HSt) (x1 : Int32) : Option HSt := if 28 ≤ x1 then (f_X4_goesOn_48 h_fu S 0) else (h_bi (f_X4_nextOf S (x1 / 4) (x1 - x1 / 4 * 4)) (fun r2 S4 => (h_st S4 16 28 x1 r2).bind (fun S5 => h_bi (f_X4_countOf S5 (x1 / 4) (x1 - x1 / 4 * 4)) (fun r7 S9 => (h_st S9 17 28 x1 r7).bind (fun S10 => k2 S10 (x1 + 1))))))
def f_X4_goesOn_2 : Nat → HSt → Int32 → Option HSt
  | 0, _, _ => none
  | n + 1, S, x1 => f_X4_goesOn_2_s (f_X4_goesOn_2 n) S x1
def f_X4_goesOn (S : HSt) : Option HSt := f_X4_goesOn_2 h_fu S 0
def f_X4_isChanged_115 (S : HSt) (k2 : Int32 → Int32 → Option Int32) (x1 x2 : Int32) : Option Int32 := k2 x1 (x2 + 1)
def f_X4_isChanged_98 (S : HSt) (k2 : Int32 → Int32 → Option Int32) (x1 x2 x3 t0 : Int32) : Option Int32 := if x3 = 0 then (if x1 = 0 then (f_X4_isChanged_115 S k2 x1 x2) else (if t0 = 0 then (f_X4_isChanged_115 S k2 x1 x2) else (some 1))) else (some 1)
def f_X4_isChanged_93 (S : HSt) (k2 : Int32 → Int32 → Option Int32) (x1 x2 x3 : Int32) : Option Int32 := f_X4_isChanged_98 S k2 x1 x2 x3 1
def f_X4_isChanged_97 (S : HSt) (k2 : Int32 → Int32 → Option Int32) (x1 x2 x3 : Int32) : Option Int32 := f_X4_isChanged_98 S k2 x1 x2 x3 0
def f_X4_isChanged_53 (S : HSt) (k2 : Int32 → Int32 → Option Int32) (x1 x2 t0 : Int32) : Option Int32 := (h_ld S 10 336 x2).bind (fun v1 => (h_ld S 14 336 x2).bind (fun v3 => if v1 = v3 then ((h_ld S 10 336 x2).bind (fun v6 => if v6 ≤ 0 then (f_X4_isChanged_97 S k2 x1 x2 t0) else ((h_ld S 11 336 x2).bind (fun v9 => (h_ld S 15 336 x2).bind (fun v11 => if v9 = v11 then (f_X4_isChanged_97 S k2 x1 x2 t0) else (f_X4_isChanged_93 S k2 x1 x2 t0)))))) else (f_X4_isChanged_93 S k2 x1 x2 t0)))
def f_X4_isChanged_48 (S : HSt) (k2 : Int32 → Int32 → Option Int32) (x1 x2 : Int32) : Option Int32 := f_X4_isChanged_53 S k2 x1 x2 1
def f_X4_isChanged_52 (S : HSt) (k2 : Int32 → Int32 → Option Int32) (x1 x2 : Int32) : Option Int32 := f_X4_isChanged_53 S k2 x1 x2 0
def f_X4_isChanged_2_s (S : HSt) (k2 : Int32 → Int32 → Option Int32) (x1 x2 : Int32) : Option Int32 := if 336 ≤ x2 then (some 0) else ((h_ld S 8 336 x2).bind (fun v2 => (h_ld S 12 336 x2).bind (fun v4 => if v2 = v4 then ((h_ld S 8 336 x2).bind (fun v7 => if v7 ≤ 0 then (f_X4_isChanged_52 S k2 x1 x2) else ((h_ld S 9 336 x2).bind (fun v10 => (h_ld S 13 336 x2).bind (fun v12 => if v10 = v12 then (f_X4_isChanged_52 S k2 x1 x2) else (f_X4_isChanged_48 S k2 x1 x2)))))) else (f_X4_isChanged_48 S k2 x1 x2))))
def f_X4_isChanged_2 (S : HSt) : Nat → Int32 → Int32 → Option Int32
  | 0, _, _ => none
  | n + 1, x1, x2 => f_X4_isChanged_2_s S (f_X4_isChanged_2 S n) x1 x2
def f_X4_isChanged (S : HSt) (a1 : Int32) : Option Int32 := f_X4_isChanged_2 S h_fu a1 0
def f_X4_ticks_50 (k17 : HSt → Int32 → Int32 → Int32 → Option (Int32 × HSt)) (S : HSt) (x1 x3 t0 t1 : Int32) : Option (Int32 × HSt) := k17 S x1 (t1 + t0) (x3 + 1)
def f_X4_ticks_17_s (k17 : HSt → Int32 → Int32 → Int32 → Option (Int32 × HSt)) (S : HSt) (x1 x2 x3 : Int32) : Option (Int32 × HSt) := if x1 ≤ x3 then (some (x2, S)) else ((f_X4_goesOn S ).bind (fun S4 => (some (h_put S4 1 ((S4.1 1) + 1))).bind (fun S5 => (f_X4_isChanged S5 0).bind (fun r7 => if r7 = 0 then (f_X4_ticks_50 k17 S5 x1 x3 0 x2) else (f_X4_ticks_50 k17 S5 x1 x3 1 x2)))))
def f_X4_ticks_17 : Nat → HSt → Int32 → Int32 → Int32 → Option (Int32 × HSt)
  | 0, _, _, _, _ => none
  | n + 1, S, x1, x2, x3 => f_X4_ticks_17_s (f_X4_ticks_17 n) S x1 x2 x3
def f_X4_ticks (S : HSt) (a1 : Int32) : Option (Int32 × HSt) := (f_X4_within a1 0 20).bind (fun r1 => if r1 = 0 then (some ((-2), S)) else (f_X4_ticks_17 h_fu S a1 0 0))
def f_X4_isThere (S : HSt) (a1 a2 : Int32) : Option Int32 := (f_X4_isBox a1).bind (fun r1 => if r1 = 0 then (some 0) else ((f_X4_isLink S a2).bind (fun r4 => if r4 = 0 then (some 0) else ((f_X4_isAt S a2 a1).bind (fun r7 => if r7 = 0 then (some 0) else (some 1))))))
def f_X4_tell (a0 a1 a2 : Int32) : Option Int32 := (f_X4_within a2 0 1).bind (fun r1 => if r1 = 0 then (some (-2)) else (if a0 = 0 then (some (-9)) else (if a2 = 0 then (some a0) else (some a1))))
def f_X4_handed (S : HSt) (a1 a2 a3 a4 : Int32) : Option Int32 := (f_X4_isThere S a1 a2).bind (fun r1 => if r1 = 0 then (some (-1)) else ((f_X4_isClass a3).bind (fun r4 => if r4 = 0 then (some (-1)) else ((f_X4_at a1 a2 a3).bind (fun r7 => (h_ld S 8 336 r7).bind (fun v9 => (f_X4_at a1 a2 a3).bind (fun r11 => (h_ld S 9 336 r11).bind (fun v13 => (f_X4_tell v9 v13 a4).bind (fun r15 => some r15)))))))))
def f_X4_kept (S : HSt) (a1 a2 a3 a4 : Int32) : Option Int32 := (f_X4_isThere S a1 a2).bind (fun r1 => if r1 = 0 then (some (-1)) else ((f_X4_isClass a3).bind (fun r4 => if r4 = 0 then (some (-1)) else ((f_X4_at a1 a2 a3).bind (fun r7 => (h_ld S 10 336 r7).bind (fun v9 => (f_X4_at a1 a2 a3).bind (fun r11 => (h_ld S 11 336 r11).bind (fun v13 => (f_X4_tell v9 v13 a4).bind (fun r15 => some r15)))))))))
def f_X4_usedLabel (S : HSt) (a1 a2 : Int32) : Option (Int32 × HSt) := h_bi (f_X4_usedAt S a1 a2) (fun r1 S3 => if r1 = (-9) then (some (0, S3)) else ((h_ld S3 10 336 r1).bind (fun v5 => some (v5, S3))))
def f_X4_used (S : HSt) (a1 a2 : Int32) : Option (Int32 × HSt) := (f_X4_isBox a1).bind (fun r1 => if r1 = 0 then (some ((-1), S)) else ((f_X4_isClass a2).bind (fun r4 => if r4 = 0 then (some ((-1), S)) else (h_bi (f_X4_usedLabel S a1 a2) (fun r7 S9 => if r7 = 0 then (some ((-9), S9)) else (some (r7, S9)))))))
def f_X4_meaningOf_84 (S : HSt) (k12 : Int32 → Int32 → Int32 → Int32 → Int32 → Option Int32) (x1 x2 x3 x4 x5 : Int32) : Option Int32 := k12 x1 x2 x3 x4 (x5 + 1)
def f_X4_meaningOf_59 (S : HSt) (k12 : Int32 → Int32 → Int32 → Int32 → Int32 → Option Int32) (x1 x2 x3 x4 x5 t0 : Int32) : Option Int32 := if t0 = 0 then (f_X4_meaningOf_84 S k12 x1 x2 x3 x4 x5) else ((f_X4_is S x1 2).bind (fun r2 => if r2 = 0 then (some x4) else (if x5 = x2 then (some x4) else (f_X4_meaningOf_84 S k12 x1 x2 x3 x4 x5))))
def f_X4_meaningOf_58 (S : HSt) (k12 : Int32 → Int32 → Int32 → Int32 → Int32 → Option Int32) (x1 x2 x3 x4 x5 : Int32) : Option Int32 := f_X4_meaningOf_59 S k12 x1 x2 x3 x4 x5 0
def f_X4_meaningOf_12_s (S : HSt) (k3 : Int32 → Int32 → Int32 → Int32 → Option Int32) (k12 : Int32 → Int32 → Int32 → Int32 → Int32 → Option Int32) (x1 x2 x3 x4 x5 : Int32) : Option Int32 := if (S.1 0) ≤ x5 then (k3 x1 x2 x3 (x4 + 1)) else ((f_X4_at x1 x5 x4).bind (fun r2 => (h_ld S 8 336 r2).bind (fun v4 => if v4 ≤ 0 then (f_X4_meaningOf_58 S k12 x1 x2 x3 x4 x5) else ((f_X4_at x1 x5 x4).bind (fun r7 => (h_ld S 8 336 r7).bind (fun v9 => if v9 = x3 then (f_X4_meaningOf_59 S k12 x1 x2 x3 x4 x5 1) else (f_X4_meaningOf_58 S k12 x1 x2 x3 x4 x5)))))))
def f_X4_meaningOf_12 (S : HSt) (k3 : Int32 → Int32 → Int32 → Int32 → Option Int32) : Nat → Int32 → Int32 → Int32 → Int32 → Int32 → Option Int32
  | 0, _, _, _, _, _ => none
  | n + 1, x1, x2, x3, x4, x5 => f_X4_meaningOf_12_s S k3 (f_X4_meaningOf_12 S k3 n) x1 x2 x3 x4 x5
def f_X4_meaningOf_3_s (S : HSt) (k3 : Int32 → Int32 → Int32 → Int32 → Option Int32) (x1 x2 x3 x4 : Int32) : Option Int32 := if 4 ≤ x4 then (some (-9)) else (f_X4_meaningOf_12 S k3 h_fu x1 x2 x3 x4 0)
def f_X4_meaningOf_3 (S : HSt) : Nat → Int32 → Int32 → Int32 → Int32 → Option Int32
  | 0, _, _, _, _ => none
  | n + 1, x1, x2, x3, x4 => f_X4_meaningOf_3_s S (f_X4_meaningOf_3 S n) x1 x2 x3 x4
def f_X4_meaningOf (S : HSt) (a1 a2 a3 : Int32) : Option Int32 := f_X4_meaningOf_3 S h_fu a1 a2 a3 0
def f_X4_meaning (S : HSt) (a1 a2 a3 : Int32) : Option Int32 := (f_X4_isThere S a1 a2).bind (fun r1 => if r1 = 0 then (some (-1)) else ((f_X4_within a3 0 99).bind (fun r4 => if r4 = 0 then (some (-2)) else ((f_X4_meaningOf S a1 a2 a3).bind (fun r7 => some r7)))))
def f_X4_putsAside_136 (k2 : HSt → Int32 → Int32 → Option HSt) (S : HSt) (x1 x2 : Int32) : Option HSt := k2 S x1 (x2 + 1)
def f_X4_putsAside_2_s (k2 : HSt → Int32 → Int32 → Option HSt) (S : HSt) (x1 x2 : Int32) : Option HSt := if 336 ≤ x2 then (some S) else (if x1 = 0 then ((h_ld S 8 336 x2).bind (fun v3 => (h_st S 18 1344 x2 v3).bind (fun S5 => (h_ld S5 9 336 x2).bind (fun v7 => (h_st S5 18 1344 (336 + x2) v7).bind (fun S9 => (h_ld S9 10 336 x2).bind (fun v11 => (h_st S9 18 1344 (672 + x2) v11).bind (fun S13 => (h_ld S13 11 336 x2).bind (fun v15 => (h_st S13 18 1344 (1008 + x2) v15).bind (fun S17 => f_X4_putsAside_136 k2 S17 x1 x2))))))))) else ((h_ld S 18 1344 x2).bind (fun v19 => (h_st S 8 336 x2 v19).bind (fun S21 => (h_ld S21 18 1344 (336 + x2)).bind (fun v23 => (h_st S21 9 336 x2 v23).bind (fun S25 => (h_ld S25 18 1344 (672 + x2)).bind (fun v27 => (h_st S25 10 336 x2 v27).bind (fun S29 => (h_ld S29 18 1344 (1008 + x2)).bind (fun v31 => (h_st S29 11 336 x2 v31).bind (fun S33 => f_X4_putsAside_136 k2 S33 x1 x2))))))))))
def f_X4_putsAside_2 : Nat → HSt → Int32 → Int32 → Option HSt
  | 0, _, _, _ => none
  | n + 1, S, x1, x2 => f_X4_putsAside_2_s (f_X4_putsAside_2 n) S x1 x2
def f_X4_putsAside (S : HSt) (a1 : Int32) : Option HSt := f_X4_putsAside_2 h_fu S a1 0
def f_X4_settles_44 (S : HSt) (x1 x2 : Int32) : Option (Int32 × HSt) := (f_X4_putsAside S 1).bind (fun S3 => if x2 = 0 then (some (x1, S3)) else (some ((-9), S3)))
def f_X4_settles_39 (k9 : HSt → Int32 → Int32 → Option (Int32 × HSt)) (S : HSt) (x2 t0 t1 : Int32) : Option (Int32 × HSt) := k9 S (t1 + t0) x2
def f_X4_settles_9_s (k9 : HSt → Int32 → Int32 → Option (Int32 × HSt)) (S : HSt) (x1 x2 : Int32) : Option (Int32 × HSt) := if x2 = 0 then (f_X4_settles_44 S x1 x2) else (if 30 ≤ x1 then (f_X4_settles_44 S x1 x2) else ((f_X4_goesOn S ).bind (fun S5 => (f_X4_isChanged S5 1).bind (fun r6 => if r6 = 0 then (f_X4_settles_39 k9 S5 r6 0 x1) else (f_X4_settles_39 k9 S5 r6 1 x1)))))
def f_X4_settles_9 : Nat → HSt → Int32 → Int32 → Option (Int32 × HSt)
  | 0, _, _, _ => none
  | n + 1, S, x1, x2 => f_X4_settles_9_s (f_X4_settles_9 n) S x1 x2
def f_X4_settles (S : HSt) : Option (Int32 × HSt) := (f_X4_putsAside S 0).bind (fun S3 => f_X4_settles_9 h_fu S3 0 1)
def f_X4_goes_149 (k14 : HSt → Int32 → Int32 → Int32 → Int32 → Option (Int32 × HSt)) (S : HSt) (x2 x3 x7 t0 : Int32) : Option (Int32 × HSt) := (f_X4_linkBetween S x3 x7).bind (fun r1 => k14 S x2 x7 t0 r1)
def f_X4_goes_126 (k14 : HSt → Int32 → Int32 → Int32 → Int32 → Option (Int32 × HSt)) (S : HSt) (x2 x3 x7 x8 : Int32) : Option (Int32 × HSt) := if (S.1 2) ≤ 14 then (if x8 = 3 then (f_X4_goes_149 k14 S x2 x3 x7 0) else (f_X4_goes_149 k14 S x2 x3 x7 x8)) else (some (4, S))
def f_X4_goes_63 (k14 : HSt → Int32 → Int32 → Int32 → Int32 → Option (Int32 × HSt)) (S : HSt) (x2 x3 x4 t0 : Int32) : Option (Int32 × HSt) := if t0 = (-9) then (some (2, S)) else ((h_ld S 4 4 t0).bind (fun v2 => if v2 = x3 then (some (0, S)) else (h_bi (f_X4_nextOf S x3 t0) (fun r5 S7 => if r5 = (-9) then (some (1, S7)) else (h_bi (f_X4_usedLabel S7 x3 t0) (fun r9 S11 => if r9 = 0 then (if x4 ≤ 0 then (f_X4_goes_126 k14 S11 x2 x3 r5 r9) else (some (3, S11))) else (f_X4_goes_126 k14 S11 x2 x3 r5 r9)))))))
def f_X4_goes_14_s (k14 : HSt → Int32 → Int32 → Int32 → Int32 → Option (Int32 × HSt)) (S : HSt) (x2 x3 x4 x5 : Int32) : Option (Int32 × HSt) := (h_st S 19 15 (S.1 2) x3).bind (fun S1 => (h_st S1 20 15 (S1.1 2) x4).bind (fun S3 => (some (h_put S3 2 ((S3.1 2) + 1))).bind (fun S5 => if x4 = 0 then (f_X4_goes_63 k14 S5 x2 x3 x4 x2) else ((f_X4_meaningOf S5 x3 x5 x4).bind (fun r8 => f_X4_goes_63 k14 S5 x2 x3 x4 r8)))))
def f_X4_goes_14 : Nat → HSt → Int32 → Int32 → Int32 → Int32 → Option (Int32 × HSt)
  | 0, _, _, _, _, _ => none
  | n + 1, S, x2, x3, x4, x5 => f_X4_goes_14_s (f_X4_goes_14 n) S x2 x3 x4 x5
def f_X4_goes (S : HSt) (a1 a2 : Int32) : Option (Int32 × HSt) := (some (h_put S 2 0)).bind (fun S1 => f_X4_goes_14 h_fu S1 a2 a1 0 (-9))
def f_X4_letter_34_s (k34 : HSt → Int32 → Int32 → Option (Int32 × HSt)) (S : HSt) (x3 x4 : Int32) : Option (Int32 × HSt) := if (S.1 2) ≤ x4 then (some (x3, S)) else ((h_ld S 19 15 x4).bind (fun v2 => (h_st S 21 15 x4 v2).bind (fun S4 => (h_ld S4 20 15 x4).bind (fun v6 => (h_st S4 22 15 x4 v6).bind (fun S8 => k34 S8 x3 (x4 + 1))))))
def f_X4_letter_34 : Nat → HSt → Int32 → Int32 → Option (Int32 × HSt)
  | 0, _, _, _ => none
  | n + 1, S, x3, x4 => f_X4_letter_34_s (f_X4_letter_34 n) S x3 x4
def f_X4_letter (S : HSt) (a1 a2 : Int32) : Option (Int32 × HSt) := (f_X4_isBox a1).bind (fun r1 => if r1 = 0 then (some ((-1), S)) else ((f_X4_isClass a2).bind (fun r4 => if r4 = 0 then (some ((-1), S)) else (h_bi (f_X4_goes S a1 a2) (fun r7 S9 => (some (h_put S9 3 (S9.1 2))).bind (fun S10 => f_X4_letter_34 h_fu S10 r7 0))))))
def f_X4_trace (S : HSt) (a1 a2 : Int32) : Option Int32 := (f_X4_within a1 0 14).bind (fun r1 => if r1 = 0 then (some (-2)) else ((f_X4_within a2 0 1).bind (fun r4 => if r4 = 0 then (some (-2)) else (if a1 < (S.1 3) then (if a2 = 0 then ((h_ld S 21 15 a1).bind (fun v11 => some v11)) else ((h_ld S 22 15 a1).bind (fun v9 => some v9))) else (some (-9))))))
def f_X4_isCarried_2_s (S : HSt) (k2 : Int32 → Option Int32) (x1 : Int32) : Option Int32 := if ((S.1 2) - 1) ≤ x1 then (some 1) else ((h_ld S 20 15 x1).bind (fun v2 => if v2 = 0 then (some 0) else (k2 (x1 + 1))))
def f_X4_isCarried_2 (S : HSt) : Nat → Int32 → Option Int32
  | 0, _ => none
  | n + 1, x1 => f_X4_isCarried_2_s S (f_X4_isCarried_2 S n) x1
def f_X4_isCarried (S : HSt) : Option Int32 := f_X4_isCarried_2 S h_fu 1
def f_X4_served_110 (k26 : HSt → Int32 → Int32 → Int32 → Int32 → Option (Int32 × HSt)) (S : HSt) (x1 x2 x4 t0 t1 : Int32) : Option (Int32 × HSt) := k26 S x1 x2 (t1 ||| t0) (x4 + 1)
def f_X4_served_94 (k26 : HSt → Int32 → Int32 → Int32 → Int32 → Option (Int32 × HSt)) (S : HSt) (x1 x2 x3 x4 t0 : Int32) : Option (Int32 × HSt) := if t0 = 0 then (f_X4_served_110 k26 S x1 x2 x4 0 x3) else (f_X4_served_110 k26 S x1 x2 x4 (1 <<< (x4 &&& 31)) x3)
def f_X4_served_93 (k26 : HSt → Int32 → Int32 → Int32 → Int32 → Option (Int32 × HSt)) (S : HSt) (x1 x2 x3 x4 : Int32) : Option (Int32 × HSt) := f_X4_served_94 k26 S x1 x2 x3 x4 0
def f_X4_served_48 (k26 : HSt → Int32 → Int32 → Int32 → Int32 → Option (Int32 × HSt)) (S : HSt) (x1 x2 x3 x4 t0 : Int32) : Option (Int32 × HSt) := if x2 = 0 then (f_X4_served_94 k26 S x1 x2 x3 x4 t0) else (if x2 = 1 then (if t0 = 0 then (f_X4_served_94 k26 S x1 x2 x3 x4 1) else (f_X4_served_94 k26 S x1 x2 x3 x4 0)) else (if t0 = 0 then (f_X4_served_93 k26 S x1 x2 x3 x4) else ((f_X4_isCarried S ).bind (fun r4 => if r4 = 0 then (f_X4_served_93 k26 S x1 x2 x3 x4) else (f_X4_served_94 k26 S x1 x2 x3 x4 1)))))
def f_X4_served_26_s (k26 : HSt → Int32 → Int32 → Int32 → Int32 → Option (Int32 × HSt)) (S : HSt) (x1 x2 x3 x4 : Int32) : Option (Int32 × HSt) := if 7 ≤ x4 then (some (x3, S)) else (h_bi (f_X4_goes S x4 x1) (fun r2 S4 => if r2 = 0 then (f_X4_served_48 k26 S4 x1 x2 x3 x4 1) else (f_X4_served_48 k26 S4 x1 x2 x3 x4 0)))
def f_X4_served_26 : Nat → HSt → Int32 → Int32 → Int32 → Int32 → Option (Int32 × HSt)
  | 0, _, _, _, _, _ => none
  | n + 1, S, x1, x2, x3, x4 => f_X4_served_26_s (f_X4_served_26 n) S x1 x2 x3 x4
def f_X4_served (S : HSt) (a1 a2 : Int32) : Option (Int32 × HSt) := (f_X4_isClass a1).bind (fun r1 => if r1 = 0 then (some ((-1), S)) else ((f_X4_within a2 0 2).bind (fun r4 => if r4 = 0 then (some ((-2), S)) else (f_X4_served_26 h_fu S a1 a2 0 0))))
def f_X4_merged_58 (k21 : HSt → Int32 → Int32 → Int32 → Int32 → Option (Int32 × HSt)) (S : HSt) (x1 x2 x4 t0 t1 : Int32) : Option (Int32 × HSt) := k21 S x1 x2 (t1 ||| t0) (x4 + 1)
def f_X4_merged_57 (k21 : HSt → Int32 → Int32 → Int32 → Int32 → Option (Int32 × HSt)) (S : HSt) (x1 x2 x4 t0 : Int32) : Option (Int32 × HSt) := f_X4_merged_58 k21 S x1 x2 x4 0 t0
def f_X4_merged_21_s (k21 : HSt → Int32 → Int32 → Int32 → Int32 → Option (Int32 × HSt)) (S : HSt) (x1 x2 x3 x4 : Int32) : Option (Int32 × HSt) := if 7 ≤ x4 then (some (x3, S)) else (h_bi (f_X4_nextOf S x4 x2) (fun r2 S4 => if r2 = x1 then (h_bi (f_X4_usedLabel S4 x4 x2) (fun r6 S8 => if r6 ≤ 0 then (f_X4_merged_57 k21 S8 x1 x2 x4 x3) else (f_X4_merged_58 k21 S8 x1 x2 x4 (1 <<< (x4 &&& 31)) x3))) else (f_X4_merged_57 k21 S4 x1 x2 x4 x3)))
def f_X4_merged_21 : Nat → HSt → Int32 → Int32 → Int32 → Int32 → Option (Int32 × HSt)
  | 0, _, _, _, _, _ => none
  | n + 1, S, x1, x2, x3, x4 => f_X4_merged_21_s (f_X4_merged_21 n) S x1 x2 x3 x4
def f_X4_merged (S : HSt) (a1 a2 : Int32) : Option (Int32 × HSt) := (f_X4_isBox a1).bind (fun r1 => if r1 = 0 then (some ((-1), S)) else ((f_X4_isClass a2).bind (fun r4 => if r4 = 0 then (some ((-1), S)) else (f_X4_merged_21 h_fu S a1 a2 0 0))))
def f_X4_manyInL_23 (S : HSt) (k4 : Int32 → Int32 → Option Int32) (x2 t0 t1 : Int32) : Option Int32 := k4 (t1 + t0) (x2 + 1)
def f_X4_manyInL_4_s (S : HSt) (k4 : Int32 → Int32 → Option Int32) (x1 x2 : Int32) : Option Int32 := if 336 ≤ x2 then (some x1) else ((h_ld S 8 336 x2).bind (fun v2 => if v2 ≤ 0 then (f_X4_manyInL_23 S k4 x2 0 x1) else (f_X4_manyInL_23 S k4 x2 1 x1)))
def f_X4_manyInL_4 (S : HSt) : Nat → Int32 → Int32 → Option Int32
  | 0, _, _ => none
  | n + 1, x1, x2 => f_X4_manyInL_4_s S (f_X4_manyInL_4 S n) x1 x2
def f_X4_manyInL (S : HSt) : Option Int32 := f_X4_manyInL_4 S h_fu 0 0
def f_X4_manyInK_23 (S : HSt) (k4 : Int32 → Int32 → Option Int32) (x2 t0 t1 : Int32) : Option Int32 := k4 (t1 + t0) (x2 + 1)
def f_X4_manyInK_4_s (S : HSt) (k4 : Int32 → Int32 → Option Int32) (x1 x2 : Int32) : Option Int32 := if 336 ≤ x2 then (some x1) else ((h_ld S 10 336 x2).bind (fun v2 => if v2 ≤ 0 then (f_X4_manyInK_23 S k4 x2 0 x1) else (f_X4_manyInK_23 S k4 x2 1 x1)))
def f_X4_manyInK_4 (S : HSt) : Nat → Int32 → Int32 → Option Int32
  | 0, _, _ => none
  | n + 1, x1, x2 => f_X4_manyInK_4_s S (f_X4_manyInK_4 S n) x1 x2
def f_X4_manyInK (S : HSt) : Option Int32 := f_X4_manyInK_4 S h_fu 0 0
def f_X4_many_74 (S : HSt) (k51 : Int32 → Int32 → Option Int32) (x3 t0 t1 : Int32) : Option Int32 := k51 (t1 + t0) (x3 + 1)
def f_X4_many_51_s (S : HSt) (k51 : Int32 → Int32 → Option Int32) (x2 x3 : Int32) : Option Int32 := if (S.1 0) ≤ x3 then (some x2) else ((h_ld S 3 12 x3).bind (fun v2 => if v2 = 0 then (f_X4_many_74 S k51 x3 0 x2) else (f_X4_many_74 S k51 x3 1 x2)))
def f_X4_many_51 (S : HSt) : Nat → Int32 → Int32 → Option Int32
  | 0, _, _ => none
  | n + 1, x2, x3 => f_X4_many_51_s S (f_X4_many_51 S n) x2 x3
def f_X4_many_124 (S : HSt) (k102 : Int32 → Int32 → Option Int32) (x3 t0 t1 : Int32) : Option Int32 := k102 (t1 + t0) (x3 + 1)
def f_X4_many_102_s (S : HSt) (k102 : Int32 → Int32 → Option Int32) (x2 x3 : Int32) : Option Int32 := if 4 ≤ x3 then (some x2) else ((h_ld S 4 4 x3).bind (fun v2 => if v2 = (-9) then (f_X4_many_124 S k102 x3 0 x2) else (f_X4_many_124 S k102 x3 1 x2)))
def f_X4_many_102 (S : HSt) : Nat → Int32 → Int32 → Option Int32
  | 0, _, _ => none
  | n + 1, x2, x3 => f_X4_many_102_s S (f_X4_many_102 S n) x2 x3
def f_X4_many_168 (S : HSt) (k141 : Int32 → Int32 → Option Int32) (x3 t0 : Int32) : Option Int32 := k141 t0 (x3 + 1)
def f_X4_many_141_s (S : HSt) (k141 : Int32 → Int32 → Option Int32) (x2 x3 : Int32) : Option Int32 := if 336 ≤ x3 then (some x2) else ((h_ld S 8 336 x3).bind (fun v2 => if v2 ≤ x2 then (f_X4_many_168 S k141 x3 x2) else ((h_ld S 8 336 x3).bind (fun v5 => f_X4_many_168 S k141 x3 v5))))
def f_X4_many_141 (S : HSt) : Nat → Int32 → Int32 → Option Int32
  | 0, _, _ => none
  | n + 1, x2, x3 => f_X4_many_141_s S (f_X4_many_141 S n) x2 x3
def f_X4_many (S : HSt) (a1 : Int32) : Option Int32 := if a1 = 0 then (some (S.1 0)) else (if a1 = 1 then (f_X4_many_51 S h_fu 0 0) else (if a1 = 2 then ((f_X4_manyInL S ).bind (fun r4 => some r4)) else (if a1 = 3 then ((f_X4_manyInK S ).bind (fun r7 => some r7)) else (if a1 = 4 then (f_X4_many_102 S h_fu 0 0) else (if a1 = 5 then (some (S.1 1)) else (if a1 = 6 then (f_X4_many_141 S h_fu 0 0) else (some (-2))))))))
end
section
set_option maxHeartbeats 4000000 in
set_option maxRecDepth 100000 in
theorem c_X0_has (l : Launch) (dC : Nat → ClassId) (dI : Nat → Nat → Nat) (cI cZ : ClassId) (q : Nat → Nat) (S : HSt) (a1 a2 : Int32) (r : Int32) (h : f_X0_has S a1 a2 = some r) : MI l yX0_has hsX0_has rmX0_has (dC, dI) cI cZ (wC q cI) S [.ref (q 2), .int a1, .int a2] r S := by
  refine MI.ofW (cc := cX0_has) (maxL := 3) (ret := (some .boolean)) (by decide +kernel) rfl (Nat.le_of_ble_eq_true rfl) ?_
  intro p e s m below meth c A cx hr hlk hw ls hl
  have hx := cx.1.1
  have hb := cx.1.2.1
  have hml := cx.1.2.2.1
  have hts := cx.1.2.2.2.2
  have hta : ∀ z ∈ hALL, z.before _ s = true := fun z h => hts z (List.mem_cons_of_mem _ h)
  have lk25 : (Cond.fieldLink RX0 25 (TX0 6).1 (TX0 6).2.1 (TX0 6).2.2.1).before _ s = true := hta _ wdF_X0_25
  have hl : lv_has ls 3 [(0, .ref (q 2)), (1, .int a1), (2, .int a2)] := hl
  unfold f_X0_has at h
  refine lv_aload_n hx hb dX0_has_0 rfl (lv_at hl 0 rfl) ?_
  refine h_get (v := .ref (q 13)) cx hw 2 (wC_p2 q cI S) rfl hinX0 6 (by decide) lk25 rfl dX0_has_1 ?_
  refine lv_iload_n hx hb dX0_has_4 rfl (lv_at hl 1 rfl) ?_
  refine lv_iconst (v := 4) hx hb dX0_has_5 (by decide) ?_
  refine lv_imul hx hb dX0_has_6 ?_
  refine lv_iload_n hx hb dX0_has_7 rfl (lv_at hl 2 rfl) ?_
  refine lv_iadd hx hb dX0_has_8 ?_
  obtain ⟨v1, e2, h⟩ := h_bd_ok h
  refine h_ald cx hw 13 (wC_p13 q cI S) e2 dX0_has_9 ?_
  refine lv_iconst (v := 1) hx hb dX0_has_10 (by decide) ?_
  refine lv_icmp_ne (tgt := 18) hx hb dX0_has_11 (by decide) (fun c3 => ?_) (fun c3 => ?_)
  · have h := h_ifn c3 h
    refine lv_iconst (v := 0) hx hb dX0_has_18 (by decide) ?_
    exact h_iret cx hw hr hlk rfl (Option.some.inj h) rfl dX0_has_19
  · have h := h_ifp c3 h
    refine lv_iconst (v := 1) hx hb dX0_has_14 (by decide) ?_
    refine lv_goto (tgt := 19) hx hb dX0_has_15 (by decide) ?_
    exact h_iret cx hw hr hlk rfl (Option.some.inj h) rfl dX0_has_19
set_option maxHeartbeats 4000000 in
set_option maxRecDepth 100000 in
theorem c_X3_slot (l : Launch) (a0 a1 : Int32) (r : Int32) (h : f_X3_slot a0 a1 = some r) : MS l yX3_slot hsX3_slot rmX3_slot [.int a0, .int a1] r := by
  refine MS.ofW (cc := cX3_slot) (maxL := 2) (ret := (some .int)) (by decide +kernel) rfl (Nat.le_of_ble_eq_true rfl) ?_
  intro p e s m below meth c cf hr hlk ls hl
  have hx := cf.1
  have hb := cf.2.1
  have hml := cf.2.2.1
  have hts := cf.2.2.2.2
  have hta : ∀ z ∈ hALL, z.before _ s = true := fun z h => hts z (List.mem_cons_of_mem _ h)
  have hl : lv_has ls 2 [(0, .int a0), (1, .int a1)] := hl
  unfold f_X3_slot at h
  refine lv_iload_n hx hb dX3_slot_0 rfl (lv_at hl 0 rfl) ?_
  refine lv_iconst (v := 4) hx hb dX3_slot_1 (by decide) ?_
  refine lv_imul hx hb dX3_slot_2 ?_
  refine lv_iload_n hx hb dX3_slot_3 rfl (lv_at hl 1 rfl) ?_
  refine lv_iadd hx hb dX3_slot_4 ?_
  exact h_sret cf hr hlk rfl (Option.some.inj h) dX3_slot_5
set_option maxHeartbeats 4000000 in
set_option maxRecDepth 100000 in
theorem c_X0_handNothing (l : Launch) (dC : Nat → ClassId) (dI : Nat → Nat → Nat) (cI cZ : ClassId) (q : Nat → Nat) (S : HSt) (a1 : Int32) (S9 : HSt) (h : f_X0_handNothing S a1 = some S9) : MV l yX0_handNothing hsX0_handNothing rmX0_handNothing (dC, dI) cI cZ (wC q cI) S [.ref (q 2), .int a1] S9 := by
  refine MV.ofW (cc := cX0_handNothing) (maxL := 3) (ret := none) (by decide +kernel) rfl (Nat.le_of_ble_eq_true rfl) ?_
  intro p e s m below meth c A cx hr hlk hw ls hl
  have hx := cx.1.1
  have hb := cx.1.2.1
  have hml := cx.1.2.2.1
  have hts := cx.1.2.2.2.2
  have hta : ∀ z ∈ hALL, z.before _ s = true := fun z h => hts z (List.mem_cons_of_mem _ h)
  have lk18 : (Cond.fieldLink RX0 18 (TX0 4).1 (TX0 4).2.1 (TX0 4).2.2.1).before _ s = true := hta _ wdF_X0_18
  have lk43 : (Cond.fieldLink RX0 43 (TX0 0).1 (TX0 0).2.1 (TX0 0).2.2.1).before _ s = true := hta _ wdF_X0_43
  have lk51 : (Cond.fieldLink RX0 51 (TX1 0).1 (TX1 0).2.1 (TX1 0).2.2.1).before _ s = true := hta _ wdF_X0_51
  have lk60 : (Cond.fieldLink RX0 60 (TX1 1).1 (TX1 1).2.1 (TX1 1).2.2.1).before _ s = true := hta _ wdF_X0_60
  have hiniX3 := hta _ wdN_RX3
  have hstX3_slot := hta _ wdT_X3_slot
  have hl : lv_has ls 3 [(0, .ref (q 2)), (1, .int a1)] := hl
  unfold f_X0_handNothing at h
  have kk2 : ∀ (n2 : Nat) (S : HSt) (x1 x2 : Int32), f_X0_handNothing_2 n2 S x1 x2 = some S9 → ∀ (H : Heap) (locs : List Loc) (ls : Array Slot), HW (dC, dI) (wC q cI) S A s H locs → lv_has ls 3 [(0, .ref (q 2)), (1, .int x1), (2, .int x2)] → W p l e rmX0_handNothing s m ([.ref (q 2), .int a1] : List Value).toArray below meth c H locs 0 0 (MQ below (QV (dC, dI) (wC q cI) S9 A) ([.ref (q 2), .int a1] : List Value).toArray s 0 0 A) (F0 m 2 ls []) := by
    intro n2
    induction n2 with
    | zero =>
      intro S x1 x2 h
      have h9 : (none : Option HSt) = some S9 := h
      cases h9
    | succ n2 ih2 =>
      intro S x1 x2 h H locs ls hw hl
      have h : f_X0_handNothing_2_s (f_X0_handNothing_2 n2) S x1 x2 = some S9 := h
      unfold f_X0_handNothing_2_s at h
      have kk41 : ∀ (S : HSt) (x1 x2 : Int32), f_X0_handNothing_41 (f_X0_handNothing_2 n2) S x1 x2 = some S9 → ∀ (H : Heap) (locs : List Loc) (ls : Array Slot), HW (dC, dI) (wC q cI) S A s H locs → lv_has ls 3 [(0, .ref (q 2)), (1, .int x1), (2, .int x2)] → W p l e rmX0_handNothing s m ([.ref (q 2), .int a1] : List Value).toArray below meth c H locs 0 0 (MQ below (QV (dC, dI) (wC q cI) S9 A) ([.ref (q 2), .int a1] : List Value).toArray s 0 0 A) (F0 m 41 ls []) := by
        intro S x1 x2 h H locs ls hw hl
        unfold f_X0_handNothing_41 at h
        refine lv_iinc (v := x2 + 1) (lv' := [(2, .int (x2 + 1)), (0, .ref (q 2)), (1, .int x1)]) hx hb dX0_handNothing_41 hl (k := 2) rfl rfl (by decide) rfl (fun ls hl => ?_)
        refine lv_goto (tgt := 2) hx hb dX0_handNothing_44 (by decide) ?_
        exact ih2 _ _ _ h _ _ _ hw (lv_sub hl [1, 2, 0] rfl)
      refine lv_iload_n hx hb dX0_handNothing_2 rfl (lv_at hl 2 rfl) ?_
      refine lv_iconst (v := 2) hx hb dX0_handNothing_3 (by decide) ?_
      refine lv_aload_n hx hb dX0_handNothing_4 rfl (lv_at hl 0 rfl) ?_
      refine h_get (v := .ref (q 1)) cx hw 2 (wC_p2 q cI S) rfl hinX0 0 (by decide) lk43 rfl dX0_handNothing_5 ?_
      refine h_get (v := .int (S.1 0)) cx hw 1 (wC_p1 q cI S) rfl hinX1 0 (by decide) lk51 rfl dX0_handNothing_8 ?_
      refine lv_imul hx hb dX0_handNothing_11 ?_
      refine lv_iconst (v := 0) hx hb dX0_handNothing_12 (by decide) ?_
      obtain ⟨r1, e2, h⟩ := h_bd_ok h
      refine h_callN cx.1 (c_X3_slot l (2 * (S.1 0)) 0 r1 e2) ⟨va_cnB 2 hts (hgA (hcW wdC_X3_slot)) rfl rfl rfl cx.2.2.1.2.1 hiniX3 pdX3_slot.2 ⟨Nat.le_of_ble_eq_true rfl, Nat.le_of_ble_eq_true rfl⟩, hstX3_slot, trivial⟩ rfl hl.1 rfl (Nat.le_of_ble_eq_true rfl) dX0_handNothing_13 ⟨Nat.zero_le _, Nat.zero_le _⟩ ?_
      refine lv_icmp_ge (tgt := 47) hx hb dX0_handNothing_16 (by decide) (fun c3 => ?_) (fun c3 => ?_)
      · have h := h_ifp c3 h
        exact h_vret cx hw hr hlk (Option.some.inj h) dX0_handNothing_47
      · have h := h_ifn c3 h
        refine lv_aload_n hx hb dX0_handNothing_19 rfl (lv_at hl 0 rfl) ?_
        refine h_get (v := .ref (q 1)) cx hw 2 (wC_p2 q cI S) rfl hinX0 0 (by decide) lk43 rfl dX0_handNothing_20 ?_
        refine h_get (v := .ref (q 5)) cx hw 1 (wC_p1 q cI S) rfl hinX1 1 (by decide) lk60 rfl dX0_handNothing_23 ?_
        refine lv_iload_n hx hb dX0_handNothing_26 rfl (lv_at hl 2 rfl) ?_
        refine lv_iconst (v := 4) hx hb dX0_handNothing_27 (by decide) ?_
        refine lv_idiv hx hb dX0_handNothing_28 (by decide) ?_
        obtain ⟨v4, e5, h⟩ := h_bd_ok h
        refine h_ald cx hw 5 (wC_p5 q cI S) e5 dX0_handNothing_29 ?_
        refine lv_iload_n hx hb dX0_handNothing_30 rfl (lv_at hl 1 rfl) ?_
        refine lv_icmp_ne (tgt := 41) hx hb dX0_handNothing_31 (by decide) (fun c6 => ?_) (fun c6 => ?_)
        · have h := h_ifn c6 h
          exact kk41 _ _ _ h _ _ _ hw (lv_sub hl [0, 1, 2] rfl)
        · have h := h_ifp c6 h
          refine lv_aload_n hx hb dX0_handNothing_34 rfl (lv_at hl 0 rfl) ?_
          refine h_get (v := .ref (q 11)) cx hw 2 (wC_p2 q cI S) rfl hinX0 4 (by decide) lk18 rfl dX0_handNothing_35 ?_
          refine lv_iload_n hx hb dX0_handNothing_38 rfl (lv_at hl 2 rfl) ?_
          refine lv_iconst (v := 0) hx hb dX0_handNothing_39 (by decide) ?_
          obtain ⟨S7, e8, h⟩ := h_bd_ok h
          refine h_ast cx hw 11 (wC_p11 q cI S) (wC_s11 q cI S) e8 dX0_handNothing_40 (fun H locs hw => ?_)
          exact kk41 _ _ _ h _ _ _ hw (lv_sub hl [0, 1, 2] rfl)
  refine lv_iconst (v := 0) hx hb dX0_handNothing_0 (by decide) ?_
  refine lv_istore_n (lv' := [(2, .int 0), (0, .ref (q 2)), (1, .int a1)]) hx hb dX0_handNothing_1 rfl hl (by decide) rfl (fun ls hl => ?_)
  exact kk2 h_fu _ _ _ h _ _ _ hw (lv_sub hl [1, 2, 0] rfl)
set_option maxHeartbeats 4000000 in
set_option maxRecDepth 100000 in
theorem c_X0_changeMode (l : Launch) (dC : Nat → ClassId) (dI : Nat → Nat → Nat) (cI cZ : ClassId) (q : Nat → Nat) (S : HSt) (a1 a2 a3 : Int32) (r : Int32) (S9 : HSt) (h : f_X0_changeMode S a1 a2 a3 = some (r, S9)) : MI l yX0_changeMode hsX0_changeMode rmX0_changeMode (dC, dI) cI cZ (wC q cI) S [.ref (q 2), .int a1, .int a2, .int a3] r S9 := by
  refine MI.ofW (cc := cX0_changeMode) (maxL := 5) (ret := (some .int)) (by decide +kernel) rfl (Nat.le_of_ble_eq_true rfl) ?_
  intro p e s m below meth c A cx hr hlk hw ls hl
  have hx := cx.1.1
  have hb := cx.1.2.1
  have hml := cx.1.2.2.1
  have hts := cx.1.2.2.2.2
  have hta : ∀ z ∈ hALL, z.before _ s = true := fun z h => hts z (List.mem_cons_of_mem _ h)
  have lk25 : (Cond.fieldLink RX0 25 (TX0 6).1 (TX0 6).2.1 (TX0 6).2.2.1).before _ s = true := hta _ wdF_X0_25
  have hl : lv_has ls 5 [(0, .ref (q 2)), (1, .int a1), (2, .int a2), (3, .int a3)] := hl
  unfold f_X0_changeMode at h
  refine lv_aload_n hx hb dX0_changeMode_0 rfl (lv_at hl 0 rfl) ?_
  refine h_get (v := .ref (q 13)) cx hw 2 (wC_p2 q cI S) rfl hinX0 6 (by decide) lk25 rfl dX0_changeMode_1 ?_
  refine lv_iload_n hx hb dX0_changeMode_4 rfl (lv_at hl 1 rfl) ?_
  refine lv_iconst (v := 4) hx hb dX0_changeMode_5 (by decide) ?_
  refine lv_imul hx hb dX0_changeMode_6 ?_
  refine lv_iload_n hx hb dX0_changeMode_7 rfl (lv_at hl 2 rfl) ?_
  refine lv_iadd hx hb dX0_changeMode_8 ?_
  obtain ⟨v1, e2, h⟩ := h_bd_ok h
  refine h_ald cx hw 13 (wC_p13 q cI S) e2 dX0_changeMode_9 ?_
  refine lv_istore (lv' := [(4, .int v1), (0, .ref (q 2)), (1, .int a1), (2, .int a2), (3, .int a3)]) hx hb dX0_changeMode_10 hl (by decide) rfl (fun ls hl => ?_)
  refine lv_aload_n hx hb dX0_changeMode_12 rfl (lv_at hl 1 rfl) ?_
  refine h_get (v := .ref (q 13)) cx hw 2 (wC_p2 q cI S) rfl hinX0 6 (by decide) lk25 rfl dX0_changeMode_13 ?_
  refine lv_iload_n hx hb dX0_changeMode_16 rfl (lv_at hl 2 rfl) ?_
  refine lv_iconst (v := 4) hx hb dX0_changeMode_17 (by decide) ?_
  refine lv_imul hx hb dX0_changeMode_18 ?_
  refine lv_iload_n hx hb dX0_changeMode_19 rfl (lv_at hl 3 rfl) ?_
  refine lv_iadd hx hb dX0_changeMode_20 ?_
  refine lv_iload_n hx hb dX0_changeMode_21 rfl (lv_at hl 4 rfl) ?_
  obtain ⟨S3, e4, h⟩ := h_bd_ok h
  refine h_ast cx hw 13 (wC_p13 q cI S) (wC_s13 q cI S) e4 dX0_changeMode_22 (fun H locs hw => ?_)
  refine lv_iload_n hx hb dX0_changeMode_23 rfl (lv_at hl 3 rfl) ?_
  refine lv_iconst (v := 2) hx hb dX0_changeMode_24 (by decide) ?_
  refine lv_icmp_ne (tgt := 39) hx hb dX0_changeMode_25 (by decide) (fun c5 => ?_) (fun c5 => ?_)
  · have h := h_ifn c5 h
    refine lv_iload hx hb dX0_changeMode_39 (lv_at hl 0 rfl) ?_
    exact h_iret cx hw hr hlk rfl (congrArg Prod.fst (Option.some.inj h)) (congrArg Prod.snd (Option.some.inj h)) dX0_changeMode_41
  · have h := h_ifp c5 h
    refine lv_iload_n hx hb dX0_changeMode_28 rfl (lv_at hl 4 rfl) ?_
    refine lv_iload hx hb dX0_changeMode_29 (lv_at hl 0 rfl) ?_
    refine lv_icmp_eq (tgt := 39) hx hb dX0_changeMode_31 (by decide) (fun c6 => ?_) (fun c6 => ?_)
    · have h := h_ifp c6 h
      refine lv_iload hx hb dX0_changeMode_39 (lv_at hl 0 rfl) ?_
      exact h_iret cx hw hr hlk rfl (congrArg Prod.fst (Option.some.inj h)) (congrArg Prod.snd (Option.some.inj h)) dX0_changeMode_41
    · have h := h_ifn c6 h
      refine lv_aload_n hx hb dX0_changeMode_34 rfl (lv_at hl 1 rfl) ?_
      refine lv_iload_n hx hb dX0_changeMode_35 rfl (lv_at hl 2 rfl) ?_
      obtain ⟨S9, e8, h⟩ := h_bd_ok h
      refine h_callV cx hw (c_X0_handNothing l dC dI cI cZ q S3 a1 S9 e8) (cwV 1 hts (hgA (hcV wdL_X0_47 wdI_X0_handNothing wdS_X0_handNothing wdN_RX0 wdC_X0_handNothing)) rfl rfl rfl pdX0_handNothing ⟨Nat.le_of_ble_eq_true rfl, Nat.le_of_ble_eq_true rfl⟩) 2 (wC_p2 q cI S3) rfl rfl rfl hl.1 rfl (Nat.le_of_ble_eq_true rfl) dX0_changeMode_36 ⟨Nat.zero_le _, Nat.zero_le _⟩ (fun H locs hw => ?_)
      refine lv_iload hx hb dX0_changeMode_39 (lv_at hl 0 rfl) ?_
      exact h_iret cx hw hr hlk rfl (congrArg Prod.fst (Option.some.inj h)) (congrArg Prod.snd (Option.some.inj h)) dX0_changeMode_41
set_option maxHeartbeats 4000000 in
set_option maxRecDepth 100000 in
theorem c_X0_forgetLink (l : Launch) (dC : Nat → ClassId) (dI : Nat → Nat → Nat) (cI cZ : ClassId) (q : Nat → Nat) (S : HSt) (a1 : Int32) (S9 : HSt) (h : f_X0_forgetLink S a1 = some S9) : MV l yX0_forgetLink hsX0_forgetLink rmX0_forgetLink (dC, dI) cI cZ (wC q cI) S [.ref (q 2), .int a1] S9 := by
  refine MV.ofW (cc := cX0_forgetLink) (maxL := 3) (ret := none) (by decide +kernel) rfl (Nat.le_of_ble_eq_true rfl) ?_
  intro p e s m below meth c A cx hr hlk hw ls hl
  have hx := cx.1.1
  have hb := cx.1.2.1
  have hml := cx.1.2.2.1
  have hts := cx.1.2.2.2.2
  have hta : ∀ z ∈ hALL, z.before _ s = true := fun z h => hts z (List.mem_cons_of_mem _ h)
  have lk18 : (Cond.fieldLink RX0 18 (TX0 4).1 (TX0 4).2.1 (TX0 4).2.2.1).before _ s = true := hta _ wdF_X0_18
  have lk22 : (Cond.fieldLink RX0 22 (TX0 5).1 (TX0 5).2.1 (TX0 5).2.2.1).before _ s = true := hta _ wdF_X0_22
  have hiniX3 := hta _ wdN_RX3
  have hstX3_slot := hta _ wdT_X3_slot
  have hl : lv_has ls 3 [(0, .ref (q 2)), (1, .int a1)] := hl
  unfold f_X0_forgetLink at h
  have kk8 : ∀ (n8 : Nat) (S : HSt) (x1 x2 : Int32), f_X0_forgetLink_8 n8 S x1 x2 = some S9 → ∀ (H : Heap) (locs : List Loc) (ls : Array Slot), HW (dC, dI) (wC q cI) S A s H locs → lv_has ls 3 [(0, .ref (q 2)), (1, .int x1), (2, .int x2)] → W p l e rmX0_forgetLink s m ([.ref (q 2), .int a1] : List Value).toArray below meth c H locs 0 0 (MQ below (QV (dC, dI) (wC q cI) S9 A) ([.ref (q 2), .int a1] : List Value).toArray s 0 0 A) (F0 m 8 ls []) := by
    intro n8
    induction n8 with
    | zero =>
      intro S x1 x2 h
      have h9 : (none : Option HSt) = some S9 := h
      cases h9
    | succ n8 ih8 =>
      intro S x1 x2 h H locs ls hw hl
      have h : f_X0_forgetLink_8_s (f_X0_forgetLink_8 n8) S x1 x2 = some S9 := h
      unfold f_X0_forgetLink_8_s at h
      refine lv_iload_n hx hb dX0_forgetLink_8 rfl (lv_at hl 2 rfl) ?_
      refine lv_iconst (v := 2) hx hb dX0_forgetLink_9 (by decide) ?_
      refine lv_iload_n hx hb dX0_forgetLink_10 rfl (lv_at hl 1 rfl) ?_
      refine lv_imul hx hb dX0_forgetLink_11 ?_
      refine lv_iconst (v := 2) hx hb dX0_forgetLink_12 (by decide) ?_
      refine lv_iadd hx hb dX0_forgetLink_13 ?_
      refine lv_iconst (v := 0) hx hb dX0_forgetLink_14 (by decide) ?_
      obtain ⟨r1, e2, h⟩ := h_bd_ok h
      refine h_callN cx.1 (c_X3_slot l ((2 * x1) + 2) 0 r1 e2) ⟨va_cnB 2 hts (hgA (hcW wdC_X3_slot)) rfl rfl rfl cx.2.2.1.2.1 hiniX3 pdX3_slot.2 ⟨Nat.le_of_ble_eq_true rfl, Nat.le_of_ble_eq_true rfl⟩, hstX3_slot, trivial⟩ rfl hl.1 rfl (Nat.le_of_ble_eq_true rfl) dX0_forgetLink_15 ⟨Nat.zero_le _, Nat.zero_le _⟩ ?_
      refine lv_icmp_ge (tgt := 41) hx hb dX0_forgetLink_18 (by decide) (fun c3 => ?_) (fun c3 => ?_)
      · have h := h_ifp c3 h
        exact h_vret cx hw hr hlk (Option.some.inj h) dX0_forgetLink_41
      · have h := h_ifn c3 h
        refine lv_aload_n hx hb dX0_forgetLink_21 rfl (lv_at hl 0 rfl) ?_
        refine h_get (v := .ref (q 11)) cx hw 2 (wC_p2 q cI S) rfl hinX0 4 (by decide) lk18 rfl dX0_forgetLink_22 ?_
        refine lv_iload_n hx hb dX0_forgetLink_25 rfl (lv_at hl 2 rfl) ?_
        refine lv_iconst (v := 0) hx hb dX0_forgetLink_26 (by decide) ?_
        obtain ⟨S4, e5, h⟩ := h_bd_ok h
        refine h_ast cx hw 11 (wC_p11 q cI S) (wC_s11 q cI S) e5 dX0_forgetLink_27 (fun H locs hw => ?_)
        refine lv_aload_n hx hb dX0_forgetLink_28 rfl (lv_at hl 0 rfl) ?_
        refine h_get (v := .ref (q 12)) cx hw 2 (wC_p2 q cI S4) rfl hinX0 5 (by decide) lk22 rfl dX0_forgetLink_29 ?_
        refine lv_iload_n hx hb dX0_forgetLink_32 rfl (lv_at hl 2 rfl) ?_
        refine lv_iconst (v := 0) hx hb dX0_forgetLink_33 (by decide) ?_
        obtain ⟨S6, e7, h⟩ := h_bd_ok h
        refine h_ast cx hw 12 (wC_p12 q cI S4) (wC_s12 q cI S4) e7 dX0_forgetLink_34 (fun H locs hw => ?_)
        refine lv_iinc (v := x2 + 1) (lv' := [(2, .int (x2 + 1)), (0, .ref (q 2)), (1, .int x1)]) hx hb dX0_forgetLink_35 hl (k := 2) rfl rfl (by decide) rfl (fun ls hl => ?_)
        refine lv_goto (tgt := 8) hx hb dX0_forgetLink_38 (by decide) ?_
        exact ih8 _ _ _ h _ _ _ hw (lv_sub hl [1, 2, 0] rfl)
  refine lv_iconst (v := 2) hx hb dX0_forgetLink_0 (by decide) ?_
  refine lv_iload_n hx hb dX0_forgetLink_1 rfl (lv_at hl 1 rfl) ?_
  refine lv_imul hx hb dX0_forgetLink_2 ?_
  refine lv_iconst (v := 0) hx hb dX0_forgetLink_3 (by decide) ?_
  obtain ⟨r1, e2, h⟩ := h_bd_ok h
  refine h_callN cx.1 (c_X3_slot l (2 * a1) 0 r1 e2) ⟨va_cnB 2 hts (hgA (hcW wdC_X3_slot)) rfl rfl rfl cx.2.2.1.2.1 hiniX3 pdX3_slot.2 ⟨Nat.le_of_ble_eq_true rfl, Nat.le_of_ble_eq_true rfl⟩, hstX3_slot, trivial⟩ rfl hl.1 rfl (Nat.le_of_ble_eq_true rfl) dX0_forgetLink_4 ⟨Nat.zero_le _, Nat.zero_le _⟩ ?_
  refine lv_istore_n (lv' := [(2, .int r1), (0, .ref (q 2)), (1, .int a1)]) hx hb dX0_forgetLink_7 rfl hl (by decide) rfl (fun ls hl => ?_)
  exact kk8 h_fu _ _ _ h _ _ _ hw (lv_sub hl [1, 2, 0] rfl)
set_option maxHeartbeats 4000000 in
set_option maxRecDepth 100000 in
theorem c_X3_pair (l : Launch) (a0 a1 : Int32) (r : Int32) (h : f_X3_pair a0 a1 = some r) : MS l yX3_pair hsX3_pair rmX3_pair [.int a0, .int a1] r := by
  refine MS.ofW (cc := cX3_pair) (maxL := 2) (ret := (some .int)) (by decide +kernel) rfl (Nat.le_of_ble_eq_true rfl) ?_
  intro p e s m below meth c cf hr hlk ls hl
  have hx := cf.1
  have hb := cf.2.1
  have hml := cf.2.2.1
  have hts := cf.2.2.2.2
  have hta : ∀ z ∈ hALL, z.before _ s = true := fun z h => hts z (List.mem_cons_of_mem _ h)
  have hl : lv_has ls 2 [(0, .int a0), (1, .int a1)] := hl
  unfold f_X3_pair at h
  refine lv_iload_n hx hb dX3_pair_0 rfl (lv_at hl 0 rfl) ?_
  refine lv_iconst (v := 4) hx hb dX3_pair_1 (by decide) ?_
  refine lv_imul hx hb dX3_pair_2 ?_
  refine lv_iload_n hx hb dX3_pair_3 rfl (lv_at hl 1 rfl) ?_
  refine lv_iadd hx hb dX3_pair_4 ?_
  exact h_sret cf hr hlk rfl (Option.some.inj h) dX3_pair_5
set_option maxHeartbeats 4000000 in
set_option maxRecDepth 100000 in
theorem c_X0_slipUsed (l : Launch) (dC : Nat → ClassId) (dI : Nat → Nat → Nat) (cI cZ : ClassId) (q : Nat → Nat) (S : HSt) (a1 a2 : Int32) (r : Int32) (h : f_X0_slipUsed S a1 a2 = some r) : MI l yX0_slipUsed hsX0_slipUsed rmX0_slipUsed (dC, dI) cI cZ (wC q cI) S [.ref (q 2), .int a1, .int a2] r S := by
  refine MI.ofW (cc := cX0_slipUsed) (maxL := 4) (ret := (some .int)) (by decide +kernel) rfl (Nat.le_of_ble_eq_true rfl) ?_
  intro p e s m below meth c A cx hr hlk hw ls hl
  have hx := cx.1.1
  have hb := cx.1.2.1
  have hml := cx.1.2.2.1
  have hts := cx.1.2.2.2.2
  have hta : ∀ z ∈ hALL, z.before _ s = true := fun z h => hts z (List.mem_cons_of_mem _ h)
  have lk22 : (Cond.fieldLink RX0 22 (TX0 5).1 (TX0 5).2.1 (TX0 5).2.2.1).before _ s = true := hta _ wdF_X0_22
  have lk43 : (Cond.fieldLink RX0 43 (TX0 0).1 (TX0 0).2.1 (TX0 0).2.2.1).before _ s = true := hta _ wdF_X0_43
  have lk63 : (Cond.fieldLink RX0 63 (TX1 6).1 (TX1 6).2.1 (TX1 6).2.2.1).before _ s = true := hta _ wdF_X0_63
  have hiniX3 := hta _ wdN_RX3
  have hstX3_pair := hta _ wdT_X3_pair
  have hstX3_slot := hta _ wdT_X3_slot
  have hl : lv_has ls 4 [(0, .ref (q 2)), (1, .int a1), (2, .int a2)] := hl
  unfold f_X0_slipUsed at h
  refine lv_aload_n hx hb dX0_slipUsed_0 rfl (lv_at hl 0 rfl) ?_
  refine h_get (v := .ref (q 1)) cx hw 2 (wC_p2 q cI S) rfl hinX0 0 (by decide) lk43 rfl dX0_slipUsed_1 ?_
  refine h_get (v := .ref (q 10)) cx hw 1 (wC_p1 q cI S) rfl hinX1 6 (by decide) lk63 rfl dX0_slipUsed_4 ?_
  refine lv_iload_n hx hb dX0_slipUsed_7 rfl (lv_at hl 1 rfl) ?_
  refine lv_iload_n hx hb dX0_slipUsed_8 rfl (lv_at hl 2 rfl) ?_
  obtain ⟨r1, e2, h⟩ := h_bd_ok h
  refine h_callN cx.1 (c_X3_pair l a1 a2 r1 e2) ⟨va_cnB 2 hts (hgA (hcW wdC_X3_pair)) rfl rfl rfl cx.2.2.1.2.2.1 hiniX3 pdX3_pair.2 ⟨Nat.le_of_ble_eq_true rfl, Nat.le_of_ble_eq_true rfl⟩, hstX3_pair, trivial⟩ rfl hl.1 rfl (Nat.le_of_ble_eq_true rfl) dX0_slipUsed_9 ⟨Nat.zero_le _, Nat.zero_le _⟩ ?_
  obtain ⟨v3, e4, h⟩ := h_bd_ok h
  refine h_ald cx hw 10 (wC_p10 q cI S) e4 dX0_slipUsed_12 ?_
  refine lv_istore_n (lv' := [(3, .int v3), (0, .ref (q 2)), (1, .int a1), (2, .int a2)]) hx hb dX0_slipUsed_13 rfl hl (by decide) rfl (fun ls hl => ?_)
  refine lv_iload_n hx hb dX0_slipUsed_14 rfl (lv_at hl 0 rfl) ?_
  refine lv_iconst (v := (-1)) hx hb dX0_slipUsed_15 (by decide) ?_
  refine lv_icmp_ne (tgt := 23) hx hb dX0_slipUsed_16 (by decide) (fun c5 => ?_) (fun c5 => ?_)
  · have h := h_ifn c5 h
    refine lv_aload_n hx hb dX0_slipUsed_23 rfl (lv_at hl 1 rfl) ?_
    refine h_get (v := .ref (q 12)) cx hw 2 (wC_p2 q cI S) rfl hinX0 5 (by decide) lk22 rfl dX0_slipUsed_24 ?_
    refine lv_iload_n hx hb dX0_slipUsed_27 rfl (lv_at hl 0 rfl) ?_
    refine lv_iload_n hx hb dX0_slipUsed_28 rfl (lv_at hl 3 rfl) ?_
    obtain ⟨r6, e7, h⟩ := h_bd_ok h
    refine h_callN cx.1 (c_X3_slot l v3 a2 r6 e7) ⟨va_cnB 2 hts (hgA (hcW wdC_X3_slot)) rfl rfl rfl cx.2.2.1.2.1 hiniX3 pdX3_slot.2 ⟨Nat.le_of_ble_eq_true rfl, Nat.le_of_ble_eq_true rfl⟩, hstX3_slot, trivial⟩ rfl hl.1 rfl (Nat.le_of_ble_eq_true rfl) dX0_slipUsed_29 ⟨Nat.zero_le _, Nat.zero_le _⟩ ?_
    obtain ⟨v8, e9, h⟩ := h_bd_ok h
    refine h_ald cx hw 12 (wC_p12 q cI S) e9 dX0_slipUsed_32 ?_
    exact h_iret cx hw hr hlk rfl (Option.some.inj h) rfl dX0_slipUsed_33
  · have h := h_ifp c5 h
    refine lv_iconst (v := 0) hx hb dX0_slipUsed_19 (by decide) ?_
    refine lv_goto (tgt := 33) hx hb dX0_slipUsed_20 (by decide) ?_
    exact h_iret cx hw hr hlk rfl (Option.some.inj h) rfl dX0_slipUsed_33
set_option maxHeartbeats 4000000 in
set_option maxRecDepth 100000 in
theorem c_X3_labelOf (l : Launch) (a0 : Int32) (r : Int32) (h : f_X3_labelOf a0 = some r) : MS l yX3_labelOf hsX3_labelOf rmX3_labelOf [.int a0] r := by
  refine MS.ofW (cc := cX3_labelOf) (maxL := 1) (ret := (some .int)) (by decide +kernel) rfl (Nat.le_of_ble_eq_true rfl) ?_
  intro p e s m below meth c cf hr hlk ls hl
  have hx := cf.1
  have hb := cf.2.1
  have hml := cf.2.2.1
  have hts := cf.2.2.2.2
  have hta : ∀ z ∈ hALL, z.before _ s = true := fun z h => hts z (List.mem_cons_of_mem _ h)
  have hl : lv_has ls 1 [(0, .int a0)] := hl
  unfold f_X3_labelOf at h
  refine lv_iload_n hx hb dX3_labelOf_0 rfl (lv_at hl 0 rfl) ?_
  refine lv_iconst (v := 4) hx hb dX3_labelOf_1 (by decide) ?_
  refine lv_ishr hx hb dX3_labelOf_2 ?_
  exact h_sret cf hr hlk rfl (Option.some.inj h) dX3_labelOf_3
set_option maxHeartbeats 4000000 in
set_option maxRecDepth 100000 in
theorem c_X0_classMeant (l : Launch) (dC : Nat → ClassId) (dI : Nat → Nat → Nat) (cI cZ : ClassId) (q : Nat → Nat) (S : HSt) (a1 a2 a3 : Int32) (r : Int32) (h : f_X0_classMeant S a1 a2 a3 = some r) : MI l yX0_classMeant hsX0_classMeant rmX0_classMeant (dC, dI) cI cZ (wC q cI) S [.ref (q 2), .int a1, .int a2, .int a3] r S := by
  refine MI.ofW (cc := cX0_classMeant) (maxL := 9) (ret := (some .int)) (by decide +kernel) rfl (Nat.le_of_ble_eq_true rfl) ?_
  intro p e s m below meth c A cx hr hlk hw ls hl
  have hx := cx.1.1
  have hb := cx.1.2.1
  have hml := cx.1.2.2.1
  have hts := cx.1.2.2.2.2
  have hta : ∀ z ∈ hALL, z.before _ s = true := fun z h => hts z (List.mem_cons_of_mem _ h)
  have lk18 : (Cond.fieldLink RX0 18 (TX0 4).1 (TX0 4).2.1 (TX0 4).2.2.1).before _ s = true := hta _ wdF_X0_18
  have lk43 : (Cond.fieldLink RX0 43 (TX0 0).1 (TX0 0).2.1 (TX0 0).2.2.1).before _ s = true := hta _ wdF_X0_43
  have lk51 : (Cond.fieldLink RX0 51 (TX1 0).1 (TX1 0).2.1 (TX1 0).2.2.1).before _ s = true := hta _ wdF_X0_51
  have lk60 : (Cond.fieldLink RX0 60 (TX1 1).1 (TX1 1).2.1 (TX1 1).2.2.1).before _ s = true := hta _ wdF_X0_60
  have hiniX3 := hta _ wdN_RX3
  have hstX3_labelOf := hta _ wdT_X3_labelOf
  have hstX3_slot := hta _ wdT_X3_slot
  have hl : lv_has ls 9 [(0, .ref (q 2)), (1, .int a1), (2, .int a2), (3, .int a3)] := hl
  unfold f_X0_classMeant at h
  have kk14 : ∀ (x1 x2 x3 t0 : Int32), f_X0_classMeant_14 S x1 x2 x3 t0 = some r → ∀ (H : Heap) (locs : List Loc) (ls : Array Slot), HW (dC, dI) (wC q cI) S A s H locs → lv_has ls 9 [(0, .ref (q 2)), (1, .int x1), (2, .int x2), (3, .int x3)] → W p l e rmX0_classMeant s m ([.ref (q 2), .int a1, .int a2, .int a3] : List Value).toArray below meth c H locs 0 0 (MQ below (QI (dC, dI) (wC q cI) r S A) ([.ref (q 2), .int a1, .int a2, .int a3] : List Value).toArray s 0 0 A) (F0 m 14 ls [.int t0]) := by
    intro x1 x2 x3 t0 h H locs ls hw hl
    unfold f_X0_classMeant_14 at h
    have kk40 : ∀ (x1 x3 x4 t0 : Int32), f_X0_classMeant_40 S x1 x3 x4 t0 = some r → ∀ (H : Heap) (locs : List Loc) (ls : Array Slot), HW (dC, dI) (wC q cI) S A s H locs → lv_has ls 9 [(0, .ref (q 2)), (1, .int x1), (3, .int x3), (4, .int x4)] → W p l e rmX0_classMeant s m ([.ref (q 2), .int a1, .int a2, .int a3] : List Value).toArray below meth c H locs 0 0 (MQ below (QI (dC, dI) (wC q cI) r S A) ([.ref (q 2), .int a1, .int a2, .int a3] : List Value).toArray s 0 0 A) (F0 m 40 ls [.int t0]) := by
      intro x1 x3 x4 t0 h H locs ls hw hl
      unfold f_X0_classMeant_40 at h
      have kk45 : ∀ (n45 : Nat) (x1 x3 x4 x5 x6 : Int32), f_X0_classMeant_45 S n45 x1 x3 x4 x5 x6 = some r → ∀ (H : Heap) (locs : List Loc) (ls : Array Slot), HW (dC, dI) (wC q cI) S A s H locs → lv_has ls 9 [(0, .ref (q 2)), (1, .int x1), (3, .int x3), (4, .int x4), (5, .int x5), (6, .int x6)] → W p l e rmX0_classMeant s m ([.ref (q 2), .int a1, .int a2, .int a3] : List Value).toArray below meth c H locs 0 0 (MQ below (QI (dC, dI) (wC q cI) r S A) ([.ref (q 2), .int a1, .int a2, .int a3] : List Value).toArray s 0 0 A) (F0 m 45 ls []) := by
        intro n45
        induction n45 with
        | zero =>
          intro x1 x3 x4 x5 x6 h
          have h9 : (none : Option Int32) = some r := h
          cases h9
        | succ n45 ih45 =>
          intro x1 x3 x4 x5 x6 h H locs ls hw hl
          have h : f_X0_classMeant_45_s S (f_X0_classMeant_45 S n45) x1 x3 x4 x5 x6 = some r := h
          unfold f_X0_classMeant_45_s at h
          have kk55 : ∀ (n55 : Nat) (x1 x3 x4 x5 x6 x7 : Int32), f_X0_classMeant_55 S (f_X0_classMeant_45 S n45) n55 x1 x3 x4 x5 x6 x7 = some r → ∀ (H : Heap) (locs : List Loc) (ls : Array Slot), HW (dC, dI) (wC q cI) S A s H locs → lv_has ls 9 [(0, .ref (q 2)), (1, .int x1), (3, .int x3), (4, .int x4), (5, .int x5), (6, .int x6), (7, .int x7)] → W p l e rmX0_classMeant s m ([.ref (q 2), .int a1, .int a2, .int a3] : List Value).toArray below meth c H locs 0 0 (MQ below (QI (dC, dI) (wC q cI) r S A) ([.ref (q 2), .int a1, .int a2, .int a3] : List Value).toArray s 0 0 A) (F0 m 55 ls []) := by
            intro n55
            induction n55 with
            | zero =>
              intro x1 x3 x4 x5 x6 x7 h
              have h9 : (none : Option Int32) = some r := h
              cases h9
            | succ n55 ih55 =>
              intro x1 x3 x4 x5 x6 x7 h H locs ls hw hl
              have h : f_X0_classMeant_55_s S (f_X0_classMeant_45 S n45) (f_X0_classMeant_55 S (f_X0_classMeant_45 S n45) n55) x1 x3 x4 x5 x6 x7 = some r := h
              unfold f_X0_classMeant_55_s at h
              have kk107 : ∀ (x1 x3 x4 x5 x6 x7 : Int32), f_X0_classMeant_107 S (f_X0_classMeant_55 S (f_X0_classMeant_45 S n45) n55) x1 x3 x4 x5 x6 x7 = some r → ∀ (H : Heap) (locs : List Loc) (ls : Array Slot), HW (dC, dI) (wC q cI) S A s H locs → lv_has ls 9 [(0, .ref (q 2)), (1, .int x1), (3, .int x3), (4, .int x4), (5, .int x5), (6, .int x6), (7, .int x7)] → W p l e rmX0_classMeant s m ([.ref (q 2), .int a1, .int a2, .int a3] : List Value).toArray below meth c H locs 0 0 (MQ below (QI (dC, dI) (wC q cI) r S A) ([.ref (q 2), .int a1, .int a2, .int a3] : List Value).toArray s 0 0 A) (F0 m 107 ls []) := by
                intro x1 x3 x4 x5 x6 x7 h H locs ls hw hl
                unfold f_X0_classMeant_107 at h
                refine lv_iinc (v := x7 + 1) (lv' := [(7, .int (x7 + 1)), (0, .ref (q 2)), (1, .int x1), (3, .int x3), (4, .int x4), (5, .int x5), (6, .int x6)]) hx hb dX0_classMeant_107 hl (k := 6) rfl rfl (by decide) rfl (fun ls hl => ?_)
                refine lv_goto (tgt := 55) hx hb dX0_classMeant_110 (by decide) ?_
                exact ih55 _ _ _ _ _ _ h _ _ _ hw (lv_sub hl [1, 2, 3, 4, 5, 6, 0] rfl)
              refine lv_iload hx hb dX0_classMeant_55 (lv_at hl 6 rfl) ?_
              refine lv_iload hx hb dX0_classMeant_57 (lv_at hl 4 rfl) ?_
              refine lv_icmp_ge (tgt := 113) hx hb dX0_classMeant_59 (by decide) (fun c1 => ?_) (fun c1 => ?_)
              · have h := h_ifp c1 h
                refine lv_iinc (v := x6 + 1) (lv' := [(6, .int (x6 + 1)), (0, .ref (q 2)), (1, .int x1), (3, .int x3), (4, .int x4), (5, .int x5), (7, .int x7)]) hx hb dX0_classMeant_113 hl (k := 5) rfl rfl (by decide) rfl (fun ls hl => ?_)
                refine lv_goto (tgt := 45) hx hb dX0_classMeant_116 (by decide) ?_
                exact ih45 _ _ _ _ _ h _ _ _ hw (lv_sub hl [1, 2, 3, 4, 5, 0] rfl)
              · have h := h_ifn c1 h
                refine lv_aload_n hx hb dX0_classMeant_62 rfl (lv_at hl 0 rfl) ?_
                refine h_get (v := .ref (q 11)) cx hw 2 (wC_p2 q cI S) rfl hinX0 4 (by decide) lk18 rfl dX0_classMeant_63 ?_
                refine lv_iload hx hb dX0_classMeant_66 (lv_at hl 6 rfl) ?_
                refine lv_iload hx hb dX0_classMeant_68 (lv_at hl 5 rfl) ?_
                obtain ⟨r2, e3, h⟩ := h_bd_ok h
                refine h_callN cx.1 (c_X3_slot l x7 x6 r2 e3) ⟨va_cnB 2 hts (hgA (hcW wdC_X3_slot)) rfl rfl rfl cx.2.2.1.2.1 hiniX3 pdX3_slot.2 ⟨Nat.le_of_ble_eq_true rfl, Nat.le_of_ble_eq_true rfl⟩, hstX3_slot, trivial⟩ rfl hl.1 rfl (Nat.le_of_ble_eq_true rfl) dX0_classMeant_70 ⟨Nat.zero_le _, Nat.zero_le _⟩ ?_
                obtain ⟨v4, e5, h⟩ := h_bd_ok h
                refine h_ald cx hw 11 (wC_p11 q cI S) e5 dX0_classMeant_73 ?_
                refine lv_istore (lv' := [(8, .int v4), (0, .ref (q 2)), (1, .int x1), (3, .int x3), (4, .int x4), (5, .int x5), (6, .int x6), (7, .int x7)]) hx hb dX0_classMeant_74 hl (by decide) rfl (fun ls hl => ?_)
                refine lv_aload_n hx hb dX0_classMeant_76 rfl (lv_at hl 1 rfl) ?_
                refine h_get (v := .ref (q 1)) cx hw 2 (wC_p2 q cI S) rfl hinX0 0 (by decide) lk43 rfl dX0_classMeant_77 ?_
                refine h_get (v := .ref (q 5)) cx hw 1 (wC_p1 q cI S) rfl hinX1 1 (by decide) lk60 rfl dX0_classMeant_80 ?_
                refine lv_iload hx hb dX0_classMeant_83 (lv_at hl 7 rfl) ?_
                obtain ⟨v6, e7, h⟩ := h_bd_ok h
                refine h_ald cx hw 5 (wC_p5 q cI S) e7 dX0_classMeant_85 ?_
                refine lv_iload_n hx hb dX0_classMeant_86 rfl (lv_at hl 2 rfl) ?_
                refine lv_icmp_ne (tgt := 107) hx hb dX0_classMeant_87 (by decide) (fun c8 => ?_) (fun c8 => ?_)
                · have h := h_ifn c8 h
                  exact kk107 _ _ _ _ _ _ h _ _ _ hw (lv_sub hl [1, 2, 3, 4, 5, 6, 7] rfl)
                · have h := h_ifp c8 h
                  refine lv_iload hx hb dX0_classMeant_90 (lv_at hl 0 rfl) ?_
                  refine lv_if_eq (tgt := 107) hx hb dX0_classMeant_92 (by decide) (fun c9 => ?_) (fun c9 => ?_)
                  · have h := h_ifp c9 h
                    exact kk107 _ _ _ _ _ _ h _ _ _ hw (lv_sub hl [1, 2, 3, 4, 5, 6, 7] rfl)
                  · have h := h_ifn c9 h
                    refine lv_iload hx hb dX0_classMeant_95 (lv_at hl 0 rfl) ?_
                    obtain ⟨r10, e11, h⟩ := h_bd_ok h
                    refine h_callN cx.1 (c_X3_labelOf l v4 r10 e11) ⟨va_cnB 1 hts (hgA (hcW wdC_X3_labelOf)) rfl rfl rfl cx.2.2.1.2.2.2.2.2.1 hiniX3 pdX3_labelOf.2 ⟨Nat.le_of_ble_eq_true rfl, Nat.le_of_ble_eq_true rfl⟩, hstX3_labelOf, trivial⟩ rfl hl.1 rfl (Nat.le_of_ble_eq_true rfl) dX0_classMeant_97 ⟨Nat.zero_le _, Nat.zero_le _⟩ ?_
                    refine lv_iload_n hx hb dX0_classMeant_100 rfl (lv_at hl 3 rfl) ?_
                    refine lv_icmp_ne (tgt := 107) hx hb dX0_classMeant_101 (by decide) (fun c12 => ?_) (fun c12 => ?_)
                    · have h := h_ifn c12 h
                      exact kk107 _ _ _ _ _ _ h _ _ _ hw (lv_sub hl [1, 2, 3, 4, 5, 6, 7] rfl)
                    · have h := h_ifp c12 h
                      refine lv_iload hx hb dX0_classMeant_104 (lv_at hl 6 rfl) ?_
                      exact h_iret cx hw hr hlk rfl (Option.some.inj h) rfl dX0_classMeant_106
          refine lv_iload hx hb dX0_classMeant_45 (lv_at hl 5 rfl) ?_
          refine lv_iconst (v := 4) hx hb dX0_classMeant_47 (by decide) ?_
          refine lv_icmp_ge (tgt := 119) hx hb dX0_classMeant_48 (by decide) (fun c1 => ?_) (fun c1 => ?_)
          · have h := h_ifp c1 h
            refine lv_iconst (v := (-1)) hx hb dX0_classMeant_119 (by decide) ?_
            exact h_iret cx hw hr hlk rfl (Option.some.inj h) rfl dX0_classMeant_120
          · have h := h_ifn c1 h
            refine lv_iload hx hb dX0_classMeant_51 (lv_at hl 3 rfl) ?_
            refine lv_istore (lv' := [(7, .int x4), (0, .ref (q 2)), (1, .int x1), (3, .int x3), (4, .int x4), (5, .int x5), (6, .int x6)]) hx hb dX0_classMeant_53 hl (by decide) rfl (fun ls hl => ?_)
            exact kk55 h_fu _ _ _ _ _ _ h _ _ _ hw (lv_sub hl [1, 2, 3, 4, 5, 6, 0] rfl)
      refine lv_istore (lv' := [(5, .int t0), (0, .ref (q 2)), (1, .int x1), (3, .int x3), (4, .int x4)]) hx hb dX0_classMeant_40 hl (by decide) rfl (fun ls hl => ?_)
      refine lv_iconst (v := 0) hx hb dX0_classMeant_42 (by decide) ?_
      refine lv_istore (lv' := [(6, .int 0), (5, .int t0), (0, .ref (q 2)), (1, .int x1), (3, .int x3), (4, .int x4)]) hx hb dX0_classMeant_43 hl (by decide) rfl (fun ls hl => ?_)
      exact kk45 h_fu _ _ _ _ _ h _ _ _ hw (lv_sub hl [2, 3, 4, 5, 1, 0] rfl)
    refine lv_istore (lv' := [(4, .int t0), (0, .ref (q 2)), (1, .int x1), (2, .int x2), (3, .int x3)]) hx hb dX0_classMeant_14 hl (by decide) rfl (fun ls hl => ?_)
    refine lv_aload_n hx hb dX0_classMeant_16 rfl (lv_at hl 1 rfl) ?_
    refine lv_iload_n hx hb dX0_classMeant_17 rfl (lv_at hl 2 rfl) ?_
    refine lv_iconst (v := 2) hx hb dX0_classMeant_18 (by decide) ?_
    obtain ⟨r1, e2, h⟩ := h_bd_ok h
    refine h_callI cx hw (c_X0_has l dC dI cI cZ q S x1 2 r1 e2) (cwV 2 hts (hgA (hcV wdL_X0_69 wdI_X0_has wdS_X0_has wdN_RX0 wdC_X0_has)) rfl rfl rfl pdX0_has ⟨Nat.le_of_ble_eq_true rfl, Nat.le_of_ble_eq_true rfl⟩) 2 (wC_p2 q cI S) rfl rfl rfl hl.1 rfl (Nat.le_of_ble_eq_true rfl) dX0_classMeant_19 ⟨Nat.zero_le _, Nat.zero_le _⟩ (fun H locs hw => ?_)
    refine lv_if_eq (tgt := 31) hx hb dX0_classMeant_22 (by decide) (fun c3 => ?_) (fun c3 => ?_)
    · have h := h_ifp c3 h
      refine lv_iconst (v := 2) hx hb dX0_classMeant_31 (by decide) ?_
      refine lv_aload_n hx hb dX0_classMeant_32 rfl (lv_at hl 1 rfl) ?_
      refine h_get (v := .ref (q 1)) cx hw 2 (wC_p2 q cI S) rfl hinX0 0 (by decide) lk43 rfl dX0_classMeant_33 ?_
      refine h_get (v := .int (S.1 0)) cx hw 1 (wC_p1 q cI S) rfl hinX1 0 (by decide) lk51 rfl dX0_classMeant_36 ?_
      refine lv_imul hx hb dX0_classMeant_39 ?_
      exact kk40 _ _ _ _ h _ _ _ hw (lv_sub hl [1, 2, 4, 0] rfl)
    · have h := h_ifn c3 h
      refine lv_iload_n hx hb dX0_classMeant_25 rfl (lv_at hl 3 rfl) ?_
      refine lv_iconst (v := 1) hx hb dX0_classMeant_26 (by decide) ?_
      refine lv_iadd hx hb dX0_classMeant_27 ?_
      refine lv_goto (tgt := 40) hx hb dX0_classMeant_28 (by decide) ?_
      exact kk40 _ _ _ _ h _ _ _ hw (lv_sub hl [1, 2, 4, 0] rfl)
  refine lv_aload_n hx hb dX0_classMeant_0 rfl (lv_at hl 0 rfl) ?_
  refine lv_iload_n hx hb dX0_classMeant_1 rfl (lv_at hl 1 rfl) ?_
  refine lv_iconst (v := 2) hx hb dX0_classMeant_2 (by decide) ?_
  obtain ⟨r1, e2, h⟩ := h_bd_ok h
  refine h_callI cx hw (c_X0_has l dC dI cI cZ q S a1 2 r1 e2) (cwV 2 hts (hgA (hcV wdL_X0_69 wdI_X0_has wdS_X0_has wdN_RX0 wdC_X0_has)) rfl rfl rfl pdX0_has ⟨Nat.le_of_ble_eq_true rfl, Nat.le_of_ble_eq_true rfl⟩) 2 (wC_p2 q cI S) rfl rfl rfl hl.1 rfl (Nat.le_of_ble_eq_true rfl) dX0_classMeant_3 ⟨Nat.zero_le _, Nat.zero_le _⟩ (fun H locs hw => ?_)
  refine lv_if_eq (tgt := 13) hx hb dX0_classMeant_6 (by decide) (fun c3 => ?_) (fun c3 => ?_)
  · have h := h_ifp c3 h
    refine lv_iconst (v := 0) hx hb dX0_classMeant_13 (by decide) ?_
    exact kk14 _ _ _ _ h _ _ _ hw (lv_sub hl [0, 1, 2, 3] rfl)
  · have h := h_ifn c3 h
    refine lv_iload_n hx hb dX0_classMeant_9 rfl (lv_at hl 2 rfl) ?_
    refine lv_goto (tgt := 14) hx hb dX0_classMeant_10 (by decide) ?_
    exact kk14 _ _ _ _ h _ _ _ hw (lv_sub hl [0, 1, 2, 3] rfl)
set_option maxHeartbeats 4000000 in
set_option maxRecDepth 100000 in
theorem c_X0_greatestLabel (l : Launch) (dC : Nat → ClassId) (dI : Nat → Nat → Nat) (cI cZ : ClassId) (q : Nat → Nat) (S : HSt) (r : Int32) (h : f_X0_greatestLabel S = some r) : MI l yX0_greatestLabel hsX0_greatestLabel rmX0_greatestLabel (dC, dI) cI cZ (wC q cI) S [.ref (q 2)] r S := by
  refine MI.ofW (cc := cX0_greatestLabel) (maxL := 3) (ret := (some .int)) (by decide +kernel) rfl (Nat.le_of_ble_eq_true rfl) ?_
  intro p e s m below meth c A cx hr hlk hw ls hl
  have hx := cx.1.1
  have hb := cx.1.2.1
  have hml := cx.1.2.2.1
  have hts := cx.1.2.2.2.2
  have hta : ∀ z ∈ hALL, z.before _ s = true := fun z h => hts z (List.mem_cons_of_mem _ h)
  have lk18 : (Cond.fieldLink RX0 18 (TX0 4).1 (TX0 4).2.1 (TX0 4).2.2.1).before _ s = true := hta _ wdF_X0_18
  have hiniX3 := hta _ wdN_RX3
  have hstX3_labelOf := hta _ wdT_X3_labelOf
  have hl : lv_has ls 3 [(0, .ref (q 2))] := hl
  unfold f_X0_greatestLabel at h
  have kk4 : ∀ (n4 : Nat) (x1 x2 : Int32), f_X0_greatestLabel_4 S n4 x1 x2 = some r → ∀ (H : Heap) (locs : List Loc) (ls : Array Slot), HW (dC, dI) (wC q cI) S A s H locs → lv_has ls 3 [(0, .ref (q 2)), (1, .int x1), (2, .int x2)] → W p l e rmX0_greatestLabel s m ([.ref (q 2)] : List Value).toArray below meth c H locs 0 0 (MQ below (QI (dC, dI) (wC q cI) r S A) ([.ref (q 2)] : List Value).toArray s 0 0 A) (F0 m 4 ls []) := by
    intro n4
    induction n4 with
    | zero =>
      intro x1 x2 h
      have h9 : (none : Option Int32) = some r := h
      cases h9
    | succ n4 ih4 =>
      intro x1 x2 h H locs ls hw hl
      have h : f_X0_greatestLabel_4_s S (f_X0_greatestLabel_4 S n4) x1 x2 = some r := h
      unfold f_X0_greatestLabel_4_s at h
      refine lv_iload_n hx hb dX0_greatestLabel_4 rfl (lv_at hl 2 rfl) ?_
      refine lv_aload_n hx hb dX0_greatestLabel_5 rfl (lv_at hl 0 rfl) ?_
      refine h_get (v := .ref (q 11)) cx hw 2 (wC_p2 q cI S) rfl hinX0 4 (by decide) lk18 rfl dX0_greatestLabel_6 ?_
      refine h_len (v := 96) cx hw 11 (wC_p11 q cI S) rfl dX0_greatestLabel_9 ?_
      refine lv_icmp_ge (tgt := 33) hx hb dX0_greatestLabel_10 (by decide) (fun c1 => ?_) (fun c1 => ?_)
      · have h := h_ifp c1 h
        refine lv_iload_n hx hb dX0_greatestLabel_33 rfl (lv_at hl 1 rfl) ?_
        exact h_iret cx hw hr hlk rfl (Option.some.inj h) rfl dX0_greatestLabel_34
      · have h := h_ifn c1 h
        refine lv_iload_n hx hb dX0_greatestLabel_13 rfl (lv_at hl 1 rfl) ?_
        refine lv_aload_n hx hb dX0_greatestLabel_14 rfl (lv_at hl 0 rfl) ?_
        refine h_get (v := .ref (q 11)) cx hw 2 (wC_p2 q cI S) rfl hinX0 4 (by decide) lk18 rfl dX0_greatestLabel_15 ?_
        refine lv_iload_n hx hb dX0_greatestLabel_18 rfl (lv_at hl 2 rfl) ?_
        obtain ⟨v2, e3, h⟩ := h_bd_ok h
        refine h_ald cx hw 11 (wC_p11 q cI S) e3 dX0_greatestLabel_19 ?_
        obtain ⟨r4, e5, h⟩ := h_bd_ok h
        refine h_callN cx.1 (c_X3_labelOf l v2 r4 e5) ⟨va_cnB 1 hts (hgA (hcW wdC_X3_labelOf)) rfl rfl rfl cx.2.2.1.2.2.2.2.2.1 hiniX3 pdX3_labelOf.2 ⟨Nat.le_of_ble_eq_true rfl, Nat.le_of_ble_eq_true rfl⟩, hstX3_labelOf, trivial⟩ rfl hl.1 rfl (Nat.le_of_ble_eq_true rfl) dX0_greatestLabel_20 ⟨Nat.zero_le _, Nat.zero_le _⟩ ?_
        refine va_mmax hx hb (hml.trans hl.1.symm) cx.1.2.2.2.1 (hta _ wdL_X0_77) (hta _ wdT_Lib_Math_max_name) (hta _ wdN_java_lang_Math) (hta _ wdC_Lib_Math_max_name) (Nat.le_of_ble_eq_true rfl) (Nat.le_of_ble_eq_true rfl) (Nat.zero_le _) (Nat.zero_le _) dX0_greatestLabel_23 ?_
        refine lv_istore_n (lv' := [(1, .int (if x1 < r4 then r4 else x1)), (0, .ref (q 2)), (2, .int x2)]) hx hb dX0_greatestLabel_26 rfl hl (by decide) rfl (fun ls hl => ?_)
        refine lv_iinc (v := x2 + 1) (lv' := [(2, .int (x2 + 1)), (1, .int (if x1 < r4 then r4 else x1)), (0, .ref (q 2))]) hx hb dX0_greatestLabel_27 hl (k := 2) rfl rfl (by decide) rfl (fun ls hl => ?_)
        refine lv_goto (tgt := 4) hx hb dX0_greatestLabel_30 (by decide) ?_
        exact ih4 _ _ h _ _ _ hw (lv_sub hl [2, 1, 0] rfl)
  refine lv_iconst (v := 0) hx hb dX0_greatestLabel_0 (by decide) ?_
  refine lv_istore_n (lv' := [(1, .int 0), (0, .ref (q 2))]) hx hb dX0_greatestLabel_1 rfl hl (by decide) rfl (fun ls hl => ?_)
  refine lv_iconst (v := 0) hx hb dX0_greatestLabel_2 (by decide) ?_
  refine lv_istore_n (lv' := [(2, .int 0), (1, .int 0), (0, .ref (q 2))]) hx hb dX0_greatestLabel_3 rfl hl (by decide) rfl (fun ls hl => ?_)
  exact kk4 h_fu _ _ h _ _ _ hw (lv_sub hl [2, 1, 0] rfl)
set_option maxHeartbeats 4000000 in
set_option maxRecDepth 100000 in
theorem c_X3_countOf (l : Launch) (a0 : Int32) (r : Int32) (h : f_X3_countOf a0 = some r) : MS l yX3_countOf hsX3_countOf rmX3_countOf [.int a0] r := by
  refine MS.ofW (cc := cX3_countOf) (maxL := 1) (ret := (some .int)) (by decide +kernel) rfl (Nat.le_of_ble_eq_true rfl) ?_
  intro p e s m below meth c cf hr hlk ls hl
  have hx := cf.1
  have hb := cf.2.1
  have hml := cf.2.2.1
  have hts := cf.2.2.2.2
  have hta : ∀ z ∈ hALL, z.before _ s = true := fun z h => hts z (List.mem_cons_of_mem _ h)
  have hl : lv_has ls 1 [(0, .int a0)] := hl
  unfold f_X3_countOf at h
  refine lv_iload_n hx hb dX3_countOf_0 rfl (lv_at hl 0 rfl) ?_
  refine lv_bipush (v := 15) hx hb dX3_countOf_1 (by decide) ?_
  refine lv_iand hx hb dX3_countOf_3 ?_
  exact h_sret cf hr hlk rfl (Option.some.inj h) dX3_countOf_4
set_option maxHeartbeats 4000000 in
set_option maxRecDepth 100000 in
theorem c_X0_countToHand (l : Launch) (dC : Nat → ClassId) (dI : Nat → Nat → Nat) (cI cZ : ClassId) (q : Nat → Nat) (S : HSt) (a1 a2 : Int32) (r : Int32) (h : f_X0_countToHand S a1 a2 = some r) : MI l yX0_countToHand hsX0_countToHand rmX0_countToHand (dC, dI) cI cZ (wC q cI) S [.ref (q 2), .int a1, .int a2] r S := by
  refine MI.ofW (cc := cX0_countToHand) (maxL := 5) (ret := (some .int)) (by decide +kernel) rfl (Nat.le_of_ble_eq_true rfl) ?_
  intro p e s m below meth c A cx hr hlk hw ls hl
  have hx := cx.1.1
  have hb := cx.1.2.1
  have hml := cx.1.2.2.1
  have hts := cx.1.2.2.2.2
  have hta : ∀ z ∈ hALL, z.before _ s = true := fun z h => hts z (List.mem_cons_of_mem _ h)
  have lk120 : (Cond.fieldLink RX0 120 (TX1 4).1 (TX1 4).2.1 (TX1 4).2.2.1).before _ s = true := hta _ wdF_X0_120
  have lk15 : (Cond.fieldLink RX0 15 (TX0 2).1 (TX0 2).2.1 (TX0 2).2.2.1).before _ s = true := hta _ wdF_X0_15
  have lk43 : (Cond.fieldLink RX0 43 (TX0 0).1 (TX0 0).2.1 (TX0 0).2.2.1).before _ s = true := hta _ wdF_X0_43
  have lk63 : (Cond.fieldLink RX0 63 (TX1 6).1 (TX1 6).2.1 (TX1 6).2.2.1).before _ s = true := hta _ wdF_X0_63
  have lk9 : (Cond.fieldLink RX0 9 (TX0 1).1 (TX0 1).2.1 (TX0 1).2.2.1).before _ s = true := hta _ wdF_X0_9
  have hiniX3 := hta _ wdN_RX3
  have hstX3_countOf := hta _ wdT_X3_countOf
  have hstX3_pair := hta _ wdT_X3_pair
  have hl : lv_has ls 5 [(0, .ref (q 2)), (1, .int a1), (2, .int a2)] := hl
  unfold f_X0_countToHand at h
  refine lv_aload_n hx hb dX0_countToHand_0 rfl (lv_at hl 0 rfl) ?_
  refine h_get (v := .ref (q 1)) cx hw 2 (wC_p2 q cI S) rfl hinX0 0 (by decide) lk43 rfl dX0_countToHand_1 ?_
  refine h_get (v := .ref (q 8)) cx hw 1 (wC_p1 q cI S) rfl hinX1 4 (by decide) lk120 rfl dX0_countToHand_4 ?_
  refine lv_iload_n hx hb dX0_countToHand_7 rfl (lv_at hl 2 rfl) ?_
  obtain ⟨v1, e2, h⟩ := h_bd_ok h
  refine h_ald cx hw 8 (wC_p8 q cI S) e2 dX0_countToHand_8 ?_
  refine lv_iload_n hx hb dX0_countToHand_9 rfl (lv_at hl 1 rfl) ?_
  refine lv_icmp_ne (tgt := 15) hx hb dX0_countToHand_10 (by decide) (fun c3 => ?_) (fun c3 => ?_)
  · have h := h_ifn c3 h
    refine lv_aload_n hx hb dX0_countToHand_15 rfl (lv_at hl 0 rfl) ?_
    refine h_get (v := .ref (q 1)) cx hw 2 (wC_p2 q cI S) rfl hinX0 0 (by decide) lk43 rfl dX0_countToHand_16 ?_
    refine h_get (v := .ref (q 10)) cx hw 1 (wC_p1 q cI S) rfl hinX1 6 (by decide) lk63 rfl dX0_countToHand_19 ?_
    refine lv_iload_n hx hb dX0_countToHand_22 rfl (lv_at hl 1 rfl) ?_
    refine lv_iload_n hx hb dX0_countToHand_23 rfl (lv_at hl 2 rfl) ?_
    obtain ⟨r4, e5, h⟩ := h_bd_ok h
    refine h_callN cx.1 (c_X3_pair l a1 a2 r4 e5) ⟨va_cnB 2 hts (hgA (hcW wdC_X3_pair)) rfl rfl rfl cx.2.2.1.2.2.1 hiniX3 pdX3_pair.2 ⟨Nat.le_of_ble_eq_true rfl, Nat.le_of_ble_eq_true rfl⟩, hstX3_pair, trivial⟩ rfl hl.1 rfl (Nat.le_of_ble_eq_true rfl) dX0_countToHand_24 ⟨Nat.zero_le _, Nat.zero_le _⟩ ?_
    obtain ⟨v6, e7, h⟩ := h_bd_ok h
    refine h_ald cx hw 10 (wC_p10 q cI S) e7 dX0_countToHand_27 ?_
    refine lv_iconst (v := (-1)) hx hb dX0_countToHand_28 (by decide) ?_
    refine lv_icmp_ne (tgt := 34) hx hb dX0_countToHand_29 (by decide) (fun c8 => ?_) (fun c8 => ?_)
    · have h := h_ifn c8 h
      refine lv_aload_n hx hb dX0_countToHand_34 rfl (lv_at hl 0 rfl) ?_
      refine lv_iload_n hx hb dX0_countToHand_35 rfl (lv_at hl 1 rfl) ?_
      refine lv_iload_n hx hb dX0_countToHand_36 rfl (lv_at hl 2 rfl) ?_
      obtain ⟨r9, e10, h⟩ := h_bd_ok h
      refine h_callI cx hw (c_X0_slipUsed l dC dI cI cZ q S a1 a2 r9 e10) (cwV 2 hts (hgA (hcV wdL_X0_123 wdI_X0_slipUsed wdS_X0_slipUsed wdN_RX0 wdC_X0_slipUsed)) rfl rfl rfl pdX0_slipUsed ⟨Nat.le_of_ble_eq_true rfl, Nat.le_of_ble_eq_true rfl⟩) 2 (wC_p2 q cI S) rfl rfl rfl hl.1 rfl (Nat.le_of_ble_eq_true rfl) dX0_countToHand_37 ⟨Nat.zero_le _, Nat.zero_le _⟩ (fun H locs hw => ?_)
      refine lv_istore_n (lv' := [(3, .int r9), (0, .ref (q 2)), (1, .int a1), (2, .int a2)]) hx hb dX0_countToHand_40 rfl hl (by decide) rfl (fun ls hl => ?_)
      refine lv_iload_n hx hb dX0_countToHand_41 rfl (lv_at hl 0 rfl) ?_
      refine lv_if_ne (tgt := 59) hx hb dX0_countToHand_42 (by decide) (fun c11 => ?_) (fun c11 => ?_)
      · have h := h_ifn c11 h
        refine lv_iload_n hx hb dX0_countToHand_59 rfl (lv_at hl 0 rfl) ?_
        obtain ⟨r12, e13, h⟩ := h_bd_ok h
        refine h_callN cx.1 (c_X3_countOf l r9 r12 e13) ⟨va_cnB 1 hts (hgA (hcW wdC_X3_countOf)) rfl rfl rfl cx.2.2.1.2.2.2.1 hiniX3 pdX3_countOf.2 ⟨Nat.le_of_ble_eq_true rfl, Nat.le_of_ble_eq_true rfl⟩, hstX3_countOf, trivial⟩ rfl hl.1 rfl (Nat.le_of_ble_eq_true rfl) dX0_countToHand_60 ⟨Nat.zero_le _, Nat.zero_le _⟩ ?_
        refine lv_iconst (v := 1) hx hb dX0_countToHand_63 (by decide) ?_
        refine lv_iadd hx hb dX0_countToHand_64 ?_
        refine lv_istore (lv' := [(4, .int (r12 + 1)), (3, .int r9), (0, .ref (q 2)), (1, .int a1), (2, .int a2)]) hx hb dX0_countToHand_65 hl (by decide) rfl (fun ls hl => ?_)
        refine lv_iload hx hb dX0_countToHand_67 (lv_at hl 0 rfl) ?_
        refine lv_aload_n hx hb dX0_countToHand_69 rfl (lv_at hl 2 rfl) ?_
        refine h_get (v := .int (S.1 2)) cx hw 2 (wC_p2 q cI S) rfl hinX0 2 (by decide) lk15 rfl dX0_countToHand_70 ?_
        refine lv_icmp_le (tgt := 80) hx hb dX0_countToHand_73 (by decide) (fun c14 => ?_) (fun c14 => ?_)
        · have h := h_ifp c14 h
          refine lv_iload hx hb dX0_countToHand_80 (lv_at hl 0 rfl) ?_
          exact h_iret cx hw hr hlk rfl (Option.some.inj h) rfl dX0_countToHand_82
        · have h := h_ifn c14 h
          refine lv_iconst (v := (-1)) hx hb dX0_countToHand_76 (by decide) ?_
          refine lv_goto (tgt := 82) hx hb dX0_countToHand_77 (by decide) ?_
          exact h_iret cx hw hr hlk rfl (Option.some.inj h) rfl dX0_countToHand_82
      · have h := h_ifp c11 h
        refine lv_aload_n hx hb dX0_countToHand_45 rfl (lv_at hl 1 rfl) ?_
        refine h_get (v := .int (S.1 1)) cx hw 2 (wC_p2 q cI S) rfl hinX0 1 (by decide) lk9 rfl dX0_countToHand_46 ?_
        refine lv_iconst (v := 1) hx hb dX0_countToHand_49 (by decide) ?_
        refine lv_icmp_ne (tgt := 57) hx hb dX0_countToHand_50 (by decide) (fun c15 => ?_) (fun c15 => ?_)
        · have h := h_ifn c15 h
          refine lv_iconst (v := 1) hx hb dX0_countToHand_57 (by decide) ?_
          exact h_iret cx hw hr hlk rfl (Option.some.inj h) rfl dX0_countToHand_58
        · have h := h_ifp c15 h
          refine lv_iconst (v := (-1)) hx hb dX0_countToHand_53 (by decide) ?_
          refine lv_goto (tgt := 58) hx hb dX0_countToHand_54 (by decide) ?_
          exact h_iret cx hw hr hlk rfl (Option.some.inj h) rfl dX0_countToHand_58
    · have h := h_ifp c8 h
      refine lv_iconst (v := (-1)) hx hb dX0_countToHand_32 (by decide) ?_
      exact h_iret cx hw hr hlk rfl (Option.some.inj h) rfl dX0_countToHand_33
  · have h := h_ifp c3 h
    refine lv_iconst (v := 0) hx hb dX0_countToHand_13 (by decide) ?_
    exact h_iret cx hw hr hlk rfl (Option.some.inj h) rfl dX0_countToHand_14
set_option maxHeartbeats 4000000 in
set_option maxRecDepth 100000 in
theorem c_X1_isUpSide (l : Launch) (dC : Nat → ClassId) (dI : Nat → Nat → Nat) (cI cZ : ClassId) (q : Nat → Nat) (S : HSt) (a1 : Int32) (r : Int32) (h : f_X1_isUpSide S a1 = some r) : MI l yX1_isUpSide hsX1_isUpSide rmX1_isUpSide (dC, dI) cI cZ (wC q cI) S [.ref (q 1), .int a1] r S := by
  refine MI.ofW (cc := cX1_isUpSide) (maxL := 2) (ret := (some .boolean)) (by decide +kernel) rfl (Nat.le_of_ble_eq_true rfl) ?_
  intro p e s m below meth c A cx hr hlk hw ls hl
  have hx := cx.1.1
  have hb := cx.1.2.1
  have hml := cx.1.2.2.1
  have hts := cx.1.2.2.2.2
  have hta : ∀ z ∈ hALL, z.before _ s = true := fun z h => hts z (List.mem_cons_of_mem _ h)
  have lk18 : (Cond.fieldLink RX1 18 (TX1 3).1 (TX1 3).2.1 (TX1 3).2.2.1).before _ s = true := hta _ wdF_X1_18
  have hl : lv_has ls 2 [(0, .ref (q 1)), (1, .int a1)] := hl
  unfold f_X1_isUpSide at h
  refine lv_aload_n hx hb dX1_isUpSide_0 rfl (lv_at hl 0 rfl) ?_
  refine h_get (v := .ref (q 7)) cx hw 1 (wC_p1 q cI S) rfl hinX1 3 (by decide) lk18 rfl dX1_isUpSide_1 ?_
  refine lv_iload_n hx hb dX1_isUpSide_4 rfl (lv_at hl 1 rfl) ?_
  refine lv_iconst (v := 1) hx hb dX1_isUpSide_5 (by decide) ?_
  refine lv_ishr hx hb dX1_isUpSide_6 ?_
  obtain ⟨v1, e2, h⟩ := h_bd_ok h
  refine h_ald cx hw 7 (wC_p7 q cI S) e2 dX1_isUpSide_7 ?_
  refine lv_iconst (v := 1) hx hb dX1_isUpSide_8 (by decide) ?_
  refine lv_icmp_ne (tgt := 16) hx hb dX1_isUpSide_9 (by decide) (fun c3 => ?_) (fun c3 => ?_)
  · have h := h_ifn c3 h
    refine lv_iconst (v := 0) hx hb dX1_isUpSide_16 (by decide) ?_
    exact h_iret cx hw hr hlk rfl (Option.some.inj h) rfl dX1_isUpSide_17
  · have h := h_ifp c3 h
    refine lv_iconst (v := 1) hx hb dX1_isUpSide_12 (by decide) ?_
    refine lv_goto (tgt := 17) hx hb dX1_isUpSide_13 (by decide) ?_
    exact h_iret cx hw hr hlk rfl (Option.some.inj h) rfl dX1_isUpSide_17
set_option maxHeartbeats 4000000 in
set_option maxRecDepth 100000 in
theorem c_X0_goesOver (l : Launch) (dC : Nat → ClassId) (dI : Nat → Nat → Nat) (cI cZ : ClassId) (q : Nat → Nat) (S : HSt) (a1 a2 : Int32) (r : Int32) (h : f_X0_goesOver S a1 a2 = some r) : MI l yX0_goesOver hsX0_goesOver rmX0_goesOver (dC, dI) cI cZ (wC q cI) S [.ref (q 2), .int a1, .int a2] r S := by
  refine MI.ofW (cc := cX0_goesOver) (maxL := 4) (ret := (some .boolean)) (by decide +kernel) rfl (Nat.le_of_ble_eq_true rfl) ?_
  intro p e s m below meth c A cx hr hlk hw ls hl
  have hx := cx.1.1
  have hb := cx.1.2.1
  have hml := cx.1.2.2.1
  have hts := cx.1.2.2.2.2
  have hta : ∀ z ∈ hALL, z.before _ s = true := fun z h => hts z (List.mem_cons_of_mem _ h)
  have lk43 : (Cond.fieldLink RX0 43 (TX0 0).1 (TX0 0).2.1 (TX0 0).2.2.1).before _ s = true := hta _ wdF_X0_43
  have lk60 : (Cond.fieldLink RX0 60 (TX1 1).1 (TX1 1).2.1 (TX1 1).2.2.1).before _ s = true := hta _ wdF_X0_60
  have lk63 : (Cond.fieldLink RX0 63 (TX1 6).1 (TX1 6).2.1 (TX1 6).2.2.1).before _ s = true := hta _ wdF_X0_63
  have hiniX3 := hta _ wdN_RX3
  have hstX3_pair := hta _ wdT_X3_pair
  have hl : lv_has ls 4 [(0, .ref (q 2)), (1, .int a1), (2, .int a2)] := hl
  unfold f_X0_goesOver at h
  have kk61 : f_X0_goesOver_61 S = some r → ∀ (H : Heap) (locs : List Loc) (ls : Array Slot), HW (dC, dI) (wC q cI) S A s H locs → lv_has ls 4 [] → W p l e rmX0_goesOver s m ([.ref (q 2), .int a1, .int a2] : List Value).toArray below meth c H locs 0 0 (MQ below (QI (dC, dI) (wC q cI) r S A) ([.ref (q 2), .int a1, .int a2] : List Value).toArray s 0 0 A) (F0 m 61 ls []) := by
    intro  h H locs ls hw hl
    unfold f_X0_goesOver_61 at h
    refine lv_iconst (v := 1) hx hb dX0_goesOver_61 (by decide) ?_
    refine lv_goto (tgt := 66) hx hb dX0_goesOver_62 (by decide) ?_
    exact h_iret cx hw hr hlk rfl (Option.some.inj h) rfl dX0_goesOver_66
  refine lv_aload_n hx hb dX0_goesOver_0 rfl (lv_at hl 0 rfl) ?_
  refine h_get (v := .ref (q 1)) cx hw 2 (wC_p2 q cI S) rfl hinX0 0 (by decide) lk43 rfl dX0_goesOver_1 ?_
  refine lv_iload_n hx hb dX0_goesOver_4 rfl (lv_at hl 1 rfl) ?_
  obtain ⟨r1, e2, h⟩ := h_bd_ok h
  refine h_callI cx hw (c_X1_isUpSide l dC dI cI cZ q S a1 r1 e2) (cwV 1 hts (hgA (hcV wdL_X0_129 wdI_X1_isUpSide wdS_X1_isUpSide wdN_RX1 wdC_X1_isUpSide)) rfl rfl rfl pdX1_isUpSide ⟨Nat.le_of_ble_eq_true rfl, Nat.le_of_ble_eq_true rfl⟩) 1 (wC_p1 q cI S) rfl rfl rfl hl.1 rfl (Nat.le_of_ble_eq_true rfl) dX0_goesOver_5 ⟨Nat.zero_le _, Nat.zero_le _⟩ (fun H locs hw => ?_)
  refine lv_if_ne (tgt := 13) hx hb dX0_goesOver_8 (by decide) (fun c3 => ?_) (fun c3 => ?_)
  · have h := h_ifn c3 h
    refine lv_aload_n hx hb dX0_goesOver_13 rfl (lv_at hl 0 rfl) ?_
    refine h_get (v := .ref (q 1)) cx hw 2 (wC_p2 q cI S) rfl hinX0 0 (by decide) lk43 rfl dX0_goesOver_14 ?_
    refine h_get (v := .ref (q 5)) cx hw 1 (wC_p1 q cI S) rfl hinX1 1 (by decide) lk60 rfl dX0_goesOver_17 ?_
    refine lv_iload_n hx hb dX0_goesOver_20 rfl (lv_at hl 1 rfl) ?_
    refine lv_iconst (v := 1) hx hb dX0_goesOver_21 (by decide) ?_
    refine lv_ixor hx hb dX0_goesOver_22 ?_
    obtain ⟨v4, e5, h⟩ := h_bd_ok h
    refine h_ald cx hw 5 (wC_p5 q cI S) e5 dX0_goesOver_23 ?_
    refine lv_istore_n (lv' := [(3, .int v4), (0, .ref (q 2)), (1, .int a1), (2, .int a2)]) hx hb dX0_goesOver_24 rfl hl (by decide) rfl (fun ls hl => ?_)
    refine lv_aload_n hx hb dX0_goesOver_25 rfl (lv_at hl 1 rfl) ?_
    refine lv_aload_n hx hb dX0_goesOver_26 rfl (lv_at hl 1 rfl) ?_
    refine h_get (v := .ref (q 1)) cx hw 2 (wC_p2 q cI S) rfl hinX0 0 (by decide) lk43 rfl dX0_goesOver_27 ?_
    refine h_get (v := .ref (q 5)) cx hw 1 (wC_p1 q cI S) rfl hinX1 1 (by decide) lk60 rfl dX0_goesOver_30 ?_
    refine lv_iload_n hx hb dX0_goesOver_33 rfl (lv_at hl 2 rfl) ?_
    obtain ⟨v6, e7, h⟩ := h_bd_ok h
    refine h_ald cx hw 5 (wC_p5 q cI S) e7 dX0_goesOver_34 ?_
    refine lv_iconst (v := 0) hx hb dX0_goesOver_35 (by decide) ?_
    obtain ⟨r8, e9, h⟩ := h_bd_ok h
    refine h_callI cx hw (c_X0_has l dC dI cI cZ q S v6 0 r8 e9) (cwV 2 hts (hgA (hcV wdL_X0_69 wdI_X0_has wdS_X0_has wdN_RX0 wdC_X0_has)) rfl rfl rfl pdX0_has ⟨Nat.le_of_ble_eq_true rfl, Nat.le_of_ble_eq_true rfl⟩) 2 (wC_p2 q cI S) rfl rfl rfl hl.1 rfl (Nat.le_of_ble_eq_true rfl) dX0_goesOver_36 ⟨Nat.zero_le _, Nat.zero_le _⟩ (fun H locs hw => ?_)
    refine lv_if_eq (tgt := 61) hx hb dX0_goesOver_39 (by decide) (fun c10 => ?_) (fun c10 => ?_)
    · have h := h_ifp c10 h
      exact kk61  h _ _ _ hw (lv_sub hl [] rfl)
    · have h := h_ifn c10 h
      refine lv_aload_n hx hb dX0_goesOver_42 rfl (lv_at hl 1 rfl) ?_
      refine h_get (v := .ref (q 1)) cx hw 2 (wC_p2 q cI S) rfl hinX0 0 (by decide) lk43 rfl dX0_goesOver_43 ?_
      refine h_get (v := .ref (q 10)) cx hw 1 (wC_p1 q cI S) rfl hinX1 6 (by decide) lk63 rfl dX0_goesOver_46 ?_
      refine lv_iload_n hx hb dX0_goesOver_49 rfl (lv_at hl 0 rfl) ?_
      refine lv_iload_n hx hb dX0_goesOver_50 rfl (lv_at hl 3 rfl) ?_
      obtain ⟨r11, e12, h⟩ := h_bd_ok h
      refine h_callN cx.1 (c_X3_pair l v4 a2 r11 e12) ⟨va_cnB 2 hts (hgA (hcW wdC_X3_pair)) rfl rfl rfl cx.2.2.1.2.2.1 hiniX3 pdX3_pair.2 ⟨Nat.le_of_ble_eq_true rfl, Nat.le_of_ble_eq_true rfl⟩, hstX3_pair, trivial⟩ rfl hl.1 rfl (Nat.le_of_ble_eq_true rfl) dX0_goesOver_51 ⟨Nat.zero_le _, Nat.zero_le _⟩ ?_
      obtain ⟨v13, e14, h⟩ := h_bd_ok h
      refine h_ald cx hw 10 (wC_p10 q cI S) e14 dX0_goesOver_54 ?_
      refine lv_iload_n hx hb dX0_goesOver_55 rfl (lv_at hl 2 rfl) ?_
      refine lv_iconst (v := 1) hx hb dX0_goesOver_56 (by decide) ?_
      refine lv_ixor hx hb dX0_goesOver_57 ?_
      refine lv_icmp_ne (tgt := 65) hx hb dX0_goesOver_58 (by decide) (fun c15 => ?_) (fun c15 => ?_)
      · have h := h_ifn c15 h
        refine lv_iconst (v := 0) hx hb dX0_goesOver_65 (by decide) ?_
        exact h_iret cx hw hr hlk rfl (Option.some.inj h) rfl dX0_goesOver_66
      · have h := h_ifp c15 h
        exact kk61  h _ _ _ hw (lv_sub hl [] rfl)
  · have h := h_ifp c3 h
    refine lv_iconst (v := 0) hx hb dX0_goesOver_11 (by decide) ?_
    exact h_iret cx hw hr hlk rfl (Option.some.inj h) rfl dX0_goesOver_12
set_option maxHeartbeats 4000000 in
set_option maxRecDepth 100000 in
theorem c_X3_slipWith (l : Launch) (a0 a1 : Int32) (r : Int32) (h : f_X3_slipWith a0 a1 = some r) : MS l yX3_slipWith hsX3_slipWith rmX3_slipWith [.int a0, .int a1] r := by
  refine MS.ofW (cc := cX3_slipWith) (maxL := 2) (ret := (some .int)) (by decide +kernel) rfl (Nat.le_of_ble_eq_true rfl) ?_
  intro p e s m below meth c cf hr hlk ls hl
  have hx := cf.1
  have hb := cf.2.1
  have hml := cf.2.2.1
  have hts := cf.2.2.2.2
  have hta : ∀ z ∈ hALL, z.before _ s = true := fun z h => hts z (List.mem_cons_of_mem _ h)
  have hl : lv_has ls 2 [(0, .int a0), (1, .int a1)] := hl
  unfold f_X3_slipWith at h
  refine lv_iload_n hx hb dX3_slipWith_0 rfl (lv_at hl 0 rfl) ?_
  refine lv_bipush (v := 16) hx hb dX3_slipWith_1 (by decide) ?_
  refine lv_imul hx hb dX3_slipWith_3 ?_
  refine lv_iload_n hx hb dX3_slipWith_4 rfl (lv_at hl 1 rfl) ?_
  refine lv_iadd hx hb dX3_slipWith_5 ?_
  exact h_sret cf hr hlk rfl (Option.some.inj h) dX3_slipWith_6
set_option maxHeartbeats 4000000 in
set_option maxRecDepth 100000 in
theorem c_X0_placeOver (l : Launch) (dC : Nat → ClassId) (dI : Nat → Nat → Nat) (cI cZ : ClassId) (q : Nat → Nat) (S : HSt) (a1 : Int32) (S9 : HSt) (h : f_X0_placeOver S a1 = some S9) : MV l yX0_placeOver hsX0_placeOver rmX0_placeOver (dC, dI) cI cZ (wC q cI) S [.ref (q 2), .int a1] S9 := by
  refine MV.ofW (cc := cX0_placeOver) (maxL := 4) (ret := none) (by decide +kernel) rfl (Nat.le_of_ble_eq_true rfl) ?_
  intro p e s m below meth c A cx hr hlk hw ls hl
  have hx := cx.1.1
  have hb := cx.1.2.1
  have hml := cx.1.2.2.1
  have hts := cx.1.2.2.2.2
  have hta : ∀ z ∈ hALL, z.before _ s = true := fun z h => hts z (List.mem_cons_of_mem _ h)
  have lk28 : (Cond.fieldLink RX0 28 (TX0 7).1 (TX0 7).2.1 (TX0 7).2.2.1).before _ s = true := hta _ wdF_X0_28
  have lk31 : (Cond.fieldLink RX0 31 (TX0 8).1 (TX0 8).2.1 (TX0 8).2.2.1).before _ s = true := hta _ wdF_X0_31
  have hiniX3 := hta _ wdN_RX3
  have hstX3_slipWith := hta _ wdT_X3_slipWith
  have hstX3_slot := hta _ wdT_X3_slot
  have hl : lv_has ls 4 [(0, .ref (q 2)), (1, .int a1)] := hl
  unfold f_X0_placeOver at h
  have kk2 : ∀ (n2 : Nat) (S : HSt) (x1 x2 : Int32), f_X0_placeOver_2 n2 S x1 x2 = some S9 → ∀ (H : Heap) (locs : List Loc) (ls : Array Slot), HW (dC, dI) (wC q cI) S A s H locs → lv_has ls 4 [(0, .ref (q 2)), (1, .int x1), (2, .int x2)] → W p l e rmX0_placeOver s m ([.ref (q 2), .int a1] : List Value).toArray below meth c H locs 0 0 (MQ below (QV (dC, dI) (wC q cI) S9 A) ([.ref (q 2), .int a1] : List Value).toArray s 0 0 A) (F0 m 2 ls []) := by
    intro n2
    induction n2 with
    | zero =>
      intro S x1 x2 h
      have h9 : (none : Option HSt) = some S9 := h
      cases h9
    | succ n2 ih2 =>
      intro S x1 x2 h H locs ls hw hl
      have h : f_X0_placeOver_2_s (f_X0_placeOver_2 n2) S x1 x2 = some S9 := h
      unfold f_X0_placeOver_2_s at h
      have kk31 : ∀ (S : HSt) (x1 x2 t0 : Int32), f_X0_placeOver_31 (f_X0_placeOver_2 n2) S x1 x2 t0 = some S9 → ∀ (H : Heap) (locs : List Loc) (ls : Array Slot), HW (dC, dI) (wC q cI) S A s H locs → lv_has ls 4 [(0, .ref (q 2)), (1, .int x1), (2, .int x2)] → W p l e rmX0_placeOver s m ([.ref (q 2), .int a1] : List Value).toArray below meth c H locs 0 0 (MQ below (QV (dC, dI) (wC q cI) S9 A) ([.ref (q 2), .int a1] : List Value).toArray s 0 0 A) (F0 m 31 ls [.int t0]) := by
        intro S x1 x2 t0 h H locs ls hw hl
        unfold f_X0_placeOver_31 at h
        have kk59 : ∀ (S : HSt) (x1 x2 t0 t1 : Int32), f_X0_placeOver_59 (f_X0_placeOver_2 n2) S x1 x2 t0 t1 = some S9 → ∀ (H : Heap) (locs : List Loc) (ls : Array Slot), HW (dC, dI) (wC q cI) S A s H locs → lv_has ls 4 [(0, .ref (q 2)), (1, .int x1), (2, .int x2)] → W p l e rmX0_placeOver s m ([.ref (q 2), .int a1] : List Value).toArray below meth c H locs 0 0 (MQ below (QV (dC, dI) (wC q cI) S9 A) ([.ref (q 2), .int a1] : List Value).toArray s 0 0 A) (F0 m 59 ls [.int t0, .int t1, .ref (q 14)]) := by
          intro S x1 x2 t0 t1 h H locs ls hw hl
          unfold f_X0_placeOver_59 at h
          obtain ⟨S1, e2, h⟩ := h_bd_ok h
          refine h_ast cx hw 14 (wC_p14 q cI S) (wC_s14 q cI S) e2 dX0_placeOver_59 (fun H locs hw => ?_)
          refine lv_iinc (v := x2 + 1) (lv' := [(2, .int (x2 + 1)), (0, .ref (q 2)), (1, .int x1)]) hx hb dX0_placeOver_60 hl (k := 2) rfl rfl (by decide) rfl (fun ls hl => ?_)
          refine lv_goto (tgt := 2) hx hb dX0_placeOver_63 (by decide) ?_
          exact ih2 _ _ _ h _ _ _ hw (lv_sub hl [1, 2, 0] rfl)
        refine lv_istore_n (lv' := [(3, .int t0), (0, .ref (q 2)), (1, .int x1), (2, .int x2)]) hx hb dX0_placeOver_31 rfl hl (by decide) rfl (fun ls hl => ?_)
        refine lv_aload_n hx hb dX0_placeOver_32 rfl (lv_at hl 1 rfl) ?_
        refine h_get (v := .ref (q 14)) cx hw 2 (wC_p2 q cI S) rfl hinX0 7 (by decide) lk28 rfl dX0_placeOver_33 ?_
        refine lv_iload_n hx hb dX0_placeOver_36 rfl (lv_at hl 2 rfl) ?_
        refine lv_iload_n hx hb dX0_placeOver_37 rfl (lv_at hl 3 rfl) ?_
        obtain ⟨r1, e2, h⟩ := h_bd_ok h
        refine h_callN cx.1 (c_X3_slot l x1 x2 r1 e2) ⟨va_cnB 2 hts (hgA (hcW wdC_X3_slot)) rfl rfl rfl cx.2.2.1.2.1 hiniX3 pdX3_slot.2 ⟨Nat.le_of_ble_eq_true rfl, Nat.le_of_ble_eq_true rfl⟩, hstX3_slot, trivial⟩ rfl hl.1 rfl (Nat.le_of_ble_eq_true rfl) dX0_placeOver_38 ⟨Nat.zero_le _, Nat.zero_le _⟩ ?_
        refine lv_iload_n hx hb dX0_placeOver_41 rfl (lv_at hl 0 rfl) ?_
        refine lv_if_eq (tgt := 58) hx hb dX0_placeOver_42 (by decide) (fun c3 => ?_) (fun c3 => ?_)
        · have h := h_ifp c3 h
          refine lv_iconst (v := 0) hx hb dX0_placeOver_58 (by decide) ?_
          exact kk59 _ _ _ _ _ h _ _ _ hw (lv_sub hl [1, 2, 3] rfl)
        · have h := h_ifn c3 h
          refine lv_iconst (v := 1) hx hb dX0_placeOver_45 (by decide) ?_
          refine lv_aload_n hx hb dX0_placeOver_46 rfl (lv_at hl 1 rfl) ?_
          refine h_get (v := .ref (q 15)) cx hw 2 (wC_p2 q cI S) rfl hinX0 8 (by decide) lk31 rfl dX0_placeOver_47 ?_
          refine lv_iload_n hx hb dX0_placeOver_50 rfl (lv_at hl 3 rfl) ?_
          obtain ⟨v4, e5, h⟩ := h_bd_ok h
          refine h_ald cx hw 15 (wC_p15 q cI S) e5 dX0_placeOver_51 ?_
          obtain ⟨r6, e7, h⟩ := h_bd_ok h
          refine h_callN cx.1 (c_X3_slipWith l 1 v4 r6 e7) ⟨va_cnB 2 hts (hgA (hcW wdC_X3_slipWith)) rfl rfl rfl cx.2.2.1.2.2.2.2.1 hiniX3 pdX3_slipWith.2 ⟨Nat.le_of_ble_eq_true rfl, Nat.le_of_ble_eq_true rfl⟩, hstX3_slipWith, trivial⟩ rfl hl.1 rfl (Nat.le_of_ble_eq_true rfl) dX0_placeOver_52 ⟨Nat.zero_le _, Nat.zero_le _⟩ ?_
          refine lv_goto (tgt := 59) hx hb dX0_placeOver_55 (by decide) ?_
          exact kk59 _ _ _ _ _ h _ _ _ hw (lv_sub hl [1, 2, 3] rfl)
      have kk30 : ∀ (S : HSt) (x1 x2 : Int32), f_X0_placeOver_30 (f_X0_placeOver_2 n2) S x1 x2 = some S9 → ∀ (H : Heap) (locs : List Loc) (ls : Array Slot), HW (dC, dI) (wC q cI) S A s H locs → lv_has ls 4 [(0, .ref (q 2)), (1, .int x1), (2, .int x2)] → W p l e rmX0_placeOver s m ([.ref (q 2), .int a1] : List Value).toArray below meth c H locs 0 0 (MQ below (QV (dC, dI) (wC q cI) S9 A) ([.ref (q 2), .int a1] : List Value).toArray s 0 0 A) (F0 m 30 ls []) := by
        intro S x1 x2 h H locs ls hw hl
        unfold f_X0_placeOver_30 at h
        refine lv_iconst (v := 0) hx hb dX0_placeOver_30 (by decide) ?_
        exact kk31 _ _ _ _ h _ _ _ hw (lv_sub hl [0, 1, 2] rfl)
      refine lv_iload_n hx hb dX0_placeOver_2 rfl (lv_at hl 2 rfl) ?_
      refine lv_iconst (v := 4) hx hb dX0_placeOver_3 (by decide) ?_
      refine lv_icmp_ge (tgt := 66) hx hb dX0_placeOver_4 (by decide) (fun c1 => ?_) (fun c1 => ?_)
      · have h := h_ifp c1 h
        exact h_vret cx hw hr hlk (Option.some.inj h) dX0_placeOver_66
      · have h := h_ifn c1 h
        refine lv_aload_n hx hb dX0_placeOver_7 rfl (lv_at hl 0 rfl) ?_
        refine h_get (v := .ref (q 15)) cx hw 2 (wC_p2 q cI S) rfl hinX0 8 (by decide) lk31 rfl dX0_placeOver_8 ?_
        refine lv_iload_n hx hb dX0_placeOver_11 rfl (lv_at hl 2 rfl) ?_
        obtain ⟨v2, e3, h⟩ := h_bd_ok h
        refine h_ald cx hw 15 (wC_p15 q cI S) e3 dX0_placeOver_12 ?_
        refine lv_iconst (v := (-1)) hx hb dX0_placeOver_13 (by decide) ?_
        refine lv_icmp_eq (tgt := 30) hx hb dX0_placeOver_14 (by decide) (fun c4 => ?_) (fun c4 => ?_)
        · have h := h_ifp c4 h
          exact kk30 _ _ _ h _ _ _ hw (lv_sub hl [0, 1, 2] rfl)
        · have h := h_ifn c4 h
          refine lv_aload_n hx hb dX0_placeOver_17 rfl (lv_at hl 0 rfl) ?_
          refine lv_iload_n hx hb dX0_placeOver_18 rfl (lv_at hl 1 rfl) ?_
          refine lv_iload_n hx hb dX0_placeOver_19 rfl (lv_at hl 2 rfl) ?_
          obtain ⟨r5, e6, h⟩ := h_bd_ok h
          refine h_callI cx hw (c_X0_goesOver l dC dI cI cZ q S x1 x2 r5 e6) (cwV 2 hts (hgA (hcV wdL_X0_114 wdI_X0_goesOver wdS_X0_goesOver wdN_RX0 wdC_X0_goesOver)) rfl rfl rfl pdX0_goesOver ⟨Nat.le_of_ble_eq_true rfl, Nat.le_of_ble_eq_true rfl⟩) 2 (wC_p2 q cI S) rfl rfl rfl hl.1 rfl (Nat.le_of_ble_eq_true rfl) dX0_placeOver_20 ⟨Nat.zero_le _, Nat.zero_le _⟩ (fun H locs hw => ?_)
          refine lv_if_eq (tgt := 30) hx hb dX0_placeOver_23 (by decide) (fun c7 => ?_) (fun c7 => ?_)
          · have h := h_ifp c7 h
            exact kk30 _ _ _ h _ _ _ hw (lv_sub hl [0, 1, 2] rfl)
          · have h := h_ifn c7 h
            refine lv_iconst (v := 1) hx hb dX0_placeOver_26 (by decide) ?_
            refine lv_goto (tgt := 31) hx hb dX0_placeOver_27 (by decide) ?_
            exact kk31 _ _ _ _ h _ _ _ hw (lv_sub hl [0, 1, 2] rfl)
  refine lv_iconst (v := 0) hx hb dX0_placeOver_0 (by decide) ?_
  refine lv_istore_n (lv' := [(2, .int 0), (0, .ref (q 2)), (1, .int a1)]) hx hb dX0_placeOver_1 rfl hl (by decide) rfl (fun ls hl => ?_)
  exact kk2 h_fu _ _ _ h _ _ _ hw (lv_sub hl [1, 2, 0] rfl)
set_option maxHeartbeats 4000000 in
set_option maxRecDepth 100000 in
theorem c_X0_placeSlips (l : Launch) (dC : Nat → ClassId) (dI : Nat → Nat → Nat) (cI cZ : ClassId) (q : Nat → Nat) (S : HSt) (a1 : Int32) (S9 : HSt) (h : f_X0_placeSlips S a1 = some S9) : MV l yX0_placeSlips hsX0_placeSlips rmX0_placeSlips (dC, dI) cI cZ (wC q cI) S [.ref (q 2), .int a1] S9 := by
  refine MV.ofW (cc := cX0_placeSlips) (maxL := 3) (ret := none) (by decide +kernel) rfl (Nat.le_of_ble_eq_true rfl) ?_
  intro p e s m below meth c A cx hr hlk hw ls hl
  have hx := cx.1.1
  have hb := cx.1.2.1
  have hml := cx.1.2.2.1
  have hts := cx.1.2.2.2.2
  have hta : ∀ z ∈ hALL, z.before _ s = true := fun z h => hts z (List.mem_cons_of_mem _ h)
  have lk31 : (Cond.fieldLink RX0 31 (TX0 8).1 (TX0 8).2.1 (TX0 8).2.2.1).before _ s = true := hta _ wdF_X0_31
  have lk43 : (Cond.fieldLink RX0 43 (TX0 0).1 (TX0 0).2.1 (TX0 0).2.2.1).before _ s = true := hta _ wdF_X0_43
  have lk51 : (Cond.fieldLink RX0 51 (TX1 0).1 (TX1 0).2.1 (TX1 0).2.2.1).before _ s = true := hta _ wdF_X0_51
  have lk60 : (Cond.fieldLink RX0 60 (TX1 1).1 (TX1 1).2.1 (TX1 1).2.2.1).before _ s = true := hta _ wdF_X0_60
  have hl : lv_has ls 3 [(0, .ref (q 2)), (1, .int a1)] := hl
  unfold f_X0_placeSlips at h
  have kk2 : ∀ (n2 : Nat) (S : HSt) (x1 x2 : Int32), f_X0_placeSlips_2 n2 S x1 x2 = some S9 → ∀ (H : Heap) (locs : List Loc) (ls : Array Slot), HW (dC, dI) (wC q cI) S A s H locs → lv_has ls 3 [(0, .ref (q 2)), (1, .int x1), (2, .int x2)] → W p l e rmX0_placeSlips s m ([.ref (q 2), .int a1] : List Value).toArray below meth c H locs 0 0 (MQ below (QV (dC, dI) (wC q cI) S9 A) ([.ref (q 2), .int a1] : List Value).toArray s 0 0 A) (F0 m 2 ls []) := by
    intro n2
    induction n2 with
    | zero =>
      intro S x1 x2 h
      have h9 : (none : Option HSt) = some S9 := h
      cases h9
    | succ n2 ih2 =>
      intro S x1 x2 h H locs ls hw hl
      have h : f_X0_placeSlips_2_s (f_X0_placeSlips_2 n2) S x1 x2 = some S9 := h
      unfold f_X0_placeSlips_2_s at h
      have kk27 : ∀ (n27 : Nat) (S : HSt) (x1 x2 : Int32), f_X0_placeSlips_27 n27 S x1 x2 = some S9 → ∀ (H : Heap) (locs : List Loc) (ls : Array Slot), HW (dC, dI) (wC q cI) S A s H locs → lv_has ls 3 [(0, .ref (q 2)), (1, .int x1), (2, .int x2)] → W p l e rmX0_placeSlips s m ([.ref (q 2), .int a1] : List Value).toArray below meth c H locs 0 0 (MQ below (QV (dC, dI) (wC q cI) S9 A) ([.ref (q 2), .int a1] : List Value).toArray s 0 0 A) (F0 m 27 ls []) := by
        intro n27
        induction n27 with
        | zero =>
          intro S x1 x2 h
          have h9 : (none : Option HSt) = some S9 := h
          cases h9
        | succ n27 ih27 =>
          intro S x1 x2 h H locs ls hw hl
          have h : f_X0_placeSlips_27_s (f_X0_placeSlips_27 n27) S x1 x2 = some S9 := h
          unfold f_X0_placeSlips_27_s at h
          have kk58 : ∀ (S : HSt) (x1 x2 : Int32), f_X0_placeSlips_58 (f_X0_placeSlips_27 n27) S x1 x2 = some S9 → ∀ (H : Heap) (locs : List Loc) (ls : Array Slot), HW (dC, dI) (wC q cI) S A s H locs → lv_has ls 3 [(0, .ref (q 2)), (1, .int x1), (2, .int x2)] → W p l e rmX0_placeSlips s m ([.ref (q 2), .int a1] : List Value).toArray below meth c H locs 0 0 (MQ below (QV (dC, dI) (wC q cI) S9 A) ([.ref (q 2), .int a1] : List Value).toArray s 0 0 A) (F0 m 58 ls []) := by
            intro S x1 x2 h H locs ls hw hl
            unfold f_X0_placeSlips_58 at h
            refine lv_iinc (v := x2 + 1) (lv' := [(2, .int (x2 + 1)), (0, .ref (q 2)), (1, .int x1)]) hx hb dX0_placeSlips_58 hl (k := 2) rfl rfl (by decide) rfl (fun ls hl => ?_)
            refine lv_goto (tgt := 27) hx hb dX0_placeSlips_61 (by decide) ?_
            exact ih27 _ _ _ h _ _ _ hw (lv_sub hl [1, 2, 0] rfl)
          refine lv_iload_n hx hb dX0_placeSlips_27 rfl (lv_at hl 2 rfl) ?_
          refine lv_iconst (v := 2) hx hb dX0_placeSlips_28 (by decide) ?_
          refine lv_aload_n hx hb dX0_placeSlips_29 rfl (lv_at hl 0 rfl) ?_
          refine h_get (v := .ref (q 1)) cx hw 2 (wC_p2 q cI S) rfl hinX0 0 (by decide) lk43 rfl dX0_placeSlips_30 ?_
          refine h_get (v := .int (S.1 0)) cx hw 1 (wC_p1 q cI S) rfl hinX1 0 (by decide) lk51 rfl dX0_placeSlips_33 ?_
          refine lv_imul hx hb dX0_placeSlips_36 ?_
          refine lv_icmp_ge (tgt := 64) hx hb dX0_placeSlips_37 (by decide) (fun c1 => ?_) (fun c1 => ?_)
          · have h := h_ifp c1 h
            exact h_vret cx hw hr hlk (Option.some.inj h) dX0_placeSlips_64
          · have h := h_ifn c1 h
            refine lv_aload_n hx hb dX0_placeSlips_40 rfl (lv_at hl 0 rfl) ?_
            refine h_get (v := .ref (q 1)) cx hw 2 (wC_p2 q cI S) rfl hinX0 0 (by decide) lk43 rfl dX0_placeSlips_41 ?_
            refine h_get (v := .ref (q 5)) cx hw 1 (wC_p1 q cI S) rfl hinX1 1 (by decide) lk60 rfl dX0_placeSlips_44 ?_
            refine lv_iload_n hx hb dX0_placeSlips_47 rfl (lv_at hl 2 rfl) ?_
            obtain ⟨v2, e3, h⟩ := h_bd_ok h
            refine h_ald cx hw 5 (wC_p5 q cI S) e3 dX0_placeSlips_48 ?_
            refine lv_iload_n hx hb dX0_placeSlips_49 rfl (lv_at hl 1 rfl) ?_
            refine lv_icmp_ne (tgt := 58) hx hb dX0_placeSlips_50 (by decide) (fun c4 => ?_) (fun c4 => ?_)
            · have h := h_ifn c4 h
              exact kk58 _ _ _ h _ _ _ hw (lv_sub hl [0, 1, 2] rfl)
            · have h := h_ifp c4 h
              refine lv_aload_n hx hb dX0_placeSlips_53 rfl (lv_at hl 0 rfl) ?_
              refine lv_iload_n hx hb dX0_placeSlips_54 rfl (lv_at hl 2 rfl) ?_
              obtain ⟨S7, e6, h⟩ := h_bd_ok h
              refine h_callV cx hw (c_X0_placeOver l dC dI cI cZ q S x2 S7 e6) (cwV 1 hts (hgA (hcV wdL_X0_111 wdI_X0_placeOver wdS_X0_placeOver wdN_RX0 wdC_X0_placeOver)) rfl rfl rfl pdX0_placeOver ⟨Nat.le_of_ble_eq_true rfl, Nat.le_of_ble_eq_true rfl⟩) 2 (wC_p2 q cI S) rfl rfl rfl hl.1 rfl (Nat.le_of_ble_eq_true rfl) dX0_placeSlips_55 ⟨Nat.zero_le _, Nat.zero_le _⟩ (fun H locs hw => ?_)
              exact kk58 _ _ _ h _ _ _ hw (lv_sub hl [0, 1, 2] rfl)
      refine lv_iload_n hx hb dX0_placeSlips_2 rfl (lv_at hl 2 rfl) ?_
      refine lv_iconst (v := 4) hx hb dX0_placeSlips_3 (by decide) ?_
      refine lv_icmp_ge (tgt := 25) hx hb dX0_placeSlips_4 (by decide) (fun c1 => ?_) (fun c1 => ?_)
      · have h := h_ifp c1 h
        refine lv_iconst (v := 0) hx hb dX0_placeSlips_25 (by decide) ?_
        refine lv_istore_n (lv' := [(2, .int 0), (0, .ref (q 2)), (1, .int x1)]) hx hb dX0_placeSlips_26 rfl hl (by decide) rfl (fun ls hl => ?_)
        exact kk27 h_fu _ _ _ h _ _ _ hw (lv_sub hl [1, 2, 0] rfl)
      · have h := h_ifn c1 h
        refine lv_aload_n hx hb dX0_placeSlips_7 rfl (lv_at hl 0 rfl) ?_
        refine h_get (v := .ref (q 15)) cx hw 2 (wC_p2 q cI S) rfl hinX0 8 (by decide) lk31 rfl dX0_placeSlips_8 ?_
        refine lv_iload_n hx hb dX0_placeSlips_11 rfl (lv_at hl 2 rfl) ?_
        refine lv_aload_n hx hb dX0_placeSlips_12 rfl (lv_at hl 0 rfl) ?_
        refine lv_iload_n hx hb dX0_placeSlips_13 rfl (lv_at hl 1 rfl) ?_
        refine lv_iload_n hx hb dX0_placeSlips_14 rfl (lv_at hl 2 rfl) ?_
        obtain ⟨r2, e3, h⟩ := h_bd_ok h
        refine h_callI cx hw (c_X0_countToHand l dC dI cI cZ q S x1 x2 r2 e3) (cwV 2 hts (hgA (hcV wdL_X0_108 wdI_X0_countToHand wdS_X0_countToHand wdN_RX0 wdC_X0_countToHand)) rfl rfl rfl pdX0_countToHand ⟨Nat.le_of_ble_eq_true rfl, Nat.le_of_ble_eq_true rfl⟩) 2 (wC_p2 q cI S) rfl rfl rfl hl.1 rfl (Nat.le_of_ble_eq_true rfl) dX0_placeSlips_15 ⟨Nat.zero_le _, Nat.zero_le _⟩ (fun H locs hw => ?_)
        obtain ⟨S4, e5, h⟩ := h_bd_ok h
        refine h_ast cx hw 15 (wC_p15 q cI S) (wC_s15 q cI S) e5 dX0_placeSlips_18 (fun H locs hw => ?_)
        refine lv_iinc (v := x2 + 1) (lv' := [(2, .int (x2 + 1)), (0, .ref (q 2)), (1, .int x1)]) hx hb dX0_placeSlips_19 hl (k := 2) rfl rfl (by decide) rfl (fun ls hl => ?_)
        refine lv_goto (tgt := 2) hx hb dX0_placeSlips_22 (by decide) ?_
        exact ih2 _ _ _ h _ _ _ hw (lv_sub hl [1, 2, 0] rfl)
  refine lv_iconst (v := 0) hx hb dX0_placeSlips_0 (by decide) ?_
  refine lv_istore_n (lv' := [(2, .int 0), (0, .ref (q 2)), (1, .int a1)]) hx hb dX0_placeSlips_1 rfl hl (by decide) rfl (fun ls hl => ?_)
  exact kk2 h_fu _ _ _ h _ _ _ hw (lv_sub hl [1, 2, 0] rfl)
set_option maxHeartbeats 4000000 in
set_option maxRecDepth 100000 in
theorem c_X0_labelAhead (l : Launch) (dC : Nat → ClassId) (dI : Nat → Nat → Nat) (cI cZ : ClassId) (q : Nat → Nat) (S : HSt) (a1 a2 a3 a4 : Int32) (r : Int32) (h : f_X0_labelAhead S a1 a2 a3 a4 = some r) : MI l yX0_labelAhead hsX0_labelAhead rmX0_labelAhead (dC, dI) cI cZ (wC q cI) S [.ref (q 2), .int a1, .int a2, .int a3, .int a4] r S := by
  refine MI.ofW (cc := cX0_labelAhead) (maxL := 9) (ret := (some .int)) (by decide +kernel) rfl (Nat.le_of_ble_eq_true rfl) ?_
  intro p e s m below meth c A cx hr hlk hw ls hl
  have hx := cx.1.1
  have hb := cx.1.2.1
  have hml := cx.1.2.2.1
  have hts := cx.1.2.2.2.2
  have hta : ∀ z ∈ hALL, z.before _ s = true := fun z h => hts z (List.mem_cons_of_mem _ h)
  have lk120 : (Cond.fieldLink RX0 120 (TX1 4).1 (TX1 4).2.1 (TX1 4).2.2.1).before _ s = true := hta _ wdF_X0_120
  have lk18 : (Cond.fieldLink RX0 18 (TX0 4).1 (TX0 4).2.1 (TX0 4).2.2.1).before _ s = true := hta _ wdF_X0_18
  have lk28 : (Cond.fieldLink RX0 28 (TX0 7).1 (TX0 7).2.1 (TX0 7).2.2.1).before _ s = true := hta _ wdF_X0_28
  have lk43 : (Cond.fieldLink RX0 43 (TX0 0).1 (TX0 0).2.1 (TX0 0).2.2.1).before _ s = true := hta _ wdF_X0_43
  have lk60 : (Cond.fieldLink RX0 60 (TX1 1).1 (TX1 1).2.1 (TX1 1).2.2.1).before _ s = true := hta _ wdF_X0_60
  have hiniX3 := hta _ wdN_RX3
  have hstX3_labelOf := hta _ wdT_X3_labelOf
  have hstX3_slot := hta _ wdT_X3_slot
  have hl : lv_has ls 9 [(0, .ref (q 2)), (1, .int a1), (2, .int a2), (3, .int a3), (4, .int a4)] := hl
  unfold f_X0_labelAhead at h
  have kk9 : ∀ (n9 : Nat) (x1 x2 x4 x5 x6 x7 : Int32), f_X0_labelAhead_9 S n9 x1 x2 x4 x5 x6 x7 = some r → ∀ (H : Heap) (locs : List Loc) (ls : Array Slot), HW (dC, dI) (wC q cI) S A s H locs → lv_has ls 9 [(0, .ref (q 2)), (1, .int x1), (2, .int x2), (4, .int x4), (5, .int x5), (6, .int x6), (7, .int x7)] → W p l e rmX0_labelAhead s m ([.ref (q 2), .int a1, .int a2, .int a3, .int a4] : List Value).toArray below meth c H locs 0 0 (MQ below (QI (dC, dI) (wC q cI) r S A) ([.ref (q 2), .int a1, .int a2, .int a3, .int a4] : List Value).toArray s 0 0 A) (F0 m 9 ls []) := by
    intro n9
    induction n9 with
    | zero =>
      intro x1 x2 x4 x5 x6 x7 h
      have h9 : (none : Option Int32) = some r := h
      cases h9
    | succ n9 ih9 =>
      intro x1 x2 x4 x5 x6 x7 h H locs ls hw hl
      have h : f_X0_labelAhead_9_s S (f_X0_labelAhead_9 S n9) x1 x2 x4 x5 x6 x7 = some r := h
      unfold f_X0_labelAhead_9_s at h
      have kk88 : ∀ (x1 x2 x4 x5 x6 x7 : Int32), f_X0_labelAhead_88 S (f_X0_labelAhead_9 S n9) x1 x2 x4 x5 x6 x7 = some r → ∀ (H : Heap) (locs : List Loc) (ls : Array Slot), HW (dC, dI) (wC q cI) S A s H locs → lv_has ls 9 [(0, .ref (q 2)), (1, .int x1), (2, .int x2), (4, .int x4), (5, .int x5), (6, .int x6), (7, .int x7)] → W p l e rmX0_labelAhead s m ([.ref (q 2), .int a1, .int a2, .int a3, .int a4] : List Value).toArray below meth c H locs 0 0 (MQ below (QI (dC, dI) (wC q cI) r S A) ([.ref (q 2), .int a1, .int a2, .int a3, .int a4] : List Value).toArray s 0 0 A) (F0 m 88 ls []) := by
        intro x1 x2 x4 x5 x6 x7 h H locs ls hw hl
        unfold f_X0_labelAhead_88 at h
        refine lv_iinc (v := x7 + 1) (lv' := [(7, .int (x7 + 1)), (0, .ref (q 2)), (1, .int x1), (2, .int x2), (4, .int x4), (5, .int x5), (6, .int x6)]) hx hb dX0_labelAhead_88 hl (k := 6) rfl rfl (by decide) rfl (fun ls hl => ?_)
        refine lv_goto (tgt := 9) hx hb dX0_labelAhead_91 (by decide) ?_
        exact ih9 _ _ _ _ _ _ h _ _ _ hw (lv_sub hl [1, 2, 3, 4, 5, 6, 0] rfl)
      have kk54 : ∀ (x1 x2 x4 x6 x7 t0 : Int32), f_X0_labelAhead_54 S (f_X0_labelAhead_9 S n9) x1 x2 x4 x6 x7 t0 = some r → ∀ (H : Heap) (locs : List Loc) (ls : Array Slot), HW (dC, dI) (wC q cI) S A s H locs → lv_has ls 9 [(0, .ref (q 2)), (1, .int x1), (2, .int x2), (4, .int x4), (6, .int x6), (7, .int x7)] → W p l e rmX0_labelAhead s m ([.ref (q 2), .int a1, .int a2, .int a3, .int a4] : List Value).toArray below meth c H locs 0 0 (MQ below (QI (dC, dI) (wC q cI) r S A) ([.ref (q 2), .int a1, .int a2, .int a3, .int a4] : List Value).toArray s 0 0 A) (F0 m 54 ls [.int t0]) := by
        intro x1 x2 x4 x6 x7 t0 h H locs ls hw hl
        unfold f_X0_labelAhead_54 at h
        have kk86 : ∀ (x1 x2 x4 x5 x7 t0 : Int32), f_X0_labelAhead_86 S (f_X0_labelAhead_9 S n9) x1 x2 x4 x5 x7 t0 = some r → ∀ (H : Heap) (locs : List Loc) (ls : Array Slot), HW (dC, dI) (wC q cI) S A s H locs → lv_has ls 9 [(0, .ref (q 2)), (1, .int x1), (2, .int x2), (4, .int x4), (5, .int x5), (7, .int x7)] → W p l e rmX0_labelAhead s m ([.ref (q 2), .int a1, .int a2, .int a3, .int a4] : List Value).toArray below meth c H locs 0 0 (MQ below (QI (dC, dI) (wC q cI) r S A) ([.ref (q 2), .int a1, .int a2, .int a3, .int a4] : List Value).toArray s 0 0 A) (F0 m 86 ls [.int t0]) := by
          intro x1 x2 x4 x5 x7 t0 h H locs ls hw hl
          unfold f_X0_labelAhead_86 at h
          refine lv_istore (lv' := [(6, .int t0), (0, .ref (q 2)), (1, .int x1), (2, .int x2), (4, .int x4), (5, .int x5), (7, .int x7)]) hx hb dX0_labelAhead_86 hl (by decide) rfl (fun ls hl => ?_)
          exact kk88 _ _ _ _ _ _ h _ _ _ hw (lv_sub hl [1, 2, 3, 4, 5, 0, 6] rfl)
        refine lv_istore (lv' := [(5, .int t0), (0, .ref (q 2)), (1, .int x1), (2, .int x2), (4, .int x4), (6, .int x6), (7, .int x7)]) hx hb dX0_labelAhead_54 hl (by decide) rfl (fun ls hl => ?_)
        refine lv_aload_n hx hb dX0_labelAhead_56 rfl (lv_at hl 1 rfl) ?_
        refine h_get (v := .ref (q 11)) cx hw 2 (wC_p2 q cI S) rfl hinX0 4 (by decide) lk18 rfl dX0_labelAhead_57 ?_
        refine lv_iload hx hb dX0_labelAhead_60 (lv_at hl 6 rfl) ?_
        refine lv_iload_n hx hb dX0_labelAhead_62 rfl (lv_at hl 3 rfl) ?_
        obtain ⟨r1, e2, h⟩ := h_bd_ok h
        refine h_callN cx.1 (c_X3_slot l x7 x2 r1 e2) ⟨va_cnB 2 hts (hgA (hcW wdC_X3_slot)) rfl rfl rfl cx.2.2.1.2.1 hiniX3 pdX3_slot.2 ⟨Nat.le_of_ble_eq_true rfl, Nat.le_of_ble_eq_true rfl⟩, hstX3_slot, trivial⟩ rfl hl.1 rfl (Nat.le_of_ble_eq_true rfl) dX0_labelAhead_63 ⟨Nat.zero_le _, Nat.zero_le _⟩ ?_
        obtain ⟨v3, e4, h⟩ := h_bd_ok h
        refine h_ald cx hw 11 (wC_p11 q cI S) e4 dX0_labelAhead_66 ?_
        obtain ⟨r5, e6, h⟩ := h_bd_ok h
        refine h_callN cx.1 (c_X3_labelOf l v3 r5 e6) ⟨va_cnB 1 hts (hgA (hcW wdC_X3_labelOf)) rfl rfl rfl cx.2.2.1.2.2.2.2.2.1 hiniX3 pdX3_labelOf.2 ⟨Nat.le_of_ble_eq_true rfl, Nat.le_of_ble_eq_true rfl⟩, hstX3_labelOf, trivial⟩ rfl hl.1 rfl (Nat.le_of_ble_eq_true rfl) dX0_labelAhead_67 ⟨Nat.zero_le _, Nat.zero_le _⟩ ?_
        refine lv_istore (lv' := [(8, .int r5), (5, .int t0), (0, .ref (q 2)), (1, .int x1), (2, .int x2), (4, .int x4), (6, .int x6), (7, .int x7)]) hx hb dX0_labelAhead_70 hl (by decide) rfl (fun ls hl => ?_)
        refine lv_iload hx hb dX0_labelAhead_72 (lv_at hl 0 rfl) ?_
        refine lv_bipush (v := 16) hx hb dX0_labelAhead_74 (by decide) ?_
        refine lv_icmp_lt (tgt := 84) hx hb dX0_labelAhead_76 (by decide) (fun c7 => ?_) (fun c7 => ?_)
        · have h := h_ifp c7 h
          refine lv_iload hx hb dX0_labelAhead_84 (lv_at hl 6 rfl) ?_
          exact kk86 _ _ _ _ _ _ h _ _ _ hw (lv_sub hl [2, 3, 4, 5, 1, 7] rfl)
        · have h := h_ifn c7 h
          refine lv_iload hx hb dX0_labelAhead_79 (lv_at hl 0 rfl) ?_
          refine lv_goto (tgt := 86) hx hb dX0_labelAhead_81 (by decide) ?_
          exact kk86 _ _ _ _ _ _ h _ _ _ hw (lv_sub hl [2, 3, 4, 5, 1, 7] rfl)
      have kk49 : ∀ (x1 x2 x4 x6 x7 : Int32), f_X0_labelAhead_49 S (f_X0_labelAhead_9 S n9) x1 x2 x4 x6 x7 = some r → ∀ (H : Heap) (locs : List Loc) (ls : Array Slot), HW (dC, dI) (wC q cI) S A s H locs → lv_has ls 9 [(0, .ref (q 2)), (1, .int x1), (2, .int x2), (4, .int x4), (6, .int x6), (7, .int x7)] → W p l e rmX0_labelAhead s m ([.ref (q 2), .int a1, .int a2, .int a3, .int a4] : List Value).toArray below meth c H locs 0 0 (MQ below (QI (dC, dI) (wC q cI) r S A) ([.ref (q 2), .int a1, .int a2, .int a3, .int a4] : List Value).toArray s 0 0 A) (F0 m 49 ls []) := by
        intro x1 x2 x4 x6 x7 h H locs ls hw hl
        unfold f_X0_labelAhead_49 at h
        refine lv_iconst (v := 1) hx hb dX0_labelAhead_49 (by decide) ?_
        refine lv_goto (tgt := 54) hx hb dX0_labelAhead_50 (by decide) ?_
        exact kk54 _ _ _ _ _ _ h _ _ _ hw (lv_sub hl [0, 1, 2, 3, 4, 5] rfl)
      refine lv_iload hx hb dX0_labelAhead_9 (lv_at hl 6 rfl) ?_
      refine lv_iload hx hb dX0_labelAhead_11 (lv_at hl 3 rfl) ?_
      refine lv_icmp_ge (tgt := 94) hx hb dX0_labelAhead_13 (by decide) (fun c1 => ?_) (fun c1 => ?_)
      · have h := h_ifp c1 h
        refine lv_iload hx hb dX0_labelAhead_94 (lv_at hl 4 rfl) ?_
        refine lv_if_ne (tgt := 101) hx hb dX0_labelAhead_96 (by decide) (fun c2 => ?_) (fun c2 => ?_)
        · have h := h_ifn c2 h
          refine lv_aload_n hx hb dX0_labelAhead_101 rfl (lv_at hl 0 rfl) ?_
          refine h_get (v := .ref (q 1)) cx hw 2 (wC_p2 q cI S) rfl hinX0 0 (by decide) lk43 rfl dX0_labelAhead_102 ?_
          refine h_get (v := .ref (q 8)) cx hw 1 (wC_p1 q cI S) rfl hinX1 4 (by decide) lk120 rfl dX0_labelAhead_105 ?_
          refine lv_iload_n hx hb dX0_labelAhead_108 rfl (lv_at hl 2 rfl) ?_
          obtain ⟨v3, e4, h⟩ := h_bd_ok h
          refine h_ald cx hw 8 (wC_p8 q cI S) e4 dX0_labelAhead_109 ?_
          refine lv_iload_n hx hb dX0_labelAhead_110 rfl (lv_at hl 1 rfl) ?_
          refine lv_icmp_ne (tgt := 127) hx hb dX0_labelAhead_111 (by decide) (fun c5 => ?_) (fun c5 => ?_)
          · have h := h_ifn c5 h
            refine lv_iload hx hb dX0_labelAhead_127 (lv_at hl 5 rfl) ?_
            exact h_iret cx hw hr hlk rfl (Option.some.inj h) rfl dX0_labelAhead_129
          · have h := h_ifp c5 h
            refine lv_aload_n hx hb dX0_labelAhead_114 rfl (lv_at hl 0 rfl) ?_
            refine lv_iload_n hx hb dX0_labelAhead_115 rfl (lv_at hl 1 rfl) ?_
            refine lv_iconst (v := 3) hx hb dX0_labelAhead_116 (by decide) ?_
            obtain ⟨r6, e7, h⟩ := h_bd_ok h
            refine h_callI cx hw (c_X0_has l dC dI cI cZ q S x1 3 r6 e7) (cwV 2 hts (hgA (hcV wdL_X0_69 wdI_X0_has wdS_X0_has wdN_RX0 wdC_X0_has)) rfl rfl rfl pdX0_has ⟨Nat.le_of_ble_eq_true rfl, Nat.le_of_ble_eq_true rfl⟩) 2 (wC_p2 q cI S) rfl rfl rfl hl.1 rfl (Nat.le_of_ble_eq_true rfl) dX0_labelAhead_117 ⟨Nat.zero_le _, Nat.zero_le _⟩ (fun H locs hw => ?_)
            refine lv_if_eq (tgt := 127) hx hb dX0_labelAhead_120 (by decide) (fun c8 => ?_) (fun c8 => ?_)
            · have h := h_ifp c8 h
              refine lv_iload hx hb dX0_labelAhead_127 (lv_at hl 5 rfl) ?_
              exact h_iret cx hw hr hlk rfl (Option.some.inj h) rfl dX0_labelAhead_129
            · have h := h_ifn c8 h
              refine lv_iconst (v := 3) hx hb dX0_labelAhead_123 (by decide) ?_
              refine lv_goto (tgt := 129) hx hb dX0_labelAhead_124 (by decide) ?_
              exact h_iret cx hw hr hlk rfl (Option.some.inj h) rfl dX0_labelAhead_129
        · have h := h_ifp c2 h
          refine lv_iconst (v := (-1)) hx hb dX0_labelAhead_99 (by decide) ?_
          exact h_iret cx hw hr hlk rfl (Option.some.inj h) rfl dX0_labelAhead_100
      · have h := h_ifn c1 h
        refine lv_aload_n hx hb dX0_labelAhead_16 rfl (lv_at hl 0 rfl) ?_
        refine h_get (v := .ref (q 1)) cx hw 2 (wC_p2 q cI S) rfl hinX0 0 (by decide) lk43 rfl dX0_labelAhead_17 ?_
        refine h_get (v := .ref (q 5)) cx hw 1 (wC_p1 q cI S) rfl hinX1 1 (by decide) lk60 rfl dX0_labelAhead_20 ?_
        refine lv_iload hx hb dX0_labelAhead_23 (lv_at hl 6 rfl) ?_
        obtain ⟨v9, e10, h⟩ := h_bd_ok h
        refine h_ald cx hw 5 (wC_p5 q cI S) e10 dX0_labelAhead_25 ?_
        refine lv_iload_n hx hb dX0_labelAhead_26 rfl (lv_at hl 1 rfl) ?_
        refine lv_icmp_ne (tgt := 88) hx hb dX0_labelAhead_27 (by decide) (fun c11 => ?_) (fun c11 => ?_)
        · have h := h_ifn c11 h
          exact kk88 _ _ _ _ _ _ h _ _ _ hw (lv_sub hl [0, 1, 2, 3, 4, 5, 6] rfl)
        · have h := h_ifp c11 h
          refine lv_iload hx hb dX0_labelAhead_30 (lv_at hl 4 rfl) ?_
          refine lv_if_ne (tgt := 49) hx hb dX0_labelAhead_32 (by decide) (fun c12 => ?_) (fun c12 => ?_)
          · have h := h_ifn c12 h
            exact kk49 _ _ _ _ _ h _ _ _ hw (lv_sub hl [0, 1, 2, 3, 5, 6] rfl)
          · have h := h_ifp c12 h
            refine lv_aload_n hx hb dX0_labelAhead_35 rfl (lv_at hl 0 rfl) ?_
            refine h_get (v := .ref (q 14)) cx hw 2 (wC_p2 q cI S) rfl hinX0 7 (by decide) lk28 rfl dX0_labelAhead_36 ?_
            refine lv_iload hx hb dX0_labelAhead_39 (lv_at hl 6 rfl) ?_
            refine lv_iload_n hx hb dX0_labelAhead_41 rfl (lv_at hl 2 rfl) ?_
            obtain ⟨r13, e14, h⟩ := h_bd_ok h
            refine h_callN cx.1 (c_X3_slot l x7 x2 r13 e14) ⟨va_cnB 2 hts (hgA (hcW wdC_X3_slot)) rfl rfl rfl cx.2.2.1.2.1 hiniX3 pdX3_slot.2 ⟨Nat.le_of_ble_eq_true rfl, Nat.le_of_ble_eq_true rfl⟩, hstX3_slot, trivial⟩ rfl hl.1 rfl (Nat.le_of_ble_eq_true rfl) dX0_labelAhead_42 ⟨Nat.zero_le _, Nat.zero_le _⟩ ?_
            obtain ⟨v15, e16, h⟩ := h_bd_ok h
            refine h_ald cx hw 14 (wC_p14 q cI S) e16 dX0_labelAhead_45 ?_
            refine lv_if_eq (tgt := 53) hx hb dX0_labelAhead_46 (by decide) (fun c17 => ?_) (fun c17 => ?_)
            · have h := h_ifp c17 h
              refine lv_iconst (v := 0) hx hb dX0_labelAhead_53 (by decide) ?_
              exact kk54 _ _ _ _ _ _ h _ _ _ hw (lv_sub hl [0, 1, 2, 3, 5, 6] rfl)
            · have h := h_ifn c17 h
              exact kk49 _ _ _ _ _ h _ _ _ hw (lv_sub hl [0, 1, 2, 3, 5, 6] rfl)
  refine lv_iconst (v := 0) hx hb dX0_labelAhead_0 (by decide) ?_
  refine lv_istore (lv' := [(5, .int 0), (0, .ref (q 2)), (1, .int a1), (2, .int a2), (3, .int a3), (4, .int a4)]) hx hb dX0_labelAhead_1 hl (by decide) rfl (fun ls hl => ?_)
  refine lv_iconst (v := 0) hx hb dX0_labelAhead_3 (by decide) ?_
  refine lv_istore (lv' := [(6, .int 0), (5, .int 0), (0, .ref (q 2)), (1, .int a1), (2, .int a2), (3, .int a3), (4, .int a4)]) hx hb dX0_labelAhead_4 hl (by decide) rfl (fun ls hl => ?_)
  refine lv_iload_n hx hb dX0_labelAhead_6 rfl (lv_at hl 5 rfl) ?_
  refine lv_istore (lv' := [(7, .int a3), (6, .int 0), (5, .int 0), (0, .ref (q 2)), (1, .int a1), (2, .int a2), (3, .int a3), (4, .int a4)]) hx hb dX0_labelAhead_7 hl (by decide) rfl (fun ls hl => ?_)
  exact kk9 h_fu _ _ _ _ _ _ h _ _ _ hw (lv_sub hl [3, 4, 5, 7, 2, 1, 0] rfl)
set_option maxHeartbeats 4000000 in
set_option maxRecDepth 100000 in
theorem c_X0_bitOf (l : Launch) (a0 : Int32) (r : Int32) (h : f_X0_bitOf a0 = some r) : MS l yX0_bitOf hsX0_bitOf rmX0_bitOf [.int a0] r := by
  refine MS.ofW (cc := cX0_bitOf) (maxL := 1) (ret := (some .int)) (by decide +kernel) rfl (Nat.le_of_ble_eq_true rfl) ?_
  intro p e s m below meth c cf hr hlk ls hl
  have hx := cf.1
  have hb := cf.2.1
  have hml := cf.2.2.1
  have hts := cf.2.2.2.2
  have hta : ∀ z ∈ hALL, z.before _ s = true := fun z h => hts z (List.mem_cons_of_mem _ h)
  have hl : lv_has ls 1 [(0, .int a0)] := hl
  unfold f_X0_bitOf at h
  refine lv_iload_n hx hb dX0_bitOf_0 rfl (lv_at hl 0 rfl) ?_
  refine lv_bipush (v := 16) hx hb dX0_bitOf_1 (by decide) ?_
  refine lv_icmp_lt (tgt := 15) hx hb dX0_bitOf_3 (by decide) (fun c1 => ?_) (fun c1 => ?_)
  · have h := h_ifp c1 h
    refine lv_iconst (v := 0) hx hb dX0_bitOf_15 (by decide) ?_
    exact h_sret cf hr hlk rfl (Option.some.inj h) dX0_bitOf_16
  · have h := h_ifn c1 h
    refine lv_iconst (v := 1) hx hb dX0_bitOf_6 (by decide) ?_
    refine lv_iload_n hx hb dX0_bitOf_7 rfl (lv_at hl 0 rfl) ?_
    refine lv_bipush (v := 16) hx hb dX0_bitOf_8 (by decide) ?_
    refine lv_isub hx hb dX0_bitOf_10 ?_
    refine lv_ishl hx hb dX0_bitOf_11 ?_
    refine lv_goto (tgt := 16) hx hb dX0_bitOf_12 (by decide) ?_
    exact h_sret cf hr hlk rfl (Option.some.inj h) dX0_bitOf_16
set_option maxHeartbeats 4000000 in
set_option maxRecDepth 100000 in
theorem c_X0_leastFree (l : Launch) (a0 : Int32) (r : Int32) (h : f_X0_leastFree a0 = some r) : MS l yX0_leastFree hsX0_leastFree rmX0_leastFree [.int a0] r := by
  refine MS.ofW (cc := cX0_leastFree) (maxL := 2) (ret := (some .int)) (by decide +kernel) rfl (Nat.le_of_ble_eq_true rfl) ?_
  intro p e s m below meth c cf hr hlk ls hl
  have hx := cf.1
  have hb := cf.2.1
  have hml := cf.2.2.1
  have hts := cf.2.2.2.2
  have hta : ∀ z ∈ hALL, z.before _ s = true := fun z h => hts z (List.mem_cons_of_mem _ h)
  have hl : lv_has ls 2 [(0, .int a0)] := hl
  unfold f_X0_leastFree at h
  have kk3 : ∀ (n3 : Nat) (x0 x1 : Int32), f_X0_leastFree_3 n3 x0 x1 = some r → ∀ (ls : Array Slot), lv_has ls 2 [(0, .int x0), (1, .int x1)] → W p l e rmX0_leastFree s m ([.int a0] : List Value).toArray below meth c s.heap [] 0 0 (MQ below (vp_Si (fun r' => r' = r)) ([.int a0] : List Value).toArray s 0 0 (fun _ => False)) (F0 m 3 ls []) := by
    intro n3
    induction n3 with
    | zero =>
      intro x0 x1 h
      have h9 : (none : Option Int32) = some r := h
      cases h9
    | succ n3 ih3 =>
      intro x0 x1 h ls hl
      have h : f_X0_leastFree_3_s (f_X0_leastFree_3 n3) x0 x1 = some r := h
      unfold f_X0_leastFree_3_s at h
      refine lv_iload_n hx hb dX0_leastFree_3 rfl (lv_at hl 1 rfl) ?_
      refine lv_bipush (v := 20) hx hb dX0_leastFree_4 (by decide) ?_
      refine lv_icmp_ge (tgt := 26) hx hb dX0_leastFree_6 (by decide) (fun c1 => ?_) (fun c1 => ?_)
      · have h := h_ifp c1 h
        refine lv_bipush (v := 20) hx hb dX0_leastFree_26 (by decide) ?_
        exact h_sret cf hr hlk rfl (Option.some.inj h) dX0_leastFree_28
      · have h := h_ifn c1 h
        refine lv_iload_n hx hb dX0_leastFree_9 rfl (lv_at hl 0 rfl) ?_
        refine lv_iload_n hx hb dX0_leastFree_10 rfl (lv_at hl 1 rfl) ?_
        obtain ⟨r2, e3, h⟩ := h_bd_ok h
        refine h_callS cf (c_X0_bitOf l x1 r2 e3) (va_cwS 1 hts (hgA (hcS wdL_X0_141 wdT_X0_bitOf wdN_RX0 wdC_X0_bitOf)) rfl rfl rfl pdX0_bitOf.2 ⟨Nat.le_of_ble_eq_true rfl, Nat.le_of_ble_eq_true rfl⟩) rfl hl.1 rfl (Nat.le_of_ble_eq_true rfl) dX0_leastFree_11 ⟨Nat.zero_le _, Nat.zero_le _⟩ ?_
        refine lv_iand hx hb dX0_leastFree_14 ?_
        refine lv_if_ne (tgt := 20) hx hb dX0_leastFree_15 (by decide) (fun c4 => ?_) (fun c4 => ?_)
        · have h := h_ifn c4 h
          refine lv_iinc (v := x1 + 1) (lv' := [(1, .int (x1 + 1)), (0, .int x0)]) hx hb dX0_leastFree_20 hl (k := 1) rfl rfl (by decide) rfl (fun ls hl => ?_)
          refine lv_goto (tgt := 3) hx hb dX0_leastFree_23 (by decide) ?_
          exact ih3 _ _ h _ (lv_sub hl [1, 0] rfl)
        · have h := h_ifp c4 h
          refine lv_iload_n hx hb dX0_leastFree_18 rfl (lv_at hl 1 rfl) ?_
          exact h_sret cf hr hlk rfl (Option.some.inj h) dX0_leastFree_19
  refine lv_bipush (v := 16) hx hb dX0_leastFree_0 (by decide) ?_
  refine lv_istore_n (lv' := [(1, .int 16), (0, .int a0)]) hx hb dX0_leastFree_2 rfl hl (by decide) rfl (fun ls hl => ?_)
  exact kk3 h_fu _ _ h _ (lv_sub hl [1, 0] rfl)
end
