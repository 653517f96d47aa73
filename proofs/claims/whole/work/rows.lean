section
-- ===== PART A: goes FIRST, ahead of the names: the tables' words, and 'selects' of the private methods out of them =====
/-- a private method of a class that the tables say can be made, by its rows of tables_1 -/
def lw_okq (q : MethodName × Nat) : Prop := (q.1.cls ≠ "java/lang/invoke/MethodHandle" ∧ q.1.cls ≠ "java/lang/invoke/VarHandle") ∧ Cond.instantiable q.1.cls q.2 ∈ tables_1 ∧ Cond.privateMethod q.1 ∈ tables_1 ∧ Cond.instanceMethod q.1 ∈ tables_1
theorem lw_p0 : lw_okq (⟨"ShopFloor$Tape", "taskEnd", "(I)I"⟩, 2) := ⟨⟨by decide +kernel, by decide +kernel⟩, List.mem_of_getElem? (i := 23) (by decide +kernel), List.mem_of_getElem? (i := 355) (by decide +kernel), List.mem_of_getElem? (i := 356) (by decide +kernel)⟩
theorem lw_p1 : lw_okq (⟨"ShopFloor$Tape", "isFigure", "(III)Z"⟩, 2) := ⟨⟨by decide +kernel, by decide +kernel⟩, List.mem_of_getElem? (i := 23) (by decide +kernel), List.mem_of_getElem? (i := 359) (by decide +kernel), List.mem_of_getElem? (i := 360) (by decide +kernel)⟩
theorem lw_p2 : lw_okq (⟨"ShopFloor$Tape", "letterAt", "(I)I"⟩, 2) := ⟨⟨by decide +kernel, by decide +kernel⟩, List.mem_of_getElem? (i := 23) (by decide +kernel), List.mem_of_getElem? (i := 363) (by decide +kernel), List.mem_of_getElem? (i := 364) (by decide +kernel)⟩
theorem lw_p3 : lw_okq (⟨"ShopFloor$Tape", "number", "(II)I"⟩, 2) := ⟨⟨by decide +kernel, by decide +kernel⟩, List.mem_of_getElem? (i := 23) (by decide +kernel), List.mem_of_getElem? (i := 370) (by decide +kernel), List.mem_of_getElem? (i := 371) (by decide +kernel)⟩
theorem lw_p4 : lw_okq (⟨"ShopFloor", "startAnew", "()V"⟩, 17) := ⟨⟨by decide +kernel, by decide +kernel⟩, List.mem_of_getElem? (i := 15) (by decide +kernel), List.mem_of_getElem? (i := 405) (by decide +kernel), List.mem_of_getElem? (i := 406) (by decide +kernel)⟩
theorem lw_p5 : lw_okq (⟨"ShopFloor", "forgetSteps", "()V"⟩, 17) := ⟨⟨by decide +kernel, by decide +kernel⟩, List.mem_of_getElem? (i := 15) (by decide +kernel), List.mem_of_getElem? (i := 414) (by decide +kernel), List.mem_of_getElem? (i := 415) (by decide +kernel)⟩
theorem lw_p6 : lw_okq (⟨"ShopFloor", "settle", "()V"⟩, 17) := ⟨⟨by decide +kernel, by decide +kernel⟩, List.mem_of_getElem? (i := 15) (by decide +kernel), List.mem_of_getElem? (i := 426) (by decide +kernel), List.mem_of_getElem? (i := 427) (by decide +kernel)⟩
theorem lw_p7 : lw_okq (⟨"ShopFloor$Times", "link", "(LShopFloor$Jobs;[I)V"⟩, 11) := ⟨⟨by decide +kernel, by decide +kernel⟩, List.mem_of_getElem? (i := 98) (by decide +kernel), List.mem_of_getElem? (i := 434) (by decide +kernel), List.mem_of_getElem? (i := 435) (by decide +kernel)⟩
theorem lw_p8 : lw_okq (⟨"ShopFloor$Times", "queueFree", "(LShopFloor$Jobs;)V"⟩, 11) := ⟨⟨by decide +kernel, by decide +kernel⟩, List.mem_of_getElem? (i := 98) (by decide +kernel), List.mem_of_getElem? (i := 438) (by decide +kernel), List.mem_of_getElem? (i := 439) (by decide +kernel)⟩
theorem lw_p9 : lw_okq (⟨"ShopFloor$Times", "release", "(II)V"⟩, 11) := ⟨⟨by decide +kernel, by decide +kernel⟩, List.mem_of_getElem? (i := 98) (by decide +kernel), List.mem_of_getElem? (i := 447) (by decide +kernel), List.mem_of_getElem? (i := 448) (by decide +kernel)⟩
theorem lw_p10 : lw_okq (⟨"ShopFloor$Times", "toCome", "(LShopFloor$Jobs;I)I"⟩, 11) := ⟨⟨by decide +kernel, by decide +kernel⟩, List.mem_of_getElem? (i := 98) (by decide +kernel), List.mem_of_getElem? (i := 455) (by decide +kernel), List.mem_of_getElem? (i := 456) (by decide +kernel)⟩
theorem lw_p11 : lw_okq (⟨"ShopFloor$Path", "walk", "(LShopFloor$Jobs;LShopFloor$Times;)V"⟩, 6) := ⟨⟨by decide +kernel, by decide +kernel⟩, List.mem_of_getElem? (i := 149) (by decide +kernel), List.mem_of_getElem? (i := 463) (by decide +kernel), List.mem_of_getElem? (i := 464) (by decide +kernel)⟩
theorem lw_p12 : lw_okq (⟨"ShopFloor$Path", "cutBlocks", "(LShopFloor$Jobs;)V"⟩, 6) := ⟨⟨by decide +kernel, by decide +kernel⟩, List.mem_of_getElem? (i := 149) (by decide +kernel), List.mem_of_getElem? (i := 478) (by decide +kernel), List.mem_of_getElem? (i := 479) (by decide +kernel)⟩
theorem lw_p13 : lw_okq (⟨"ShopFloor$Path", "findMoves", "(LShopFloor$Jobs;)V"⟩, 6) := ⟨⟨by decide +kernel, by decide +kernel⟩, List.mem_of_getElem? (i := 149) (by decide +kernel), List.mem_of_getElem? (i := 482) (by decide +kernel), List.mem_of_getElem? (i := 483) (by decide +kernel)⟩
theorem lw_p14 : lw_okq (⟨"ShopFloor$Path", "addMove", "(LShopFloor$Jobs;II)V"⟩, 6) := ⟨⟨by decide +kernel, by decide +kernel⟩, List.mem_of_getElem? (i := 149) (by decide +kernel), List.mem_of_getElem? (i := 486) (by decide +kernel), List.mem_of_getElem? (i := 487) (by decide +kernel)⟩
theorem lw_p15 : lw_okq (⟨"ShopFloor", "noTask", "(I)Z"⟩, 17) := ⟨⟨by decide +kernel, by decide +kernel⟩, List.mem_of_getElem? (i := 15) (by decide +kernel), List.mem_of_getElem? (i := 494) (by decide +kernel), List.mem_of_getElem? (i := 495) (by decide +kernel)⟩
def lw_privs_1 : List (MethodName × Nat) := [(⟨"ShopFloor$Tape", "taskEnd", "(I)I"⟩, 2), (⟨"ShopFloor$Tape", "isFigure", "(III)Z"⟩, 2), (⟨"ShopFloor$Tape", "letterAt", "(I)I"⟩, 2), (⟨"ShopFloor$Tape", "number", "(II)I"⟩, 2), (⟨"ShopFloor", "startAnew", "()V"⟩, 17), (⟨"ShopFloor", "forgetSteps", "()V"⟩, 17), (⟨"ShopFloor", "settle", "()V"⟩, 17), (⟨"ShopFloor$Times", "link", "(LShopFloor$Jobs;[I)V"⟩, 11), (⟨"ShopFloor$Times", "queueFree", "(LShopFloor$Jobs;)V"⟩, 11), (⟨"ShopFloor$Times", "release", "(II)V"⟩, 11), (⟨"ShopFloor$Times", "toCome", "(LShopFloor$Jobs;I)I"⟩, 11), (⟨"ShopFloor$Path", "walk", "(LShopFloor$Jobs;LShopFloor$Times;)V"⟩, 6), (⟨"ShopFloor$Path", "cutBlocks", "(LShopFloor$Jobs;)V"⟩, 6), (⟨"ShopFloor$Path", "findMoves", "(LShopFloor$Jobs;)V"⟩, 6), (⟨"ShopFloor$Path", "addMove", "(LShopFloor$Jobs;II)V"⟩, 6), (⟨"ShopFloor", "noTask", "(I)Z"⟩, 17)]
theorem lw_r1 : ∀ q ∈ lw_privs_1, lw_okq q := List.forall_mem_cons.mpr ⟨lw_p0, List.forall_mem_cons.mpr ⟨lw_p1, List.forall_mem_cons.mpr ⟨lw_p2, List.forall_mem_cons.mpr ⟨lw_p3, List.forall_mem_cons.mpr ⟨lw_p4, List.forall_mem_cons.mpr ⟨lw_p5, List.forall_mem_cons.mpr ⟨lw_p6, List.forall_mem_cons.mpr ⟨lw_p7, List.forall_mem_cons.mpr ⟨lw_p8, List.forall_mem_cons.mpr ⟨lw_p9, List.forall_mem_cons.mpr ⟨lw_p10, List.forall_mem_cons.mpr ⟨lw_p11, List.forall_mem_cons.mpr ⟨lw_p12, List.forall_mem_cons.mpr ⟨lw_p13, List.forall_mem_cons.mpr ⟨lw_p14, List.forall_mem_cons.mpr ⟨lw_p15, fun _ h => absurd h List.not_mem_nil⟩⟩⟩⟩⟩⟩⟩⟩⟩⟩⟩⟩⟩⟩⟩⟩
theorem lw_p16 : lw_okq (⟨"ShopFloor", "noShop", "()Z"⟩, 17) := ⟨⟨by decide +kernel, by decide +kernel⟩, List.mem_of_getElem? (i := 15) (by decide +kernel), List.mem_of_getElem? (i := 505) (by decide +kernel), List.mem_of_getElem? (i := 506) (by decide +kernel)⟩
theorem lw_p17 : lw_okq (⟨"ShopFloor", "changePlaces", "(I)V"⟩, 17) := ⟨⟨by decide +kernel, by decide +kernel⟩, List.mem_of_getElem? (i := 15) (by decide +kernel), List.mem_of_getElem? (i := 517) (by decide +kernel), List.mem_of_getElem? (i := 518) (by decide +kernel)⟩
theorem lw_p18 : lw_okq (⟨"ShopFloor", "changed", "()V"⟩, 17) := ⟨⟨by decide +kernel, by decide +kernel⟩, List.mem_of_getElem? (i := 15) (by decide +kernel), List.mem_of_getElem? (i := 521) (by decide +kernel), List.mem_of_getElem? (i := 522) (by decide +kernel)⟩
theorem lw_p19 : lw_okq (⟨"ShopFloor", "spanOrRing", "()I"⟩, 17) := ⟨⟨by decide +kernel, by decide +kernel⟩, List.mem_of_getElem? (i := 15) (by decide +kernel), List.mem_of_getElem? (i := 529) (by decide +kernel), List.mem_of_getElem? (i := 530) (by decide +kernel)⟩
theorem lw_p20 : lw_okq (⟨"ShopFloor", "refusedByState", "()I"⟩, 17) := ⟨⟨by decide +kernel, by decide +kernel⟩, List.mem_of_getElem? (i := 15) (by decide +kernel), List.mem_of_getElem? (i := 537) (by decide +kernel), List.mem_of_getElem? (i := 538) (by decide +kernel)⟩
theorem lw_p21 : lw_okq (⟨"ShopFloor$Times", "endOf", "(LShopFloor$Jobs;I)I"⟩, 11) := ⟨⟨by decide +kernel, by decide +kernel⟩, List.mem_of_getElem? (i := 98) (by decide +kernel), List.mem_of_getElem? (i := 576) (by decide +kernel), List.mem_of_getElem? (i := 577) (by decide +kernel)⟩
theorem lw_p22 : lw_okq (⟨"ShopFloor", "spanBehind", "(I)I"⟩, 17) := ⟨⟨by decide +kernel, by decide +kernel⟩, List.mem_of_getElem? (i := 15) (by decide +kernel), List.mem_of_getElem? (i := 580) (by decide +kernel), List.mem_of_getElem? (i := 581) (by decide +kernel)⟩
theorem lw_p23 : lw_okq (⟨"ShopFloor", "slotOf", "(I)I"⟩, 17) := ⟨⟨by decide +kernel, by decide +kernel⟩, List.mem_of_getElem? (i := 15) (by decide +kernel), List.mem_of_getElem? (i := 584) (by decide +kernel), List.mem_of_getElem? (i := 585) (by decide +kernel)⟩
theorem lw_p24 : lw_okq (⟨"ShopFloor", "keptSince", "(I)I"⟩, 17) := ⟨⟨by decide +kernel, by decide +kernel⟩, List.mem_of_getElem? (i := 15) (by decide +kernel), List.mem_of_getElem? (i := 588) (by decide +kernel), List.mem_of_getElem? (i := 589) (by decide +kernel)⟩
theorem lw_p25 : lw_okq (⟨"ShopFloor", "goOn", "()Z"⟩, 17) := ⟨⟨by decide +kernel, by decide +kernel⟩, List.mem_of_getElem? (i := 15) (by decide +kernel), List.mem_of_getElem? (i := 608) (by decide +kernel), List.mem_of_getElem? (i := 609) (by decide +kernel)⟩
theorem lw_p26 : lw_okq (⟨"ShopFloor", "lookForLeast", "()V"⟩, 17) := ⟨⟨by decide +kernel, by decide +kernel⟩, List.mem_of_getElem? (i := 15) (by decide +kernel), List.mem_of_getElem? (i := 612) (by decide +kernel), List.mem_of_getElem? (i := 613) (by decide +kernel)⟩
theorem lw_p27 : lw_okq (⟨"ShopFloor", "chosen", "()I"⟩, 17) := ⟨⟨by decide +kernel, by decide +kernel⟩, List.mem_of_getElem? (i := 15) (by decide +kernel), List.mem_of_getElem? (i := 617) (by decide +kernel), List.mem_of_getElem? (i := 618) (by decide +kernel)⟩
theorem lw_p28 : lw_okq (⟨"ShopFloor$Forbidden", "takeOff", "(I)V"⟩, 3) := ⟨⟨by decide +kernel, by decide +kernel⟩, List.mem_of_getElem? (i := 179) (by decide +kernel), List.mem_of_getElem? (i := 626) (by decide +kernel), List.mem_of_getElem? (i := 627) (by decide +kernel)⟩
theorem lw_p29 : lw_okq (⟨"ShopFloor$Dispatcher", "clear", "()V"⟩, 6) := ⟨⟨by decide +kernel, by decide +kernel⟩, List.mem_of_getElem? (i := 218) (by decide +kernel), List.mem_of_getElem? (i := 650) (by decide +kernel), List.mem_of_getElem? (i := 651) (by decide +kernel)⟩
theorem lw_p30 : lw_okq (⟨"ShopFloor$Dispatcher", "choose", "(LShopFloor$Jobs;I)I"⟩, 6) := ⟨⟨by decide +kernel, by decide +kernel⟩, List.mem_of_getElem? (i := 218) (by decide +kernel), List.mem_of_getElem? (i := 654) (by decide +kernel), List.mem_of_getElem? (i := 655) (by decide +kernel)⟩
theorem lw_p31 : lw_okq (⟨"ShopFloor$Dispatcher", "isNext", "(LShopFloor$Jobs;I)Z"⟩, 6) := ⟨⟨by decide +kernel, by decide +kernel⟩, List.mem_of_getElem? (i := 218) (by decide +kernel), List.mem_of_getElem? (i := 658) (by decide +kernel), List.mem_of_getElem? (i := 659) (by decide +kernel)⟩
def lw_privs_2 : List (MethodName × Nat) := [(⟨"ShopFloor", "noShop", "()Z"⟩, 17), (⟨"ShopFloor", "changePlaces", "(I)V"⟩, 17), (⟨"ShopFloor", "changed", "()V"⟩, 17), (⟨"ShopFloor", "spanOrRing", "()I"⟩, 17), (⟨"ShopFloor", "refusedByState", "()I"⟩, 17), (⟨"ShopFloor$Times", "endOf", "(LShopFloor$Jobs;I)I"⟩, 11), (⟨"ShopFloor", "spanBehind", "(I)I"⟩, 17), (⟨"ShopFloor", "slotOf", "(I)I"⟩, 17), (⟨"ShopFloor", "keptSince", "(I)I"⟩, 17), (⟨"ShopFloor", "goOn", "()Z"⟩, 17), (⟨"ShopFloor", "lookForLeast", "()V"⟩, 17), (⟨"ShopFloor", "chosen", "()I"⟩, 17), (⟨"ShopFloor$Forbidden", "takeOff", "(I)V"⟩, 3), (⟨"ShopFloor$Dispatcher", "clear", "()V"⟩, 6), (⟨"ShopFloor$Dispatcher", "choose", "(LShopFloor$Jobs;I)I"⟩, 6), (⟨"ShopFloor$Dispatcher", "isNext", "(LShopFloor$Jobs;I)Z"⟩, 6)]
theorem lw_r2 : ∀ q ∈ lw_privs_2, lw_okq q := List.forall_mem_cons.mpr ⟨lw_p16, List.forall_mem_cons.mpr ⟨lw_p17, List.forall_mem_cons.mpr ⟨lw_p18, List.forall_mem_cons.mpr ⟨lw_p19, List.forall_mem_cons.mpr ⟨lw_p20, List.forall_mem_cons.mpr ⟨lw_p21, List.forall_mem_cons.mpr ⟨lw_p22, List.forall_mem_cons.mpr ⟨lw_p23, List.forall_mem_cons.mpr ⟨lw_p24, List.forall_mem_cons.mpr ⟨lw_p25, List.forall_mem_cons.mpr ⟨lw_p26, List.forall_mem_cons.mpr ⟨lw_p27, List.forall_mem_cons.mpr ⟨lw_p28, List.forall_mem_cons.mpr ⟨lw_p29, List.forall_mem_cons.mpr ⟨lw_p30, List.forall_mem_cons.mpr ⟨lw_p31, fun _ h => absurd h List.not_mem_nil⟩⟩⟩⟩⟩⟩⟩⟩⟩⟩⟩⟩⟩⟩⟩⟩
theorem lw_p32 : lw_okq (⟨"ShopFloor$Dispatcher", "startOf", "(LShopFloor$Jobs;I)I"⟩, 6) := ⟨⟨by decide +kernel, by decide +kernel⟩, List.mem_of_getElem? (i := 218) (by decide +kernel), List.mem_of_getElem? (i := 663) (by decide +kernel), List.mem_of_getElem? (i := 664) (by decide +kernel)⟩
theorem lw_p33 : lw_okq (⟨"ShopFloor$Dispatcher", "putLast", "(LShopFloor$Jobs;I)V"⟩, 6) := ⟨⟨by decide +kernel, by decide +kernel⟩, List.mem_of_getElem? (i := 218) (by decide +kernel), List.mem_of_getElem? (i := 671) (by decide +kernel), List.mem_of_getElem? (i := 672) (by decide +kernel)⟩
theorem lw_p34 : lw_okq (⟨"ShopFloor$Alone", "leastOfAllOrders", "(LShopFloor$Jobs;I)I"⟩, 3) := ⟨⟨by decide +kernel, by decide +kernel⟩, List.mem_of_getElem? (i := 246) (by decide +kernel), List.mem_of_getElem? (i := 685) (by decide +kernel), List.mem_of_getElem? (i := 686) (by decide +kernel)⟩
theorem lw_p35 : lw_okq (⟨"ShopFloor$Alone", "over", "(LShopFloor$Jobs;I)I"⟩, 3) := ⟨⟨by decide +kernel, by decide +kernel⟩, List.mem_of_getElem? (i := 246) (by decide +kernel), List.mem_of_getElem? (i := 689) (by decide +kernel), List.mem_of_getElem? (i := 690) (by decide +kernel)⟩
theorem lw_p36 : lw_okq (⟨"ShopFloor$Alone", "workedOn", "(LShopFloor$Jobs;I)I"⟩, 3) := ⟨⟨by decide +kernel, by decide +kernel⟩, List.mem_of_getElem? (i := 246) (by decide +kernel), List.mem_of_getElem? (i := 703) (by decide +kernel), List.mem_of_getElem? (i := 704) (by decide +kernel)⟩
theorem lw_p37 : lw_okq (⟨"ShopFloor$Alone", "nextHead", "(LShopFloor$Jobs;I)I"⟩, 3) := ⟨⟨by decide +kernel, by decide +kernel⟩, List.mem_of_getElem? (i := 246) (by decide +kernel), List.mem_of_getElem? (i := 707) (by decide +kernel), List.mem_of_getElem? (i := 708) (by decide +kernel)⟩
theorem lw_p38 : lw_okq (⟨"ShopFloor$Every", "lookAtAll", "(LShopFloor$Jobs;LShopFloor$Times;I)V"⟩, 4) := ⟨⟨by decide +kernel, by decide +kernel⟩, List.mem_of_getElem? (i := 262) (by decide +kernel), List.mem_of_getElem? (i := 732) (by decide +kernel), List.mem_of_getElem? (i := 733) (by decide +kernel)⟩
theorem lw_p39 : lw_okq (⟨"ShopFloor$Every", "nextOfAll", "(LShopFloor$Jobs;)V"⟩, 4) := ⟨⟨by decide +kernel, by decide +kernel⟩, List.mem_of_getElem? (i := 262) (by decide +kernel), List.mem_of_getElem? (i := 739) (by decide +kernel), List.mem_of_getElem? (i := 740) (by decide +kernel)⟩
theorem lw_p40 : lw_okq (⟨"ShopFloor", "chartByte", "(II)I"⟩, 17) := ⟨⟨by decide +kernel, by decide +kernel⟩, List.mem_of_getElem? (i := 15) (by decide +kernel), List.mem_of_getElem? (i := 748) (by decide +kernel), List.mem_of_getElem? (i := 749) (by decide +kernel)⟩
theorem lw_p41 : lw_okq (⟨"ShopFloorModel", "readsAll", "()V"⟩, 54) := ⟨⟨by decide +kernel, by decide +kernel⟩, List.mem_of_getElem? (i := 780) (by decide +kernel), List.mem_of_getElem? (i := 960) (by decide +kernel), List.mem_of_getElem? (i := 961) (by decide +kernel)⟩
theorem lw_p42 : lw_okq (⟨"ShopFloorModel", "readsJob", "()V"⟩, 54) := ⟨⟨by decide +kernel, by decide +kernel⟩, List.mem_of_getElem? (i := 780) (by decide +kernel), List.mem_of_getElem? (i := 964) (by decide +kernel), List.mem_of_getElem? (i := 965) (by decide +kernel)⟩
theorem lw_p43 : lw_okq (⟨"ShopFloorModel", "readsTask", "(I)V"⟩, 54) := ⟨⟨by decide +kernel, by decide +kernel⟩, List.mem_of_getElem? (i := 780) (by decide +kernel), List.mem_of_getElem? (i := 968) (by decide +kernel), List.mem_of_getElem? (i := 969) (by decide +kernel)⟩
theorem lw_p44 : lw_okq (⟨"ShopFloorModel", "isFigure", "(II)Z"⟩, 54) := ⟨⟨by decide +kernel, by decide +kernel⟩, List.mem_of_getElem? (i := 780) (by decide +kernel), List.mem_of_getElem? (i := 972) (by decide +kernel), List.mem_of_getElem? (i := 973) (by decide +kernel)⟩
theorem lw_p45 : lw_okq (⟨"ShopFloorModel", "must", "(Z)V"⟩, 54) := ⟨⟨by decide +kernel, by decide +kernel⟩, List.mem_of_getElem? (i := 780) (by decide +kernel), List.mem_of_getElem? (i := 976) (by decide +kernel), List.mem_of_getElem? (i := 977) (by decide +kernel)⟩
theorem lw_p46 : lw_okq (⟨"ShopFloorModel", "is", "(I)Z"⟩, 54) := ⟨⟨by decide +kernel, by decide +kernel⟩, List.mem_of_getElem? (i := 780) (by decide +kernel), List.mem_of_getElem? (i := 980) (by decide +kernel), List.mem_of_getElem? (i := 981) (by decide +kernel)⟩
theorem lw_p47 : lw_okq (⟨"ShopFloorModel", "puts", "(I)V"⟩, 54) := ⟨⟨by decide +kernel, by decide +kernel⟩, List.mem_of_getElem? (i := 780) (by decide +kernel), List.mem_of_getElem? (i := 984) (by decide +kernel), List.mem_of_getElem? (i := 985) (by decide +kernel)⟩
def lw_privs_3 : List (MethodName × Nat) := [(⟨"ShopFloor$Dispatcher", "startOf", "(LShopFloor$Jobs;I)I"⟩, 6), (⟨"ShopFloor$Dispatcher", "putLast", "(LShopFloor$Jobs;I)V"⟩, 6), (⟨"ShopFloor$Alone", "leastOfAllOrders", "(LShopFloor$Jobs;I)I"⟩, 3), (⟨"ShopFloor$Alone", "over", "(LShopFloor$Jobs;I)I"⟩, 3), (⟨"ShopFloor$Alone", "workedOn", "(LShopFloor$Jobs;I)I"⟩, 3), (⟨"ShopFloor$Alone", "nextHead", "(LShopFloor$Jobs;I)I"⟩, 3), (⟨"ShopFloor$Every", "lookAtAll", "(LShopFloor$Jobs;LShopFloor$Times;I)V"⟩, 4), (⟨"ShopFloor$Every", "nextOfAll", "(LShopFloor$Jobs;)V"⟩, 4), (⟨"ShopFloor", "chartByte", "(II)I"⟩, 17), (⟨"ShopFloorModel", "readsAll", "()V"⟩, 54), (⟨"ShopFloorModel", "readsJob", "()V"⟩, 54), (⟨"ShopFloorModel", "readsTask", "(I)V"⟩, 54), (⟨"ShopFloorModel", "isFigure", "(II)Z"⟩, 54), (⟨"ShopFloorModel", "must", "(Z)V"⟩, 54), (⟨"ShopFloorModel", "is", "(I)Z"⟩, 54), (⟨"ShopFloorModel", "puts", "(I)V"⟩, 54)]
theorem lw_r3 : ∀ q ∈ lw_privs_3, lw_okq q := List.forall_mem_cons.mpr ⟨lw_p32, List.forall_mem_cons.mpr ⟨lw_p33, List.forall_mem_cons.mpr ⟨lw_p34, List.forall_mem_cons.mpr ⟨lw_p35, List.forall_mem_cons.mpr ⟨lw_p36, List.forall_mem_cons.mpr ⟨lw_p37, List.forall_mem_cons.mpr ⟨lw_p38, List.forall_mem_cons.mpr ⟨lw_p39, List.forall_mem_cons.mpr ⟨lw_p40, List.forall_mem_cons.mpr ⟨lw_p41, List.forall_mem_cons.mpr ⟨lw_p42, List.forall_mem_cons.mpr ⟨lw_p43, List.forall_mem_cons.mpr ⟨lw_p44, List.forall_mem_cons.mpr ⟨lw_p45, List.forall_mem_cons.mpr ⟨lw_p46, List.forall_mem_cons.mpr ⟨lw_p47, fun _ h => absurd h List.not_mem_nil⟩⟩⟩⟩⟩⟩⟩⟩⟩⟩⟩⟩⟩⟩⟩⟩
theorem lw_p48 : lw_okq (⟨"ShopFloorModel", "begins", "()V"⟩, 54) := ⟨⟨by decide +kernel, by decide +kernel⟩, List.mem_of_getElem? (i := 780) (by decide +kernel), List.mem_of_getElem? (i := 988) (by decide +kernel), List.mem_of_getElem? (i := 989) (by decide +kernel)⟩
theorem lw_p49 : lw_okq (⟨"ShopFloorModel", "lays", "()V"⟩, 54) := ⟨⟨by decide +kernel, by decide +kernel⟩, List.mem_of_getElem? (i := 780) (by decide +kernel), List.mem_of_getElem? (i := 992) (by decide +kernel), List.mem_of_getElem? (i := 993) (by decide +kernel)⟩
theorem lw_p50 : lw_okq (⟨"ShopFloorModel", "forgets", "()V"⟩, 54) := ⟨⟨by decide +kernel, by decide +kernel⟩, List.mem_of_getElem? (i := 780) (by decide +kernel), List.mem_of_getElem? (i := 996) (by decide +kernel), List.mem_of_getElem? (i := 997) (by decide +kernel)⟩
theorem lw_p51 : lw_okq (⟨"ShopFloorModel", "fetches", "()V"⟩, 54) := ⟨⟨by decide +kernel, by decide +kernel⟩, List.mem_of_getElem? (i := 780) (by decide +kernel), List.mem_of_getElem? (i := 1004) (by decide +kernel), List.mem_of_getElem? (i := 1005) (by decide +kernel)⟩
theorem lw_p52 : lw_okq (⟨"ShopFloorModel", "isTask", "(I)Z"⟩, 54) := ⟨⟨by decide +kernel, by decide +kernel⟩, List.mem_of_getElem? (i := 780) (by decide +kernel), List.mem_of_getElem? (i := 1016) (by decide +kernel), List.mem_of_getElem? (i := 1017) (by decide +kernel)⟩
theorem lw_p53 : lw_okq (⟨"ShopFloorModel", "placeOf", "(I)I"⟩, 54) := ⟨⟨by decide +kernel, by decide +kernel⟩, List.mem_of_getElem? (i := 780) (by decide +kernel), List.mem_of_getElem? (i := 1020) (by decide +kernel), List.mem_of_getElem? (i := 1021) (by decide +kernel)⟩
theorem lw_p54 : lw_okq (⟨"ShopFloorModel", "swaps", "(II)V"⟩, 54) := ⟨⟨by decide +kernel, by decide +kernel⟩, List.mem_of_getElem? (i := 780) (by decide +kernel), List.mem_of_getElem? (i := 1035) (by decide +kernel), List.mem_of_getElem? (i := 1036) (by decide +kernel)⟩
theorem lw_p55 : lw_okq (⟨"ShopFloorModel", "changed", "()V"⟩, 54) := ⟨⟨by decide +kernel, by decide +kernel⟩, List.mem_of_getElem? (i := 780) (by decide +kernel), List.mem_of_getElem? (i := 1039) (by decide +kernel), List.mem_of_getElem? (i := 1040) (by decide +kernel)⟩
theorem lw_p56 : lw_okq (⟨"ShopFloorModel", "reckons", "()Z"⟩, 54) := ⟨⟨by decide +kernel, by decide +kernel⟩, List.mem_of_getElem? (i := 780) (by decide +kernel), List.mem_of_getElem? (i := 1043) (by decide +kernel), List.mem_of_getElem? (i := 1044) (by decide +kernel)⟩
theorem lw_p57 : lw_okq (⟨"ShopFloorModel", "neighbours", "()V"⟩, 54) := ⟨⟨by decide +kernel, by decide +kernel⟩, List.mem_of_getElem? (i := 780) (by decide +kernel), List.mem_of_getElem? (i := 1047) (by decide +kernel), List.mem_of_getElem? (i := 1048) (by decide +kernel)⟩
theorem lw_p58 : lw_okq (⟨"ShopFloorModel", "nextReady", "()I"⟩, 54) := ⟨⟨by decide +kernel, by decide +kernel⟩, List.mem_of_getElem? (i := 780) (by decide +kernel), List.mem_of_getElem? (i := 1051) (by decide +kernel), List.mem_of_getElem? (i := 1052) (by decide +kernel)⟩
theorem lw_p59 : lw_okq (⟨"ShopFloorModel", "isReady", "(I)Z"⟩, 54) := ⟨⟨by decide +kernel, by decide +kernel⟩, List.mem_of_getElem? (i := 780) (by decide +kernel), List.mem_of_getElem? (i := 1055) (by decide +kernel), List.mem_of_getElem? (i := 1056) (by decide +kernel)⟩
theorem lw_p60 : lw_okq (⟨"ShopFloorModel", "jobAhead", "(I)I"⟩, 54) := ⟨⟨by decide +kernel, by decide +kernel⟩, List.mem_of_getElem? (i := 780) (by decide +kernel), List.mem_of_getElem? (i := 1059) (by decide +kernel), List.mem_of_getElem? (i := 1060) (by decide +kernel)⟩
theorem lw_p61 : lw_okq (⟨"ShopFloorModel", "endOf", "(I)I"⟩, 54) := ⟨⟨by decide +kernel, by decide +kernel⟩, List.mem_of_getElem? (i := 780) (by decide +kernel), List.mem_of_getElem? (i := 1063) (by decide +kernel), List.mem_of_getElem? (i := 1064) (by decide +kernel)⟩
theorem lw_p62 : lw_okq (⟨"ShopFloorModel", "jobBehind", "(I)I"⟩, 54) := ⟨⟨by decide +kernel, by decide +kernel⟩, List.mem_of_getElem? (i := 780) (by decide +kernel), List.mem_of_getElem? (i := 1068) (by decide +kernel), List.mem_of_getElem? (i := 1069) (by decide +kernel)⟩
theorem lw_p63 : lw_okq (⟨"ShopFloorModel", "restOf", "(I)I"⟩, 54) := ⟨⟨by decide +kernel, by decide +kernel⟩, List.mem_of_getElem? (i := 780) (by decide +kernel), List.mem_of_getElem? (i := 1072) (by decide +kernel), List.mem_of_getElem? (i := 1073) (by decide +kernel)⟩
def lw_privs_4 : List (MethodName × Nat) := [(⟨"ShopFloorModel", "begins", "()V"⟩, 54), (⟨"ShopFloorModel", "lays", "()V"⟩, 54), (⟨"ShopFloorModel", "forgets", "()V"⟩, 54), (⟨"ShopFloorModel", "fetches", "()V"⟩, 54), (⟨"ShopFloorModel", "isTask", "(I)Z"⟩, 54), (⟨"ShopFloorModel", "placeOf", "(I)I"⟩, 54), (⟨"ShopFloorModel", "swaps", "(II)V"⟩, 54), (⟨"ShopFloorModel", "changed", "()V"⟩, 54), (⟨"ShopFloorModel", "reckons", "()Z"⟩, 54), (⟨"ShopFloorModel", "neighbours", "()V"⟩, 54), (⟨"ShopFloorModel", "nextReady", "()I"⟩, 54), (⟨"ShopFloorModel", "isReady", "(I)Z"⟩, 54), (⟨"ShopFloorModel", "jobAhead", "(I)I"⟩, 54), (⟨"ShopFloorModel", "endOf", "(I)I"⟩, 54), (⟨"ShopFloorModel", "jobBehind", "(I)I"⟩, 54), (⟨"ShopFloorModel", "restOf", "(I)I"⟩, 54)]
theorem lw_r4 : ∀ q ∈ lw_privs_4, lw_okq q := List.forall_mem_cons.mpr ⟨lw_p48, List.forall_mem_cons.mpr ⟨lw_p49, List.forall_mem_cons.mpr ⟨lw_p50, List.forall_mem_cons.mpr ⟨lw_p51, List.forall_mem_cons.mpr ⟨lw_p52, List.forall_mem_cons.mpr ⟨lw_p53, List.forall_mem_cons.mpr ⟨lw_p54, List.forall_mem_cons.mpr ⟨lw_p55, List.forall_mem_cons.mpr ⟨lw_p56, List.forall_mem_cons.mpr ⟨lw_p57, List.forall_mem_cons.mpr ⟨lw_p58, List.forall_mem_cons.mpr ⟨lw_p59, List.forall_mem_cons.mpr ⟨lw_p60, List.forall_mem_cons.mpr ⟨lw_p61, List.forall_mem_cons.mpr ⟨lw_p62, List.forall_mem_cons.mpr ⟨lw_p63, fun _ h => absurd h List.not_mem_nil⟩⟩⟩⟩⟩⟩⟩⟩⟩⟩⟩⟩⟩⟩⟩⟩
theorem lw_p64 : lw_okq (⟨"ShopFloorModel", "isCritical", "(I)Z"⟩, 54) := ⟨⟨by decide +kernel, by decide +kernel⟩, List.mem_of_getElem? (i := 780) (by decide +kernel), List.mem_of_getElem? (i := 1084) (by decide +kernel), List.mem_of_getElem? (i := 1085) (by decide +kernel)⟩
theorem lw_p65 : lw_okq (⟨"ShopFloorModel", "wrong", "()I"⟩, 54) := ⟨⟨by decide +kernel, by decide +kernel⟩, List.mem_of_getElem? (i := 780) (by decide +kernel), List.mem_of_getElem? (i := 1092) (by decide +kernel), List.mem_of_getElem? (i := 1093) (by decide +kernel)⟩
theorem lw_p66 : lw_okq (⟨"ShopFloorModel", "walks", "()V"⟩, 54) := ⟨⟨by decide +kernel, by decide +kernel⟩, List.mem_of_getElem? (i := 780) (by decide +kernel), List.mem_of_getElem? (i := 1096) (by decide +kernel), List.mem_of_getElem? (i := 1097) (by decide +kernel)⟩
theorem lw_p67 : lw_okq (⟨"ShopFloorModel", "nextOnWay", "(I)I"⟩, 54) := ⟨⟨by decide +kernel, by decide +kernel⟩, List.mem_of_getElem? (i := 780) (by decide +kernel), List.mem_of_getElem? (i := 1100) (by decide +kernel), List.mem_of_getElem? (i := 1101) (by decide +kernel)⟩
theorem lw_p68 : lw_okq (⟨"ShopFloorModel", "comesBehind", "(II)Z"⟩, 54) := ⟨⟨by decide +kernel, by decide +kernel⟩, List.mem_of_getElem? (i := 780) (by decide +kernel), List.mem_of_getElem? (i := 1104) (by decide +kernel), List.mem_of_getElem? (i := 1105) (by decide +kernel)⟩
theorem lw_p69 : lw_okq (⟨"ShopFloorModel", "parts", "()V"⟩, 54) := ⟨⟨by decide +kernel, by decide +kernel⟩, List.mem_of_getElem? (i := 780) (by decide +kernel), List.mem_of_getElem? (i := 1115) (by decide +kernel), List.mem_of_getElem? (i := 1116) (by decide +kernel)⟩
theorem lw_p70 : lw_okq (⟨"ShopFloorModel", "findsMoves", "()V"⟩, 54) := ⟨⟨by decide +kernel, by decide +kernel⟩, List.mem_of_getElem? (i := 780) (by decide +kernel), List.mem_of_getElem? (i := 1123) (by decide +kernel), List.mem_of_getElem? (i := 1124) (by decide +kernel)⟩
theorem lw_p71 : lw_okq (⟨"ShopFloorModel", "comesMove", "(I)V"⟩, 54) := ⟨⟨by decide +kernel, by decide +kernel⟩, List.mem_of_getElem? (i := 780) (by decide +kernel), List.mem_of_getElem? (i := 1127) (by decide +kernel), List.mem_of_getElem? (i := 1128) (by decide +kernel)⟩
theorem lw_p72 : lw_okq (⟨"ShopFloorModel", "leastBy", "(II)I"⟩, 54) := ⟨⟨by decide +kernel, by decide +kernel⟩, List.mem_of_getElem? (i := 780) (by decide +kernel), List.mem_of_getElem? (i := 1131) (by decide +kernel), List.mem_of_getElem? (i := 1132) (by decide +kernel)⟩
theorem lw_p73 : lw_okq (⟨"ShopFloorModel", "spanBehind", "(I)I"⟩, 54) := ⟨⟨by decide +kernel, by decide +kernel⟩, List.mem_of_getElem? (i := 780) (by decide +kernel), List.mem_of_getElem? (i := 1139) (by decide +kernel), List.mem_of_getElem? (i := 1140) (by decide +kernel)⟩
theorem lw_p74 : lw_okq (⟨"ShopFloorModel", "swapsMove", "(I)V"⟩, 54) := ⟨⟨by decide +kernel, by decide +kernel⟩, List.mem_of_getElem? (i := 780) (by decide +kernel), List.mem_of_getElem? (i := 1143) (by decide +kernel), List.mem_of_getElem? (i := 1144) (by decide +kernel)⟩
theorem lw_p75 : lw_okq (⟨"ShopFloorModel", "tabuAt", "(I)I"⟩, 54) := ⟨⟨by decide +kernel, by decide +kernel⟩, List.mem_of_getElem? (i := 780) (by decide +kernel), List.mem_of_getElem? (i := 1148) (by decide +kernel), List.mem_of_getElem? (i := 1149) (by decide +kernel)⟩
theorem lw_p76 : lw_okq (⟨"ShopFloorModel", "steps", "()Z"⟩, 54) := ⟨⟨by decide +kernel, by decide +kernel⟩, List.mem_of_getElem? (i := 780) (by decide +kernel), List.mem_of_getElem? (i := 1164) (by decide +kernel), List.mem_of_getElem? (i := 1165) (by decide +kernel)⟩
theorem lw_p77 : lw_okq (⟨"ShopFloorModel", "notes", "(I)V"⟩, 54) := ⟨⟨by decide +kernel, by decide +kernel⟩, List.mem_of_getElem? (i := 780) (by decide +kernel), List.mem_of_getElem? (i := 1168) (by decide +kernel), List.mem_of_getElem? (i := 1169) (by decide +kernel)⟩
theorem lw_p78 : lw_okq (⟨"ShopFloorModel", "chosen", "()I"⟩, 54) := ⟨⟨by decide +kernel, by decide +kernel⟩, List.mem_of_getElem? (i := 780) (by decide +kernel), List.mem_of_getElem? (i := 1172) (by decide +kernel), List.mem_of_getElem? (i := 1173) (by decide +kernel)⟩
theorem lw_p79 : lw_okq (⟨"ShopFloorModel", "isLongest", "(I)Z"⟩, 54) := ⟨⟨by decide +kernel, by decide +kernel⟩, List.mem_of_getElem? (i := 780) (by decide +kernel), List.mem_of_getElem? (i := 1176) (by decide +kernel), List.mem_of_getElem? (i := 1177) (by decide +kernel)⟩
def lw_privs_5 : List (MethodName × Nat) := [(⟨"ShopFloorModel", "isCritical", "(I)Z"⟩, 54), (⟨"ShopFloorModel", "wrong", "()I"⟩, 54), (⟨"ShopFloorModel", "walks", "()V"⟩, 54), (⟨"ShopFloorModel", "nextOnWay", "(I)I"⟩, 54), (⟨"ShopFloorModel", "comesBehind", "(II)Z"⟩, 54), (⟨"ShopFloorModel", "parts", "()V"⟩, 54), (⟨"ShopFloorModel", "findsMoves", "()V"⟩, 54), (⟨"ShopFloorModel", "comesMove", "(I)V"⟩, 54), (⟨"ShopFloorModel", "leastBy", "(II)I"⟩, 54), (⟨"ShopFloorModel", "spanBehind", "(I)I"⟩, 54), (⟨"ShopFloorModel", "swapsMove", "(I)V"⟩, 54), (⟨"ShopFloorModel", "tabuAt", "(I)I"⟩, 54), (⟨"ShopFloorModel", "steps", "()Z"⟩, 54), (⟨"ShopFloorModel", "notes", "(I)V"⟩, 54), (⟨"ShopFloorModel", "chosen", "()I"⟩, 54), (⟨"ShopFloorModel", "isLongest", "(I)Z"⟩, 54)]
theorem lw_r5 : ∀ q ∈ lw_privs_5, lw_okq q := List.forall_mem_cons.mpr ⟨lw_p64, List.forall_mem_cons.mpr ⟨lw_p65, List.forall_mem_cons.mpr ⟨lw_p66, List.forall_mem_cons.mpr ⟨lw_p67, List.forall_mem_cons.mpr ⟨lw_p68, List.forall_mem_cons.mpr ⟨lw_p69, List.forall_mem_cons.mpr ⟨lw_p70, List.forall_mem_cons.mpr ⟨lw_p71, List.forall_mem_cons.mpr ⟨lw_p72, List.forall_mem_cons.mpr ⟨lw_p73, List.forall_mem_cons.mpr ⟨lw_p74, List.forall_mem_cons.mpr ⟨lw_p75, List.forall_mem_cons.mpr ⟨lw_p76, List.forall_mem_cons.mpr ⟨lw_p77, List.forall_mem_cons.mpr ⟨lw_p78, List.forall_mem_cons.mpr ⟨lw_p79, fun _ h => absurd h List.not_mem_nil⟩⟩⟩⟩⟩⟩⟩⟩⟩⟩⟩⟩⟩⟩⟩⟩
theorem lw_p80 : lw_okq (⟨"ShopFloorModel", "keepsMove", "(I)V"⟩, 54) := ⟨⟨by decide +kernel, by decide +kernel⟩, List.mem_of_getElem? (i := 780) (by decide +kernel), List.mem_of_getElem? (i := 1180) (by decide +kernel), List.mem_of_getElem? (i := 1181) (by decide +kernel)⟩
theorem lw_p81 : lw_okq (⟨"ShopFloorModel", "takesOff", "(I)V"⟩, 54) := ⟨⟨by decide +kernel, by decide +kernel⟩, List.mem_of_getElem? (i := 780) (by decide +kernel), List.mem_of_getElem? (i := 1184) (by decide +kernel), List.mem_of_getElem? (i := 1185) (by decide +kernel)⟩
theorem lw_p82 : lw_okq (⟨"ShopFloorModel", "dispatchedBy", "(I)I"⟩, 54) := ⟨⟨by decide +kernel, by decide +kernel⟩, List.mem_of_getElem? (i := 780) (by decide +kernel), List.mem_of_getElem? (i := 1200) (by decide +kernel), List.mem_of_getElem? (i := 1201) (by decide +kernel)⟩
theorem lw_p83 : lw_okq (⟨"ShopFloorModel", "firstOf", "(I)I"⟩, 54) := ⟨⟨by decide +kernel, by decide +kernel⟩, List.mem_of_getElem? (i := 780) (by decide +kernel), List.mem_of_getElem? (i := 1204) (by decide +kernel), List.mem_of_getElem? (i := 1205) (by decide +kernel)⟩
theorem lw_p84 : lw_okq (⟨"ShopFloorModel", "isOpen", "(I)Z"⟩, 54) := ⟨⟨by decide +kernel, by decide +kernel⟩, List.mem_of_getElem? (i := 780) (by decide +kernel), List.mem_of_getElem? (i := 1208) (by decide +kernel), List.mem_of_getElem? (i := 1209) (by decide +kernel)⟩
theorem lw_p85 : lw_okq (⟨"ShopFloorModel", "isBetter", "(III)Z"⟩, 54) := ⟨⟨by decide +kernel, by decide +kernel⟩, List.mem_of_getElem? (i := 780) (by decide +kernel), List.mem_of_getElem? (i := 1212) (by decide +kernel), List.mem_of_getElem? (i := 1213) (by decide +kernel)⟩
theorem lw_p86 : lw_okq (⟨"ShopFloorModel", "mayStart", "(I)I"⟩, 54) := ⟨⟨by decide +kernel, by decide +kernel⟩, List.mem_of_getElem? (i := 780) (by decide +kernel), List.mem_of_getElem? (i := 1216) (by decide +kernel), List.mem_of_getElem? (i := 1217) (by decide +kernel)⟩
theorem lw_p87 : lw_okq (⟨"ShopFloorModel", "worthOf", "(II)I"⟩, 54) := ⟨⟨by decide +kernel, by decide +kernel⟩, List.mem_of_getElem? (i := 780) (by decide +kernel), List.mem_of_getElem? (i := 1220) (by decide +kernel), List.mem_of_getElem? (i := 1221) (by decide +kernel)⟩
theorem lw_p88 : lw_okq (⟨"ShopFloorModel", "leftOf", "(I)I"⟩, 54) := ⟨⟨by decide +kernel, by decide +kernel⟩, List.mem_of_getElem? (i := 780) (by decide +kernel), List.mem_of_getElem? (i := 1224) (by decide +kernel), List.mem_of_getElem? (i := 1225) (by decide +kernel)⟩
theorem lw_p89 : lw_okq (⟨"ShopFloorModel", "alone", "(I)I"⟩, 54) := ⟨⟨by decide +kernel, by decide +kernel⟩, List.mem_of_getElem? (i := 780) (by decide +kernel), List.mem_of_getElem? (i := 1236) (by decide +kernel), List.mem_of_getElem? (i := 1237) (by decide +kernel)⟩
theorem lw_p90 : lw_okq (⟨"ShopFloorModel", "takes", "(I)V"⟩, 54) := ⟨⟨by decide +kernel, by decide +kernel⟩, List.mem_of_getElem? (i := 780) (by decide +kernel), List.mem_of_getElem? (i := 1240) (by decide +kernel), List.mem_of_getElem? (i := 1241) (by decide +kernel)⟩
theorem lw_p91 : lw_okq (⟨"ShopFloorModel", "bestOf", "(III)I"⟩, 54) := ⟨⟨by decide +kernel, by decide +kernel⟩, List.mem_of_getElem? (i := 780) (by decide +kernel), List.mem_of_getElem? (i := 1244) (by decide +kernel), List.mem_of_getElem? (i := 1245) (by decide +kernel)⟩
theorem lw_p92 : lw_okq (⟨"ShopFloorModel", "headOf", "(I)I"⟩, 54) := ⟨⟨by decide +kernel, by decide +kernel⟩, List.mem_of_getElem? (i := 780) (by decide +kernel), List.mem_of_getElem? (i := 1248) (by decide +kernel), List.mem_of_getElem? (i := 1249) (by decide +kernel)⟩
theorem lw_p93 : lw_okq (⟨"ShopFloorModel", "tailOf", "(I)I"⟩, 54) := ⟨⟨by decide +kernel, by decide +kernel⟩, List.mem_of_getElem? (i := 780) (by decide +kernel), List.mem_of_getElem? (i := 1252) (by decide +kernel), List.mem_of_getElem? (i := 1253) (by decide +kernel)⟩
theorem lw_p94 : lw_okq (⟨"ShopFloorModel", "preempted", "()I"⟩, 54) := ⟨⟨by decide +kernel, by decide +kernel⟩, List.mem_of_getElem? (i := 780) (by decide +kernel), List.mem_of_getElem? (i := 1256) (by decide +kernel), List.mem_of_getElem? (i := 1257) (by decide +kernel)⟩
theorem lw_p95 : lw_okq (⟨"ShopFloorModel", "nextAt", "(I)I"⟩, 54) := ⟨⟨by decide +kernel, by decide +kernel⟩, List.mem_of_getElem? (i := 780) (by decide +kernel), List.mem_of_getElem? (i := 1260) (by decide +kernel), List.mem_of_getElem? (i := 1261) (by decide +kernel)⟩
def lw_privs_6 : List (MethodName × Nat) := [(⟨"ShopFloorModel", "keepsMove", "(I)V"⟩, 54), (⟨"ShopFloorModel", "takesOff", "(I)V"⟩, 54), (⟨"ShopFloorModel", "dispatchedBy", "(I)I"⟩, 54), (⟨"ShopFloorModel", "firstOf", "(I)I"⟩, 54), (⟨"ShopFloorModel", "isOpen", "(I)Z"⟩, 54), (⟨"ShopFloorModel", "isBetter", "(III)Z"⟩, 54), (⟨"ShopFloorModel", "mayStart", "(I)I"⟩, 54), (⟨"ShopFloorModel", "worthOf", "(II)I"⟩, 54), (⟨"ShopFloorModel", "leftOf", "(I)I"⟩, 54), (⟨"ShopFloorModel", "alone", "(I)I"⟩, 54), (⟨"ShopFloorModel", "takes", "(I)V"⟩, 54), (⟨"ShopFloorModel", "bestOf", "(III)I"⟩, 54), (⟨"ShopFloorModel", "headOf", "(I)I"⟩, 54), (⟨"ShopFloorModel", "tailOf", "(I)I"⟩, 54), (⟨"ShopFloorModel", "preempted", "()I"⟩, 54), (⟨"ShopFloorModel", "nextAt", "(I)I"⟩, 54)]
theorem lw_r6 : ∀ q ∈ lw_privs_6, lw_okq q := List.forall_mem_cons.mpr ⟨lw_p80, List.forall_mem_cons.mpr ⟨lw_p81, List.forall_mem_cons.mpr ⟨lw_p82, List.forall_mem_cons.mpr ⟨lw_p83, List.forall_mem_cons.mpr ⟨lw_p84, List.forall_mem_cons.mpr ⟨lw_p85, List.forall_mem_cons.mpr ⟨lw_p86, List.forall_mem_cons.mpr ⟨lw_p87, List.forall_mem_cons.mpr ⟨lw_p88, List.forall_mem_cons.mpr ⟨lw_p89, List.forall_mem_cons.mpr ⟨lw_p90, List.forall_mem_cons.mpr ⟨lw_p91, List.forall_mem_cons.mpr ⟨lw_p92, List.forall_mem_cons.mpr ⟨lw_p93, List.forall_mem_cons.mpr ⟨lw_p94, List.forall_mem_cons.mpr ⟨lw_p95, fun _ h => absurd h List.not_mem_nil⟩⟩⟩⟩⟩⟩⟩⟩⟩⟩⟩⟩⟩⟩⟩⟩
theorem lw_p96 : lw_okq (⟨"ShopFloorModel", "waysAll", "()I"⟩, 54) := ⟨⟨by decide +kernel, by decide +kernel⟩, List.mem_of_getElem? (i := 780) (by decide +kernel), List.mem_of_getElem? (i := 1272) (by decide +kernel), List.mem_of_getElem? (i := 1273) (by decide +kernel)⟩
theorem lw_p97 : lw_okq (⟨"ShopFloorModel", "triesFrom", "(II)V"⟩, 54) := ⟨⟨by decide +kernel, by decide +kernel⟩, List.mem_of_getElem? (i := 780) (by decide +kernel), List.mem_of_getElem? (i := 1277) (by decide +kernel), List.mem_of_getElem? (i := 1278) (by decide +kernel)⟩
theorem lw_p98 : lw_okq (⟨"ShopFloorModel", "changesOver", "(II)V"⟩, 54) := ⟨⟨by decide +kernel, by decide +kernel⟩, List.mem_of_getElem? (i := 780) (by decide +kernel), List.mem_of_getElem? (i := 1281) (by decide +kernel), List.mem_of_getElem? (i := 1282) (by decide +kernel)⟩
theorem lw_p99 : lw_okq (⟨"ShopFloorModel", "byteAt", "(II)I"⟩, 54) := ⟨⟨by decide +kernel, by decide +kernel⟩, List.mem_of_getElem? (i := 780) (by decide +kernel), List.mem_of_getElem? (i := 1289) (by decide +kernel), List.mem_of_getElem? (i := 1290) (by decide +kernel)⟩
theorem lw_p100 : lw_okq (⟨"ShopFloorModel", "passesAll", "(Z)V"⟩, 54) := ⟨⟨by decide +kernel, by decide +kernel⟩, List.mem_of_getElem? (i := 780) (by decide +kernel), List.mem_of_getElem? (i := 1297) (by decide +kernel), List.mem_of_getElem? (i := 1298) (by decide +kernel)⟩
theorem lw_p101 : lw_okq (⟨"ShopFloorModel", "passes", "(I)I"⟩, 54) := ⟨⟨by decide +kernel, by decide +kernel⟩, List.mem_of_getElem? (i := 780) (by decide +kernel), List.mem_of_getElem? (i := 1301) (by decide +kernel), List.mem_of_getElem? (i := 1302) (by decide +kernel)⟩
theorem lw_p102 : lw_okq (⟨"ShopFloorModel", "passesRow", "([I)V"⟩, 54) := ⟨⟨by decide +kernel, by decide +kernel⟩, List.mem_of_getElem? (i := 780) (by decide +kernel), List.mem_of_getElem? (i := 1305) (by decide +kernel), List.mem_of_getElem? (i := 1306) (by decide +kernel)⟩
def lw_privs_7 : List (MethodName × Nat) := [(⟨"ShopFloorModel", "waysAll", "()I"⟩, 54), (⟨"ShopFloorModel", "triesFrom", "(II)V"⟩, 54), (⟨"ShopFloorModel", "changesOver", "(II)V"⟩, 54), (⟨"ShopFloorModel", "byteAt", "(II)I"⟩, 54), (⟨"ShopFloorModel", "passesAll", "(Z)V"⟩, 54), (⟨"ShopFloorModel", "passes", "(I)I"⟩, 54), (⟨"ShopFloorModel", "passesRow", "([I)V"⟩, 54)]
theorem lw_r7 : ∀ q ∈ lw_privs_7, lw_okq q := List.forall_mem_cons.mpr ⟨lw_p96, List.forall_mem_cons.mpr ⟨lw_p97, List.forall_mem_cons.mpr ⟨lw_p98, List.forall_mem_cons.mpr ⟨lw_p99, List.forall_mem_cons.mpr ⟨lw_p100, List.forall_mem_cons.mpr ⟨lw_p101, List.forall_mem_cons.mpr ⟨lw_p102, fun _ h => absurd h List.not_mem_nil⟩⟩⟩⟩⟩⟩⟩
def lw_privs : List (MethodName × Nat) := lw_privs_1 ++ (lw_privs_2 ++ (lw_privs_3 ++ (lw_privs_4 ++ (lw_privs_5 ++ (lw_privs_6 ++ (lw_privs_7))))))
def lw_tbl : List Cond := k2_sels lw_privs ++ tables_1
theorem lw_privs_ok : ∀ q ∈ lw_privs, lw_okq q := by
  show ∀ q ∈ lw_privs_1 ++ (lw_privs_2 ++ (lw_privs_3 ++ (lw_privs_4 ++ (lw_privs_5 ++ (lw_privs_6 ++ (lw_privs_7)))))), lw_okq q
  exact List.forall_mem_append.mpr ⟨lw_r1, List.forall_mem_append.mpr ⟨lw_r2, List.forall_mem_append.mpr ⟨lw_r3, List.forall_mem_append.mpr ⟨lw_r4, List.forall_mem_append.mpr ⟨lw_r5, List.forall_mem_append.mpr ⟨lw_r6, lw_r7⟩⟩⟩⟩⟩⟩
end
section
/-! ===== BEGIN words of one list among another's, by their places ===== -/
theorem goodIn_r {big : List Cond} (ws : List Cond) (ps : List Nat) (hp : ws = ps.filterMap (fun i => big[i]?)) (h : ws.all goodWord = true) : GoodIn big ws := by
  intro w hw
  have h1 := List.all_eq_true.mp h w hw
  rw [hp] at hw
  obtain ⟨i, -, hi⟩ := List.mem_filterMap.mp hw
  have hm : w ∈ big := by first | exact List.mem_of_getElem? hi | exact List.getElem?_mem hi
  exact ⟨hm, good_of_word h1⟩
theorem goodIn_app {big a b : List Cond} (ha : GoodIn big a) (hb : GoodIn big b) : GoodIn big (a ++ b) := fun w h => (List.mem_append.mp h).elim (ha w) (hb w)
theorem goodIn_ca {big a b : List Cond} {c : Cond} (ha : GoodIn big (c :: a)) (hb : GoodIn big b) : GoodIn big (c :: (a ++ b)) := fun w h => (List.mem_cons.mp h).elim (fun e => ha w (List.mem_cons.mpr (Or.inl e))) (fun h => (List.mem_append.mp h).elim (fun h => ha w (List.mem_cons.mpr (Or.inr h))) (hb w))
theorem goodIn_sub {big ws : List Cond} (hm : ∀ w ∈ ws, w ∈ big) (h : ws.all goodWord = true) : GoodIn big ws := fun w hw => ⟨hm w hw, good_of_word (List.all_eq_true.mp h w hw)⟩
/-! ===== END ===== -/


def RX0 : String := "ShopFloor$Alone"
def TX0 : u_T := fun k => match k with
  | 0 => ("ShopFloor$Alone", "tasks", "[I", true)
  | 1 => ("ShopFloor$Alone", "left", "[I", true)
  | _ => ("ShopFloor$Alone", "found", "[I", true)
def tyX0 : Nat → FieldType := fun k => match k with
  | 0 => .array .int
  | 1 => .array .int
  | _ => .array .int
abbrev wsX00 : List Cond := u_ws RX0 TX0 3
theorem nmX0 : ∀ a, a < 3 → ∀ b, b < 3 → a ≠ b → (TX0 a).2.1 ≠ (TX0 b).2.1 := by decide +kernel
theorem tyX0_ok : ∀ k, k < 3 → parseFieldDescriptor (TX0 k).2.2.1 = some (tyX0 k) := by decide +kernel
abbrev cX0_init : ByteArray := prog_2_method_1_code
def yX0_init : MethodName := ⟨RX0, "<init>", "()V"⟩
abbrev cX0_forget : ByteArray := prog_2_method_2_code
def yX0_forget : MethodName := ⟨RX0, "forget", "()V"⟩
abbrev cX0_atBest : ByteArray := prog_2_method_3_code
def yX0_atBest : MethodName := ⟨RX0, "atBest", "(LShopFloor$Jobs;I)I"⟩
abbrev cX0_leastOfAllOrders : ByteArray := prog_2_method_4_code
def yX0_leastOfAllOrders : MethodName := ⟨RX0, "leastOfAllOrders", "(LShopFloor$Jobs;I)I"⟩
abbrev cX0_over : ByteArray := prog_2_method_5_code
def yX0_over : MethodName := ⟨RX0, "over", "(LShopFloor$Jobs;I)I"⟩
abbrev cX0_preempted : ByteArray := prog_2_method_6_code
def yX0_preempted : MethodName := ⟨RX0, "preempted", "(LShopFloor$Jobs;I)I"⟩
abbrev cX0_workedOn : ByteArray := prog_2_method_7_code
def yX0_workedOn : MethodName := ⟨RX0, "workedOn", "(LShopFloor$Jobs;I)I"⟩
abbrev cX0_nextHead : ByteArray := prog_2_method_8_code
def yX0_nextHead : MethodName := ⟨RX0, "nextHead", "(LShopFloor$Jobs;I)I"⟩
def RX1 : String := "ShopFloor$Dispatcher"
def TX1 : u_T := fun k => match k with
  | 0 => ("ShopFloor$Dispatcher", "row", "[I", true)
  | 1 => ("ShopFloor$Dispatcher", "put", "[I", true)
  | 2 => ("ShopFloor$Dispatcher", "machineFree", "[I", true)
  | 3 => ("ShopFloor$Dispatcher", "jobFree", "[I", true)
  | 4 => ("ShopFloor$Dispatcher", "isPut", "[Z", true)
  | _ => ("ShopFloor$Dispatcher", "span", "I", false)
def tyX1 : Nat → FieldType := fun k => match k with
  | 0 => .array .int
  | 1 => .array .int
  | 2 => .array .int
  | 3 => .array .int
  | 4 => .array .boolean
  | _ => .int
abbrev wsX10 : List Cond := u_ws RX1 TX1 6
theorem nmX1 : ∀ a, a < 6 → ∀ b, b < 6 → a ≠ b → (TX1 a).2.1 ≠ (TX1 b).2.1 := by decide +kernel
theorem tyX1_ok : ∀ k, k < 6 → parseFieldDescriptor (TX1 k).2.2.1 = some (tyX1 k) := by decide +kernel
abbrev cX1_init : ByteArray := prog_3_method_1_code
def yX1_init : MethodName := ⟨RX1, "<init>", "()V"⟩
abbrev cX1_lay : ByteArray := prog_3_method_2_code
def yX1_lay : MethodName := ⟨RX1, "lay", "(LShopFloor$Jobs;I)V"⟩
abbrev cX1_clear : ByteArray := prog_3_method_3_code
def yX1_clear : MethodName := ⟨RX1, "clear", "()V"⟩
abbrev cX1_choose : ByteArray := prog_3_method_4_code
def yX1_choose : MethodName := ⟨RX1, "choose", "(LShopFloor$Jobs;I)I"⟩
abbrev cX1_isNext : ByteArray := prog_3_method_5_code
def yX1_isNext : MethodName := ⟨RX1, "isNext", "(LShopFloor$Jobs;I)Z"⟩
abbrev cX1_startOf : ByteArray := prog_3_method_6_code
def yX1_startOf : MethodName := ⟨RX1, "startOf", "(LShopFloor$Jobs;I)I"⟩
abbrev cX1_key : ByteArray := prog_3_method_7_code
def yX1_key : MethodName := ⟨RX1, "key", "(LShopFloor$Jobs;II)I"⟩
abbrev cX1_putLast : ByteArray := prog_3_method_8_code
def yX1_putLast : MethodName := ⟨RX1, "putLast", "(LShopFloor$Jobs;I)V"⟩
def RX2 : String := "ShopFloor$Every"
def TX2 : u_T := fun k => match k with
  | 0 => ("ShopFloor$Every", "row", "[I", true)
  | 1 => ("ShopFloor$Every", "known", "Z", false)
  | 2 => ("ShopFloor$Every", "whole", "I", false)
  | _ => ("ShopFloor$Every", "least", "I", false)
def tyX2 : Nat → FieldType := fun k => match k with
  | 0 => .array .int
  | 1 => .boolean
  | 2 => .int
  | _ => .int
abbrev wsX20 : List Cond := u_ws RX2 TX2 4
theorem nmX2 : ∀ a, a < 4 → ∀ b, b < 4 → a ≠ b → (TX2 a).2.1 ≠ (TX2 b).2.1 := by decide +kernel
theorem tyX2_ok : ∀ k, k < 4 → parseFieldDescriptor (TX2 k).2.2.1 = some (tyX2 k) := by decide +kernel
abbrev cX2_init : ByteArray := prog_4_method_1_code
def yX2_init : MethodName := ⟨RX2, "<init>", "()V"⟩
abbrev cX2_forget : ByteArray := prog_4_method_2_code
def yX2_forget : MethodName := ⟨RX2, "forget", "()V"⟩
abbrev cX2_look : ByteArray := prog_4_method_3_code
def yX2_look : MethodName := ⟨RX2, "look", "(LShopFloor$Jobs;LShopFloor$Times;)Z"⟩
abbrev cX2_waysOf : ByteArray := prog_4_method_4_code
def yX2_waysOf : MethodName := ⟨RX2, "waysOf", "(LShopFloor$Jobs;)I"⟩
abbrev cX2_lookAtAll : ByteArray := prog_4_method_5_code
def yX2_lookAtAll : MethodName := ⟨RX2, "lookAtAll", "(LShopFloor$Jobs;LShopFloor$Times;I)V"⟩
abbrev cX2_nextOfAll : ByteArray := prog_4_method_6_code
def yX2_nextOfAll : MethodName := ⟨RX2, "nextOfAll", "(LShopFloor$Jobs;)V"⟩
def RX3 : String := "ShopFloor$Forbidden"
def TX3 : u_T := fun k => match k with
  | 0 => ("ShopFloor$Forbidden", "pairs", "[I", true)
  | 1 => ("ShopFloor$Forbidden", "count", "I", false)
  | _ => ("ShopFloor$Forbidden", "most", "I", false)
def tyX3 : Nat → FieldType := fun k => match k with
  | 0 => .array .int
  | 1 => .int
  | _ => .int
abbrev wsX30 : List Cond := u_ws RX3 TX3 3
theorem nmX3 : ∀ a, a < 3 → ∀ b, b < 3 → a ≠ b → (TX3 a).2.1 ≠ (TX3 b).2.1 := by decide +kernel
theorem tyX3_ok : ∀ k, k < 3 → parseFieldDescriptor (TX3 k).2.2.1 = some (tyX3 k) := by decide +kernel
abbrev cX3_init : ByteArray := prog_5_method_1_code
def yX3_init : MethodName := ⟨RX3, "<init>", "()V"⟩
abbrev cX3_find : ByteArray := prog_5_method_2_code
def yX3_find : MethodName := ⟨RX3, "find", "(I)I"⟩
abbrev cX3_keep : ByteArray := prog_5_method_3_code
def yX3_keep : MethodName := ⟨RX3, "keep", "(I)V"⟩
abbrev cX3_takeOff : ByteArray := prog_5_method_4_code
def yX3_takeOff : MethodName := ⟨RX3, "takeOff", "(I)V"⟩
def RX4 : String := "ShopFloor$History"
def TX4 : u_T := fun k => match k with
  | 0 => ("ShopFloor$History", "rows", "[[I", true)
  | 1 => ("ShopFloor$History", "now", "I", false)
  | _ => ("ShopFloor$History", "last", "I", false)
def tyX4 : Nat → FieldType := fun k => match k with
  | 0 => .array (.array .int)
  | 1 => .int
  | _ => .int
abbrev wsX40 : List Cond := u_ws RX4 TX4 3
theorem nmX4 : ∀ a, a < 3 → ∀ b, b < 3 → a ≠ b → (TX4 a).2.1 ≠ (TX4 b).2.1 := by decide +kernel
theorem tyX4_ok : ∀ k, k < 3 → parseFieldDescriptor (TX4 k).2.2.1 = some (tyX4 k) := by decide +kernel
abbrev cX4_init : ByteArray := prog_6_method_1_code
def yX4_init : MethodName := ⟨RX4, "<init>", "()V"⟩
abbrev cX4_begin : ByteArray := prog_6_method_2_code
def yX4_begin : MethodName := ⟨RX4, "begin", "([I)V"⟩
abbrev cX4_note : ByteArray := prog_6_method_3_code
def yX4_note : MethodName := ⟨RX4, "note", "([I)V"⟩
abbrev cX4_goBack : ByteArray := prog_6_method_4_code
def yX4_goBack : MethodName := ⟨RX4, "goBack", "([I)Z"⟩
abbrev cX4_goAhead : ByteArray := prog_6_method_5_code
def yX4_goAhead : MethodName := ⟨RX4, "goAhead", "([I)Z"⟩
def RX5 : String := "ShopFloor$Jobs"
def TX5 : u_T := fun k => match k with
  | 0 => ("ShopFloor$Jobs", "jobs", "I", false)
  | 1 => ("ShopFloor$Jobs", "tasks", "I", false)
  | 2 => ("ShopFloor$Jobs", "job", "[I", true)
  | 3 => ("ShopFloor$Jobs", "place", "[I", true)
  | 4 => ("ShopFloor$Jobs", "machine", "[I", true)
  | 5 => ("ShopFloor$Jobs", "lasts", "[I", true)
  | 6 => ("ShopFloor$Jobs", "before", "[I", true)
  | 7 => ("ShopFloor$Jobs", "after", "[I", true)
  | _ => ("ShopFloor$Jobs", "slots", "[I", true)
def tyX5 : Nat → FieldType := fun k => match k with
  | 0 => .int
  | 1 => .int
  | 2 => .array .int
  | 3 => .array .int
  | 4 => .array .int
  | 5 => .array .int
  | 6 => .array .int
  | 7 => .array .int
  | _ => .array .int
abbrev wsX50 : List Cond := u_ws RX5 TX5 9
theorem nmX5 : ∀ a, a < 9 → ∀ b, b < 9 → a ≠ b → (TX5 a).2.1 ≠ (TX5 b).2.1 := by decide +kernel
theorem tyX5_ok : ∀ k, k < 9 → parseFieldDescriptor (TX5 k).2.2.1 = some (tyX5 k) := by decide +kernel
abbrev cX5_init : ByteArray := prog_7_method_1_code
def yX5_init : MethodName := ⟨RX5, "<init>", "()V"⟩
abbrev cX5_clear : ByteArray := prog_7_method_2_code
def yX5_clear : MethodName := ⟨RX5, "clear", "()V"⟩
abbrev cX5_add : ByteArray := prog_7_method_3_code
def yX5_add : MethodName := ⟨RX5, "add", "(IIII)V"⟩
abbrev cX5_finish : ByteArray := prog_7_method_4_code
def yX5_finish : MethodName := ⟨RX5, "finish", "()V"⟩
abbrev cX5_copyOf : ByteArray := prog_7_method_5_code
def yX5_copyOf : MethodName := ⟨RX5, "copyOf", "(LShopFloor$Jobs;)V"⟩
abbrev cX5_orderByNumbers : ByteArray := prog_7_method_6_code
def yX5_orderByNumbers : MethodName := ⟨RX5, "orderByNumbers", "([I)V"⟩
abbrev cX5_tasksOn : ByteArray := prog_7_method_7_code
def yX5_tasksOn : MethodName := ⟨RX5, "tasksOn", "(I)I"⟩
abbrev cX5_jobAhead : ByteArray := prog_7_method_8_code
def yX5_jobAhead : MethodName := ⟨RX5, "jobAhead", "(I)I"⟩
abbrev cX5_jobNext : ByteArray := prog_7_method_9_code
def yX5_jobNext : MethodName := ⟨RX5, "jobNext", "(I)I"⟩
abbrev cX5_longestJob : ByteArray := prog_7_method_10_code
def yX5_longestJob : MethodName := ⟨RX5, "longestJob", "()I"⟩
def RX6 : String := "ShopFloor$Path"
def TX6 : u_T := fun k => match k with
  | 0 => ("ShopFloor$Path", "tasks", "[I", true)
  | 1 => ("ShopFloor$Path", "length", "I", false)
  | 2 => ("ShopFloor$Path", "edges", "[I", true)
  | 3 => ("ShopFloor$Path", "blocks", "I", false)
  | 4 => ("ShopFloor$Path", "movesAt", "[I", true)
  | _ => ("ShopFloor$Path", "moves", "I", false)
def tyX6 : Nat → FieldType := fun k => match k with
  | 0 => .array .int
  | 1 => .int
  | 2 => .array .int
  | 3 => .int
  | 4 => .array .int
  | _ => .int
abbrev wsX60 : List Cond := u_ws RX6 TX6 6
theorem nmX6 : ∀ a, a < 6 → ∀ b, b < 6 → a ≠ b → (TX6 a).2.1 ≠ (TX6 b).2.1 := by decide +kernel
theorem tyX6_ok : ∀ k, k < 6 → parseFieldDescriptor (TX6 k).2.2.1 = some (tyX6 k) := by decide +kernel
abbrev cX6_init : ByteArray := prog_8_method_1_code
def yX6_init : MethodName := ⟨RX6, "<init>", "()V"⟩
abbrev cX6_find : ByteArray := prog_8_method_2_code
def yX6_find : MethodName := ⟨RX6, "find", "(LShopFloor$Jobs;LShopFloor$Times;)V"⟩
abbrev cX6_first : ByteArray := prog_8_method_3_code
def yX6_first : MethodName := ⟨RX6, "first", "(I)I"⟩
abbrev cX6_second : ByteArray := prog_8_method_4_code
def yX6_second : MethodName := ⟨RX6, "second", "(I)I"⟩
abbrev cX6_walk : ByteArray := prog_8_method_5_code
def yX6_walk : MethodName := ⟨RX6, "walk", "(LShopFloor$Jobs;LShopFloor$Times;)V"⟩
abbrev cX6_beginning : ByteArray := prog_8_method_6_code
def yX6_beginning : MethodName := ⟨RX6, "beginning", "(LShopFloor$Jobs;LShopFloor$Times;)I"⟩
abbrev cX6_goesOn : ByteArray := prog_8_method_7_code
def yX6_goesOn : MethodName := ⟨RX6, "goesOn", "(LShopFloor$Times;II)I"⟩
abbrev cX6_cutBlocks : ByteArray := prog_8_method_8_code
def yX6_cutBlocks : MethodName := ⟨RX6, "cutBlocks", "(LShopFloor$Jobs;)V"⟩
abbrev cX6_findMoves : ByteArray := prog_8_method_9_code
def yX6_findMoves : MethodName := ⟨RX6, "findMoves", "(LShopFloor$Jobs;)V"⟩
abbrev cX6_addMove : ByteArray := prog_8_method_10_code
def yX6_addMove : MethodName := ⟨RX6, "addMove", "(LShopFloor$Jobs;II)V"⟩
def RX7 : String := "ShopFloor$Tape"
def TX7 : u_T := fun k => match k with
  | 0 => ("ShopFloor$Tape", "bytes", "[I", true)
  | _ => ("ShopFloor$Tape", "length", "I", false)
def tyX7 : Nat → FieldType := fun k => match k with
  | 0 => .array .int
  | _ => .int
abbrev wsX70 : List Cond := u_ws RX7 TX7 2
theorem nmX7 : ∀ a, a < 2 → ∀ b, b < 2 → a ≠ b → (TX7 a).2.1 ≠ (TX7 b).2.1 := by decide +kernel
theorem tyX7_ok : ∀ k, k < 2 → parseFieldDescriptor (TX7 k).2.2.1 = some (tyX7 k) := by decide +kernel
abbrev cX7_init : ByteArray := prog_9_method_1_code
def yX7_init : MethodName := ⟨RX7, "<init>", "()V"⟩
abbrev cX7_put : ByteArray := prog_9_method_2_code
def yX7_put : MethodName := ⟨RX7, "put", "(I)V"⟩
abbrev cX7_readInto : ByteArray := prog_9_method_3_code
def yX7_readInto : MethodName := ⟨RX7, "readInto", "(LShopFloor$Jobs;)I"⟩
abbrev cX7_taskEnd : ByteArray := prog_9_method_4_code
def yX7_taskEnd : MethodName := ⟨RX7, "taskEnd", "(I)I"⟩
abbrev cX7_isTask : ByteArray := prog_9_method_5_code
def yX7_isTask : MethodName := ⟨RX7, "isTask", "(II)Z"⟩
abbrev cX7_number : ByteArray := prog_9_method_6_code
def yX7_number : MethodName := ⟨RX7, "number", "(II)I"⟩
abbrev cX7_isFigure : ByteArray := prog_9_method_7_code
def yX7_isFigure : MethodName := ⟨RX7, "isFigure", "(III)Z"⟩
abbrev cX7_letterAt : ByteArray := prog_9_method_8_code
def yX7_letterAt : MethodName := ⟨RX7, "letterAt", "(I)I"⟩
def RX8 : String := "ShopFloor$Times"
def TX8 : u_T := fun k => match k with
  | 0 => ("ShopFloor$Times", "rank", "[I", true)
  | 1 => ("ShopFloor$Times", "ahead", "[I", true)
  | 2 => ("ShopFloor$Times", "next", "[I", true)
  | 3 => ("ShopFloor$Times", "start", "[I", true)
  | 4 => ("ShopFloor$Times", "tail", "[I", true)
  | 5 => ("ShopFloor$Times", "slack", "[I", true)
  | 6 => ("ShopFloor$Times", "waits", "[I", true)
  | 7 => ("ShopFloor$Times", "queue", "[I", true)
  | 8 => ("ShopFloor$Times", "queued", "I", false)
  | 9 => ("ShopFloor$Times", "span", "I", false)
  | _ => ("ShopFloor$Times", "ring", "Z", false)
def tyX8 : Nat → FieldType := fun k => match k with
  | 0 => .array .int
  | 1 => .array .int
  | 2 => .array .int
  | 3 => .array .int
  | 4 => .array .int
  | 5 => .array .int
  | 6 => .array .int
  | 7 => .array .int
  | 8 => .int
  | 9 => .int
  | _ => .boolean
abbrev wsX80 : List Cond := u_ws RX8 TX8 11
theorem nmX8 : ∀ a, a < 11 → ∀ b, b < 11 → a ≠ b → (TX8 a).2.1 ≠ (TX8 b).2.1 := by decide +kernel
theorem tyX8_ok : ∀ k, k < 11 → parseFieldDescriptor (TX8 k).2.2.1 = some (tyX8 k) := by decide +kernel
abbrev cX8_init : ByteArray := prog_10_method_1_code
def yX8_init : MethodName := ⟨RX8, "<init>", "()V"⟩
abbrev cX8_lay : ByteArray := prog_10_method_2_code
def yX8_lay : MethodName := ⟨RX8, "lay", "(LShopFloor$Jobs;[I)V"⟩
abbrev cX8_link : ByteArray := prog_10_method_3_code
def yX8_link : MethodName := ⟨RX8, "link", "(LShopFloor$Jobs;[I)V"⟩
abbrev cX8_queueFree : ByteArray := prog_10_method_4_code
def yX8_queueFree : MethodName := ⟨RX8, "queueFree", "(LShopFloor$Jobs;)V"⟩
abbrev cX8_release : ByteArray := prog_10_method_5_code
def yX8_release : MethodName := ⟨RX8, "release", "(II)V"⟩
abbrev cX8_layTails : ByteArray := prog_10_method_6_code
def yX8_layTails : MethodName := ⟨RX8, "layTails", "(LShopFloor$Jobs;)V"⟩
abbrev cX8_toCome : ByteArray := prog_10_method_7_code
def yX8_toCome : MethodName := ⟨RX8, "toCome", "(LShopFloor$Jobs;I)I"⟩
abbrev cX8_endOf : ByteArray := prog_10_method_8_code
def yX8_endOf : MethodName := ⟨RX8, "endOf", "(LShopFloor$Jobs;I)I"⟩
abbrev cX8_atLeast : ByteArray := prog_10_method_9_code
def yX8_atLeast : MethodName := ⟨RX8, "atLeast", "(LShopFloor$Jobs;II)I"⟩
def RX9 : String := "ShopFloor"
def TX9 : u_T := fun k => match k with
  | 0 => ("ShopFloor", "tape", "LShopFloor$Tape;", true)
  | 1 => ("ShopFloor", "jobs", "LShopFloor$Jobs;", true)
  | 2 => ("ShopFloor", "read", "LShopFloor$Jobs;", true)
  | 3 => ("ShopFloor", "row", "[I", true)
  | 4 => ("ShopFloor", "times", "LShopFloor$Times;", true)
  | 5 => ("ShopFloor", "thought", "LShopFloor$Times;", true)
  | 6 => ("ShopFloor", "path", "LShopFloor$Path;", true)
  | 7 => ("ShopFloor", "forbidden", "LShopFloor$Forbidden;", true)
  | 8 => ("ShopFloor", "history", "LShopFloor$History;", true)
  | 9 => ("ShopFloor", "dispatcher", "LShopFloor$Dispatcher;", true)
  | 10 => ("ShopFloor", "alone", "LShopFloor$Alone;", true)
  | 11 => ("ShopFloor", "every", "LShopFloor$Every;", true)
  | 12 => ("ShopFloor", "imageJobs", "LShopFloor$Jobs;", true)
  | 13 => ("ShopFloor", "imageRow", "[I", true)
  | 14 => ("ShopFloor", "bestRow", "[I", true)
  | 15 => ("ShopFloor", "least", "I", false)
  | _ => ("ShopFloor", "stepped", "I", false)
def tyX9 : Nat → FieldType := fun k => match k with
  | 0 => .object "ShopFloor$Tape"
  | 1 => .object "ShopFloor$Jobs"
  | 2 => .object "ShopFloor$Jobs"
  | 3 => .array .int
  | 4 => .object "ShopFloor$Times"
  | 5 => .object "ShopFloor$Times"
  | 6 => .object "ShopFloor$Path"
  | 7 => .object "ShopFloor$Forbidden"
  | 8 => .object "ShopFloor$History"
  | 9 => .object "ShopFloor$Dispatcher"
  | 10 => .object "ShopFloor$Alone"
  | 11 => .object "ShopFloor$Every"
  | 12 => .object "ShopFloor$Jobs"
  | 13 => .array .int
  | 14 => .array .int
  | 15 => .int
  | _ => .int
abbrev wsX90 : List Cond := u_ws RX9 TX9 17
theorem nmX9 : ∀ a, a < 17 → ∀ b, b < 17 → a ≠ b → (TX9 a).2.1 ≠ (TX9 b).2.1 := by decide +kernel
theorem tyX9_ok : ∀ k, k < 17 → parseFieldDescriptor (TX9 k).2.2.1 = some (tyX9 k) := by decide +kernel
abbrev cX9_init : ByteArray := prog_1_method_1_code
def yX9_init : MethodName := ⟨RX9, "<init>", "()V"⟩
abbrev cX9_feed : ByteArray := prog_1_method_2_code
def yX9_feed : MethodName := ⟨RX9, "feed", "(I)I"⟩
abbrev cX9_shop : ByteArray := prog_1_method_3_code
def yX9_shop : MethodName := ⟨RX9, "shop", "()I"⟩
abbrev cX9_task : ByteArray := prog_1_method_4_code
def yX9_task : MethodName := ⟨RX9, "task", "(II)I"⟩
abbrev cX9_order : ByteArray := prog_1_method_5_code
def yX9_order : MethodName := ⟨RX9, "order", "(II)I"⟩
abbrev cX9_turn : ByteArray := prog_1_method_6_code
def yX9_turn : MethodName := ⟨RX9, "turn", "(II)I"⟩
abbrev cX9_span : ByteArray := prog_1_method_7_code
def yX9_span : MethodName := ⟨RX9, "span", "()I"⟩
abbrev cX9_of : ByteArray := prog_1_method_8_code
def yX9_of : MethodName := ⟨RX9, "of", "(II)I"⟩
abbrev cX9_way : ByteArray := prog_1_method_9_code
def yX9_way : MethodName := ⟨RX9, "way", "(I)I"⟩
abbrev cX9_block : ByteArray := prog_1_method_10_code
def yX9_block : MethodName := ⟨RX9, "block", "(I)I"⟩
abbrev cX9_move : ByteArray := prog_1_method_11_code
def yX9_move : MethodName := ⟨RX9, "move", "(I)I"⟩
abbrev cX9_brings : ByteArray := prog_1_method_12_code
def yX9_brings : MethodName := ⟨RX9, "brings", "(II)I"⟩
abbrev cX9_does : ByteArray := prog_1_method_13_code
def yX9_does : MethodName := ⟨RX9, "does", "(I)I"⟩
abbrev cX9_tabu : ByteArray := prog_1_method_14_code
def yX9_tabu : MethodName := ⟨RX9, "tabu", "(I)I"⟩
abbrev cX9_step : ByteArray := prog_1_method_15_code
def yX9_step : MethodName := ⟨RX9, "step", "(I)I"⟩
abbrev cX9_kept : ByteArray := prog_1_method_16_code
def yX9_kept : MethodName := ⟨RX9, "kept", "(I)I"⟩
abbrev cX9_best : ByteArray := prog_1_method_17_code
def yX9_best : MethodName := ⟨RX9, "best", "(I)I"⟩
abbrev cX9_dispatch : ByteArray := prog_1_method_18_code
def yX9_dispatch : MethodName := ⟨RX9, "dispatch", "(I)I"⟩
abbrev cX9_would : ByteArray := prog_1_method_19_code
def yX9_would : MethodName := ⟨RX9, "would", "(I)I"⟩
abbrev cX9_machine : ByteArray := prog_1_method_20_code
def yX9_machine : MethodName := ⟨RX9, "machine", "(II)I"⟩
abbrev cX9_bound : ByteArray := prog_1_method_21_code
def yX9_bound : MethodName := ⟨RX9, "bound", "()I"⟩
abbrev cX9_all : ByteArray := prog_1_method_22_code
def yX9_all : MethodName := ⟨RX9, "all", "(I)I"⟩
abbrev cX9_chart : ByteArray := prog_1_method_23_code
def yX9_chart : MethodName := ⟨RX9, "chart", "(I)I"⟩
abbrev cX9_undo : ByteArray := prog_1_method_24_code
def yX9_undo : MethodName := ⟨RX9, "undo", "()I"⟩
abbrev cX9_redo : ByteArray := prog_1_method_25_code
def yX9_redo : MethodName := ⟨RX9, "redo", "()I"⟩
abbrev cX9_image : ByteArray := prog_1_method_26_code
def yX9_image : MethodName := ⟨RX9, "image", "()I"⟩
abbrev cX9_back : ByteArray := prog_1_method_27_code
def yX9_back : MethodName := ⟨RX9, "back", "()I"⟩
abbrev cX9_count : ByteArray := prog_1_method_28_code
def yX9_count : MethodName := ⟨RX9, "count", "(I)I"⟩
abbrev cX9_noShop : ByteArray := prog_1_method_29_code
def yX9_noShop : MethodName := ⟨RX9, "noShop", "()Z"⟩
abbrev cX9_noTask : ByteArray := prog_1_method_30_code
def yX9_noTask : MethodName := ⟨RX9, "noTask", "(I)Z"⟩
abbrev cX9_noMachine : ByteArray := prog_1_method_31_code
def yX9_noMachine : MethodName := ⟨RX9, "noMachine", "(I)Z"⟩
abbrev cX9_refusedByState : ByteArray := prog_1_method_32_code
def yX9_refusedByState : MethodName := ⟨RX9, "refusedByState", "()I"⟩
abbrev cX9_spanOrRing : ByteArray := prog_1_method_33_code
def yX9_spanOrRing : MethodName := ⟨RX9, "spanOrRing", "()I"⟩
abbrev cX9_copyRow : ByteArray := prog_1_method_34_code
def yX9_copyRow : MethodName := ⟨RX9, "copyRow", "([I[I)V"⟩
abbrev cX9_pair : ByteArray := prog_1_method_35_code
def yX9_pair : MethodName := ⟨RX9, "pair", "(II)I"⟩
abbrev cX9_slotOf : ByteArray := prog_1_method_36_code
def yX9_slotOf : MethodName := ⟨RX9, "slotOf", "(I)I"⟩
abbrev cX9_changePlaces : ByteArray := prog_1_method_37_code
def yX9_changePlaces : MethodName := ⟨RX9, "changePlaces", "(I)V"⟩
abbrev cX9_startAnew : ByteArray := prog_1_method_38_code
def yX9_startAnew : MethodName := ⟨RX9, "startAnew", "()V"⟩
abbrev cX9_forgetSteps : ByteArray := prog_1_method_39_code
def yX9_forgetSteps : MethodName := ⟨RX9, "forgetSteps", "()V"⟩
abbrev cX9_changed : ByteArray := prog_1_method_40_code
def yX9_changed : MethodName := ⟨RX9, "changed", "()V"⟩
abbrev cX9_settle : ByteArray := prog_1_method_41_code
def yX9_settle : MethodName := ⟨RX9, "settle", "()V"⟩
abbrev cX9_spanBehind : ByteArray := prog_1_method_42_code
def yX9_spanBehind : MethodName := ⟨RX9, "spanBehind", "(I)I"⟩
abbrev cX9_keptSince : ByteArray := prog_1_method_43_code
def yX9_keptSince : MethodName := ⟨RX9, "keptSince", "(I)I"⟩
abbrev cX9_goOn : ByteArray := prog_1_method_44_code
def yX9_goOn : MethodName := ⟨RX9, "goOn", "()Z"⟩
abbrev cX9_lookForLeast : ByteArray := prog_1_method_45_code
def yX9_lookForLeast : MethodName := ⟨RX9, "lookForLeast", "()V"⟩
abbrev cX9_chosen : ByteArray := prog_1_method_46_code
def yX9_chosen : MethodName := ⟨RX9, "chosen", "()I"⟩
abbrev cX9_chartByte : ByteArray := prog_1_method_47_code
def yX9_chartByte : MethodName := ⟨RX9, "chartByte", "(II)I"⟩
abbrev cX9_nextOrder : ByteArray := prog_1_method_48_code
def yX9_nextOrder : MethodName := ⟨RX9, "nextOrder", "([III)Z"⟩
def RX10 : String := "ShopFloorModel"
def TX10 : u_T := fun k => match k with
  | 0 => ("ShopFloorModel", "jobs", "I", false)
  | 1 => ("ShopFloorModel", "tasks", "I", false)
  | 2 => ("ShopFloorModel", "job", "[I", true)
  | 3 => ("ShopFloorModel", "place", "[I", true)
  | 4 => ("ShopFloorModel", "machineOf", "[I", true)
  | 5 => ("ShopFloorModel", "lasts", "[I", true)
  | 6 => ("ShopFloorModel", "orders", "[I", true)
  | 7 => ("ShopFloorModel", "sizes", "[I", true)
  | 8 => ("ShopFloorModel", "tape", "[I", true)
  | 9 => ("ShopFloorModel", "taped", "I", false)
  | 10 => ("ShopFloorModel", "at", "I", false)
  | 11 => ("ShopFloorModel", "isWell", "Z", false)
  | 12 => ("ShopFloorModel", "newJobs", "I", false)
  | 13 => ("ShopFloorModel", "newTasks", "I", false)
  | 14 => ("ShopFloorModel", "newJob", "[I", true)
  | 15 => ("ShopFloorModel", "newMachine", "[I", true)
  | 16 => ("ShopFloorModel", "newLasts", "[I", true)
  | 17 => ("ShopFloorModel", "line", "[I", true)
  | 18 => ("ShopFloorModel", "done", "I", false)
  | 19 => ("ShopFloorModel", "undone", "I", false)
  | 20 => ("ShopFloorModel", "ahead", "[I", true)
  | 21 => ("ShopFloorModel", "behind", "[I", true)
  | 22 => ("ShopFloorModel", "starts", "[I", true)
  | 23 => ("ShopFloorModel", "tails", "[I", true)
  | 24 => ("ShopFloorModel", "sequence", "[I", true)
  | 25 => ("ShopFloorModel", "isDone", "[Z", true)
  | 26 => ("ShopFloorModel", "span", "I", false)
  | 27 => ("ShopFloorModel", "way", "[I", true)
  | 28 => ("ShopFloorModel", "wayMany", "I", false)
  | 29 => ("ShopFloorModel", "blocks", "[I", true)
  | 30 => ("ShopFloorModel", "blockMany", "I", false)
  | 31 => ("ShopFloorModel", "moves", "[I", true)
  | 32 => ("ShopFloorModel", "atLeast", "[I", true)
  | 33 => ("ShopFloorModel", "moveMany", "I", false)
  | 34 => ("ShopFloorModel", "keeps", "I", false)
  | 35 => ("ShopFloorModel", "tabu", "[I", true)
  | 36 => ("ShopFloorModel", "tabuMany", "I", false)
  | 37 => ("ShopFloorModel", "isStepped", "Z", false)
  | 38 => ("ShopFloorModel", "least", "I", false)
  | 39 => ("ShopFloorModel", "best", "[I", true)
  | 40 => ("ShopFloorModel", "stepped", "I", false)
  | 41 => ("ShopFloorModel", "spans", "[I", true)
  | 42 => ("ShopFloorModel", "nextOf", "[I", true)
  | 43 => ("ShopFloorModel", "jobFree", "[I", true)
  | 44 => ("ShopFloorModel", "machineFree", "[I", true)
  | 45 => ("ShopFloorModel", "those", "[I", true)
  | 46 => ("ShopFloorModel", "thoseMany", "I", false)
  | 47 => ("ShopFloorModel", "open", "[I", true)
  | 48 => ("ShopFloorModel", "without", "I", false)
  | 49 => ("ShopFloorModel", "leastOfAll", "I", false)
  | 50 => ("ShopFloorModel", "imaged", "[I", true)
  | 51 => ("ShopFloorModel", "hasImage", "Z", false)
  | 52 => ("ShopFloorModel", "cursor", "I", false)
  | _ => ("ShopFloorModel", "isKeeping", "Z", false)
def tyX10 : Nat → FieldType := fun k => match k with
  | 0 => .int
  | 1 => .int
  | 2 => .array .int
  | 3 => .array .int
  | 4 => .array .int
  | 5 => .array .int
  | 6 => .array .int
  | 7 => .array .int
  | 8 => .array .int
  | 9 => .int
  | 10 => .int
  | 11 => .boolean
  | 12 => .int
  | 13 => .int
  | 14 => .array .int
  | 15 => .array .int
  | 16 => .array .int
  | 17 => .array .int
  | 18 => .int
  | 19 => .int
  | 20 => .array .int
  | 21 => .array .int
  | 22 => .array .int
  | 23 => .array .int
  | 24 => .array .int
  | 25 => .array .boolean
  | 26 => .int
  | 27 => .array .int
  | 28 => .int
  | 29 => .array .int
  | 30 => .int
  | 31 => .array .int
  | 32 => .array .int
  | 33 => .int
  | 34 => .int
  | 35 => .array .int
  | 36 => .int
  | 37 => .boolean
  | 38 => .int
  | 39 => .array .int
  | 40 => .int
  | 41 => .array .int
  | 42 => .array .int
  | 43 => .array .int
  | 44 => .array .int
  | 45 => .array .int
  | 46 => .int
  | 47 => .array .int
  | 48 => .int
  | 49 => .int
  | 50 => .array .int
  | 51 => .boolean
  | 52 => .int
  | _ => .boolean
abbrev wsX100 : List Cond := u_ws RX10 TX10 54
theorem nmX10 : ∀ a, a < 54 → ∀ b, b < 54 → a ≠ b → (TX10 a).2.1 ≠ (TX10 b).2.1 := by decide +kernel
theorem tyX10_ok : ∀ k, k < 54 → parseFieldDescriptor (TX10 k).2.2.1 = some (tyX10 k) := by decide +kernel
abbrev cX10_init : ByteArray := prog_12_method_1_code
def yX10_init : MethodName := ⟨RX10, "<init>", "()V"⟩
abbrev cX10_in : ByteArray := prog_12_method_2_code
def yX10_in : MethodName := ⟨RX10, "in", "(III)Z"⟩
abbrev cX10_isTask : ByteArray := prog_12_method_3_code
def yX10_isTask : MethodName := ⟨RX10, "isTask", "(I)Z"⟩
abbrev cX10_isMachine : ByteArray := prog_12_method_4_code
def yX10_isMachine : MethodName := ⟨RX10, "isMachine", "(I)Z"⟩
abbrev cX10_feed : ByteArray := prog_12_method_5_code
def yX10_feed : MethodName := ⟨RX10, "feed", "(I)I"⟩
abbrev cX10_isFigure : ByteArray := prog_12_method_6_code
def yX10_isFigure : MethodName := ⟨RX10, "isFigure", "(II)Z"⟩
abbrev cX10_is : ByteArray := prog_12_method_7_code
def yX10_is : MethodName := ⟨RX10, "is", "(I)Z"⟩
abbrev cX10_must : ByteArray := prog_12_method_8_code
def yX10_must : MethodName := ⟨RX10, "must", "(Z)V"⟩
abbrev cX10_readsTask : ByteArray := prog_12_method_9_code
def yX10_readsTask : MethodName := ⟨RX10, "readsTask", "(I)V"⟩
abbrev cX10_readsJob : ByteArray := prog_12_method_10_code
def yX10_readsJob : MethodName := ⟨RX10, "readsJob", "()V"⟩
abbrev cX10_readsAll : ByteArray := prog_12_method_11_code
def yX10_readsAll : MethodName := ⟨RX10, "readsAll", "()V"⟩
abbrev cX10_shop : ByteArray := prog_12_method_12_code
def yX10_shop : MethodName := ⟨RX10, "shop", "()I"⟩
abbrev cX10_puts : ByteArray := prog_12_method_13_code
def yX10_puts : MethodName := ⟨RX10, "puts", "(I)V"⟩
abbrev cX10_lays : ByteArray := prog_12_method_14_code
def yX10_lays : MethodName := ⟨RX10, "lays", "()V"⟩
abbrev cX10_fetches : ByteArray := prog_12_method_15_code
def yX10_fetches : MethodName := ⟨RX10, "fetches", "()V"⟩
abbrev cX10_changed : ByteArray := prog_12_method_16_code
def yX10_changed : MethodName := ⟨RX10, "changed", "()V"⟩
abbrev cX10_undo : ByteArray := prog_12_method_17_code
def yX10_undo : MethodName := ⟨RX10, "undo", "()I"⟩
abbrev cX10_redo : ByteArray := prog_12_method_18_code
def yX10_redo : MethodName := ⟨RX10, "redo", "()I"⟩
abbrev cX10_begins : ByteArray := prog_12_method_19_code
def yX10_begins : MethodName := ⟨RX10, "begins", "()V"⟩
abbrev cX10_placeOf : ByteArray := prog_12_method_20_code
def yX10_placeOf : MethodName := ⟨RX10, "placeOf", "(I)I"⟩
abbrev cX10_task : ByteArray := prog_12_method_21_code
def yX10_task : MethodName := ⟨RX10, "task", "(II)I"⟩
abbrev cX10_order : ByteArray := prog_12_method_22_code
def yX10_order : MethodName := ⟨RX10, "order", "(II)I"⟩
abbrev cX10_swaps : ByteArray := prog_12_method_23_code
def yX10_swaps : MethodName := ⟨RX10, "swaps", "(II)V"⟩
abbrev cX10_turn : ByteArray := prog_12_method_24_code
def yX10_turn : MethodName := ⟨RX10, "turn", "(II)I"⟩
abbrev cX10_jobAhead : ByteArray := prog_12_method_25_code
def yX10_jobAhead : MethodName := ⟨RX10, "jobAhead", "(I)I"⟩
abbrev cX10_jobBehind : ByteArray := prog_12_method_26_code
def yX10_jobBehind : MethodName := ⟨RX10, "jobBehind", "(I)I"⟩
abbrev cX10_endOf : ByteArray := prog_12_method_27_code
def yX10_endOf : MethodName := ⟨RX10, "endOf", "(I)I"⟩
abbrev cX10_restOf : ByteArray := prog_12_method_28_code
def yX10_restOf : MethodName := ⟨RX10, "restOf", "(I)I"⟩
abbrev cX10_isReady : ByteArray := prog_12_method_29_code
def yX10_isReady : MethodName := ⟨RX10, "isReady", "(I)Z"⟩
abbrev cX10_nextReady : ByteArray := prog_12_method_30_code
def yX10_nextReady : MethodName := ⟨RX10, "nextReady", "()I"⟩
abbrev cX10_neighbours : ByteArray := prog_12_method_31_code
def yX10_neighbours : MethodName := ⟨RX10, "neighbours", "()V"⟩
abbrev cX10_reckons : ByteArray := prog_12_method_32_code
def yX10_reckons : MethodName := ⟨RX10, "reckons", "()Z"⟩
abbrev cX10_span : ByteArray := prog_12_method_33_code
def yX10_span : MethodName := ⟨RX10, "span", "()I"⟩
abbrev cX10_isCritical : ByteArray := prog_12_method_34_code
def yX10_isCritical : MethodName := ⟨RX10, "isCritical", "(I)Z"⟩
abbrev cX10_of : ByteArray := prog_12_method_35_code
def yX10_of : MethodName := ⟨RX10, "of", "(II)I"⟩
abbrev cX10_comesBehind : ByteArray := prog_12_method_36_code
def yX10_comesBehind : MethodName := ⟨RX10, "comesBehind", "(II)Z"⟩
abbrev cX10_nextOnWay : ByteArray := prog_12_method_37_code
def yX10_nextOnWay : MethodName := ⟨RX10, "nextOnWay", "(I)I"⟩
abbrev cX10_walks : ByteArray := prog_12_method_38_code
def yX10_walks : MethodName := ⟨RX10, "walks", "()V"⟩
abbrev cX10_parts : ByteArray := prog_12_method_39_code
def yX10_parts : MethodName := ⟨RX10, "parts", "()V"⟩
abbrev cX10_wrong : ByteArray := prog_12_method_40_code
def yX10_wrong : MethodName := ⟨RX10, "wrong", "()I"⟩
abbrev cX10_toldAt : ByteArray := prog_12_method_41_code
def yX10_toldAt : MethodName := ⟨RX10, "toldAt", "([III)I"⟩
abbrev cX10_way : ByteArray := prog_12_method_42_code
def yX10_way : MethodName := ⟨RX10, "way", "(I)I"⟩
abbrev cX10_block : ByteArray := prog_12_method_43_code
def yX10_block : MethodName := ⟨RX10, "block", "(I)I"⟩
abbrev cX10_comesMove : ByteArray := prog_12_method_44_code
def yX10_comesMove : MethodName := ⟨RX10, "comesMove", "(I)V"⟩
abbrev cX10_leastBy : ByteArray := prog_12_method_45_code
def yX10_leastBy : MethodName := ⟨RX10, "leastBy", "(II)I"⟩
abbrev cX10_findsMoves : ByteArray := prog_12_method_46_code
def yX10_findsMoves : MethodName := ⟨RX10, "findsMoves", "()V"⟩
abbrev cX10_swapsMove : ByteArray := prog_12_method_47_code
def yX10_swapsMove : MethodName := ⟨RX10, "swapsMove", "(I)V"⟩
abbrev cX10_spanBehind : ByteArray := prog_12_method_48_code
def yX10_spanBehind : MethodName := ⟨RX10, "spanBehind", "(I)I"⟩
abbrev cX10_move : ByteArray := prog_12_method_49_code
def yX10_move : MethodName := ⟨RX10, "move", "(I)I"⟩
abbrev cX10_brings : ByteArray := prog_12_method_50_code
def yX10_brings : MethodName := ⟨RX10, "brings", "(II)I"⟩
abbrev cX10_does : ByteArray := prog_12_method_51_code
def yX10_does : MethodName := ⟨RX10, "does", "(I)I"⟩
abbrev cX10_forgets : ByteArray := prog_12_method_52_code
def yX10_forgets : MethodName := ⟨RX10, "forgets", "()V"⟩
abbrev cX10_tabu : ByteArray := prog_12_method_53_code
def yX10_tabu : MethodName := ⟨RX10, "tabu", "(I)I"⟩
abbrev cX10_tabuAt : ByteArray := prog_12_method_54_code
def yX10_tabuAt : MethodName := ⟨RX10, "tabuAt", "(I)I"⟩
abbrev cX10_takesOff : ByteArray := prog_12_method_55_code
def yX10_takesOff : MethodName := ⟨RX10, "takesOff", "(I)V"⟩
abbrev cX10_keepsMove : ByteArray := prog_12_method_56_code
def yX10_keepsMove : MethodName := ⟨RX10, "keepsMove", "(I)V"⟩
abbrev cX10_notes : ByteArray := prog_12_method_57_code
def yX10_notes : MethodName := ⟨RX10, "notes", "(I)V"⟩
abbrev cX10_chosen : ByteArray := prog_12_method_58_code
def yX10_chosen : MethodName := ⟨RX10, "chosen", "()I"⟩
abbrev cX10_isLongest : ByteArray := prog_12_method_59_code
def yX10_isLongest : MethodName := ⟨RX10, "isLongest", "(I)Z"⟩
abbrev cX10_steps : ByteArray := prog_12_method_60_code
def yX10_steps : MethodName := ⟨RX10, "steps", "()Z"⟩
abbrev cX10_step : ByteArray := prog_12_method_61_code
def yX10_step : MethodName := ⟨RX10, "step", "(I)I"⟩
abbrev cX10_kept : ByteArray := prog_12_method_62_code
def yX10_kept : MethodName := ⟨RX10, "kept", "(I)I"⟩
abbrev cX10_best : ByteArray := prog_12_method_63_code
def yX10_best : MethodName := ⟨RX10, "best", "(I)I"⟩
abbrev cX10_firstOf : ByteArray := prog_12_method_64_code
def yX10_firstOf : MethodName := ⟨RX10, "firstOf", "(I)I"⟩
abbrev cX10_isOpen : ByteArray := prog_12_method_65_code
def yX10_isOpen : MethodName := ⟨RX10, "isOpen", "(I)Z"⟩
abbrev cX10_mayStart : ByteArray := prog_12_method_66_code
def yX10_mayStart : MethodName := ⟨RX10, "mayStart", "(I)I"⟩
abbrev cX10_leftOf : ByteArray := prog_12_method_67_code
def yX10_leftOf : MethodName := ⟨RX10, "leftOf", "(I)I"⟩
abbrev cX10_worthOf : ByteArray := prog_12_method_68_code
def yX10_worthOf : MethodName := ⟨RX10, "worthOf", "(II)I"⟩
abbrev cX10_isBetter : ByteArray := prog_12_method_69_code
def yX10_isBetter : MethodName := ⟨RX10, "isBetter", "(III)Z"⟩
abbrev cX10_dispatchedBy : ByteArray := prog_12_method_70_code
def yX10_dispatchedBy : MethodName := ⟨RX10, "dispatchedBy", "(I)I"⟩
abbrev cX10_dispatch : ByteArray := prog_12_method_71_code
def yX10_dispatch : MethodName := ⟨RX10, "dispatch", "(I)I"⟩
abbrev cX10_would : ByteArray := prog_12_method_72_code
def yX10_would : MethodName := ⟨RX10, "would", "(I)I"⟩
abbrev cX10_headOf : ByteArray := prog_12_method_73_code
def yX10_headOf : MethodName := ⟨RX10, "headOf", "(I)I"⟩
abbrev cX10_tailOf : ByteArray := prog_12_method_74_code
def yX10_tailOf : MethodName := ⟨RX10, "tailOf", "(I)I"⟩
abbrev cX10_takes : ByteArray := prog_12_method_75_code
def yX10_takes : MethodName := ⟨RX10, "takes", "(I)V"⟩
abbrev cX10_bestOf : ByteArray := prog_12_method_76_code
def yX10_bestOf : MethodName := ⟨RX10, "bestOf", "(III)I"⟩
abbrev cX10_nextAt : ByteArray := prog_12_method_77_code
def yX10_nextAt : MethodName := ⟨RX10, "nextAt", "(I)I"⟩
abbrev cX10_preempted : ByteArray := prog_12_method_78_code
def yX10_preempted : MethodName := ⟨RX10, "preempted", "()I"⟩
abbrev cX10_alone : ByteArray := prog_12_method_79_code
def yX10_alone : MethodName := ⟨RX10, "alone", "(I)I"⟩
abbrev cX10_machine : ByteArray := prog_12_method_80_code
def yX10_machine : MethodName := ⟨RX10, "machine", "(II)I"⟩
abbrev cX10_bound : ByteArray := prog_12_method_81_code
def yX10_bound : MethodName := ⟨RX10, "bound", "()I"⟩
abbrev cX10_triesFrom : ByteArray := prog_12_method_82_code
def yX10_triesFrom : MethodName := ⟨RX10, "triesFrom", "(II)V"⟩
abbrev cX10_changesOver : ByteArray := prog_12_method_83_code
def yX10_changesOver : MethodName := ⟨RX10, "changesOver", "(II)V"⟩
abbrev cX10_waysAll : ByteArray := prog_12_method_84_code
def yX10_waysAll : MethodName := ⟨RX10, "waysAll", "()I"⟩
abbrev cX10_all : ByteArray := prog_12_method_85_code
def yX10_all : MethodName := ⟨RX10, "all", "(I)I"⟩
abbrev cX10_byteAt : ByteArray := prog_12_method_86_code
def yX10_byteAt : MethodName := ⟨RX10, "byteAt", "(II)I"⟩
abbrev cX10_chart : ByteArray := prog_12_method_87_code
def yX10_chart : MethodName := ⟨RX10, "chart", "(I)I"⟩
abbrev cX10_passes : ByteArray := prog_12_method_88_code
def yX10_passes : MethodName := ⟨RX10, "passes", "(I)I"⟩
abbrev cX10_passesRow : ByteArray := prog_12_method_89_code
def yX10_passesRow : MethodName := ⟨RX10, "passesRow", "([I)V"⟩
abbrev cX10_passesAll : ByteArray := prog_12_method_90_code
def yX10_passesAll : MethodName := ⟨RX10, "passesAll", "(Z)V"⟩
abbrev cX10_image : ByteArray := prog_12_method_91_code
def yX10_image : MethodName := ⟨RX10, "image", "()I"⟩
abbrev cX10_back : ByteArray := prog_12_method_92_code
def yX10_back : MethodName := ⟨RX10, "back", "()I"⟩
abbrev cX10_count : ByteArray := prog_12_method_93_code
def yX10_count : MethodName := ⟨RX10, "count", "(I)I"⟩
def RJ9 : String := "java/lang/Math"
def RJ10 : String := "java/lang/System"
def RL : String := "ShopFloorLaw"
abbrev cL_law : ByteArray := code
def yL_law : MethodName := ⟨RL, "law", "([I)Z"⟩
abbrev vwCl : List vw_C := [(RX0, TX0, 3), (RX1, TX1, 6), (RX2, TX2, 4), (RX3, TX3, 3), (RX4, TX4, 3), (RX5, TX5, 9), (RX6, TX6, 6), (RX7, TX7, 2), (RX8, TX8, 11), (RX9, TX9, 17), (RX10, TX10, 54)]
end
section
theorem dX0_init_0 : decode cX0_init 0 = .ok (.aload_n 0, 1) := by decide +kernel
theorem dX0_init_1 : decode cX0_init 1 = .ok (.invokespecial 3, 3) := by decide +kernel
theorem dX0_init_4 : decode cX0_init 4 = .ok (.aload_n 0, 1) := by decide +kernel
theorem dX0_init_5 : decode cX0_init 5 = .ok (.bipush 6, 2) := by decide +kernel
theorem dX0_init_7 : decode cX0_init 7 = .ok (.newarray .int, 2) := by decide +kernel
theorem dX0_init_9 : decode cX0_init 9 = .ok (.putfield 9, 3) := by decide +kernel
theorem dX0_init_12 : decode cX0_init 12 = .ok (.aload_n 0, 1) := by decide +kernel
theorem dX0_init_13 : decode cX0_init 13 = .ok (.bipush 24, 2) := by decide +kernel
theorem dX0_init_15 : decode cX0_init 15 = .ok (.newarray .int, 2) := by decide +kernel
theorem dX0_init_17 : decode cX0_init 17 = .ok (.putfield 15, 3) := by decide +kernel
theorem dX0_init_20 : decode cX0_init 20 = .ok (.aload_n 0, 1) := by decide +kernel
theorem dX0_init_21 : decode cX0_init 21 = .ok (.iconst 5, 1) := by decide +kernel
theorem dX0_init_22 : decode cX0_init 22 = .ok (.newarray .int, 2) := by decide +kernel
theorem dX0_init_24 : decode cX0_init 24 = .ok (.dup, 1) := by decide +kernel
theorem dX0_init_25 : decode cX0_init 25 = .ok (.iconst 0, 1) := by decide +kernel
theorem dX0_init_26 : decode cX0_init 26 = .ok (.iconst (-1), 1) := by decide +kernel
theorem dX0_init_27 : decode cX0_init 27 = .ok (.iastore, 1) := by decide +kernel
theorem dX0_init_28 : decode cX0_init 28 = .ok (.dup, 1) := by decide +kernel
theorem dX0_init_29 : decode cX0_init 29 = .ok (.iconst 1, 1) := by decide +kernel
theorem dX0_init_30 : decode cX0_init 30 = .ok (.iconst (-1), 1) := by decide +kernel
theorem dX0_init_31 : decode cX0_init 31 = .ok (.iastore, 1) := by decide +kernel
theorem dX0_init_32 : decode cX0_init 32 = .ok (.dup, 1) := by decide +kernel
theorem dX0_init_33 : decode cX0_init 33 = .ok (.iconst 2, 1) := by decide +kernel
theorem dX0_init_34 : decode cX0_init 34 = .ok (.iconst (-1), 1) := by decide +kernel
theorem dX0_init_35 : decode cX0_init 35 = .ok (.iastore, 1) := by decide +kernel
theorem dX0_init_36 : decode cX0_init 36 = .ok (.dup, 1) := by decide +kernel
theorem dX0_init_37 : decode cX0_init 37 = .ok (.iconst 3, 1) := by decide +kernel
theorem dX0_init_38 : decode cX0_init 38 = .ok (.iconst (-1), 1) := by decide +kernel
theorem dX0_init_39 : decode cX0_init 39 = .ok (.iastore, 1) := by decide +kernel
theorem dX0_init_40 : decode cX0_init 40 = .ok (.dup, 1) := by decide +kernel
theorem dX0_init_41 : decode cX0_init 41 = .ok (.iconst 4, 1) := by decide +kernel
theorem dX0_init_42 : decode cX0_init 42 = .ok (.iconst (-1), 1) := by decide +kernel
theorem dX0_init_43 : decode cX0_init 43 = .ok (.iastore, 1) := by decide +kernel
theorem dX0_init_44 : decode cX0_init 44 = .ok (.putfield 18, 3) := by decide +kernel
theorem dX0_init_47 : decode cX0_init 47 = .ok (.return_, 1) := by decide +kernel
theorem dX0_forget_0 : decode cX0_forget 0 = .ok (.iconst 0, 1) := by decide +kernel
theorem dX0_forget_1 : decode cX0_forget 1 = .ok (.istore_n 1, 1) := by decide +kernel
theorem dX0_forget_2 : decode cX0_forget 2 = .ok (.iload_n 1, 1) := by decide +kernel
theorem dX0_forget_3 : decode cX0_forget 3 = .ok (.iconst 5, 1) := by decide +kernel
theorem dX0_forget_4 : decode cX0_forget 4 = .ok (.if_icmp .ge 16, 3) := by decide +kernel
theorem dX0_forget_7 : decode cX0_forget 7 = .ok (.aload_n 0, 1) := by decide +kernel
theorem dX0_forget_8 : decode cX0_forget 8 = .ok (.getfield 18, 3) := by decide +kernel
theorem dX0_forget_11 : decode cX0_forget 11 = .ok (.iload_n 1, 1) := by decide +kernel
theorem dX0_forget_12 : decode cX0_forget 12 = .ok (.iconst (-1), 1) := by decide +kernel
theorem dX0_forget_13 : decode cX0_forget 13 = .ok (.iastore, 1) := by decide +kernel
theorem dX0_forget_14 : decode cX0_forget 14 = .ok (.iinc 1 1, 3) := by decide +kernel
theorem dX0_forget_17 : decode cX0_forget 17 = .ok (.goto (-15), 3) := by decide +kernel
theorem dX0_forget_20 : decode cX0_forget 20 = .ok (.return_, 1) := by decide +kernel
theorem dX0_atBest_0 : decode cX0_atBest 0 = .ok (.aload_n 1, 1) := by decide +kernel
theorem dX0_atBest_1 : decode cX0_atBest 1 = .ok (.iload_n 2, 1) := by decide +kernel
theorem dX0_atBest_2 : decode cX0_atBest 2 = .ok (.invokevirtual 21, 3) := by decide +kernel
theorem dX0_atBest_5 : decode cX0_atBest 5 = .ok (.bipush 6, 2) := by decide +kernel
theorem dX0_atBest_7 : decode cX0_atBest 7 = .ok (.if_icmp .le 6, 3) := by decide +kernel
theorem dX0_atBest_10 : decode cX0_atBest 10 = .ok (.bipush (-7), 2) := by decide +kernel
theorem dX0_atBest_12 : decode cX0_atBest 12 = .ok (.ireturn, 1) := by decide +kernel
theorem dX0_atBest_13 : decode cX0_atBest 13 = .ok (.aload_n 0, 1) := by decide +kernel
theorem dX0_atBest_14 : decode cX0_atBest 14 = .ok (.getfield 18, 3) := by decide +kernel
theorem dX0_atBest_17 : decode cX0_atBest 17 = .ok (.iload_n 2, 1) := by decide +kernel
theorem dX0_atBest_18 : decode cX0_atBest 18 = .ok (.iaload, 1) := by decide +kernel
theorem dX0_atBest_19 : decode cX0_atBest 19 = .ok (.iconst (-1), 1) := by decide +kernel
theorem dX0_atBest_20 : decode cX0_atBest 20 = .ok (.if_icmp .ne 15, 3) := by decide +kernel
theorem dX0_atBest_23 : decode cX0_atBest 23 = .ok (.aload_n 0, 1) := by decide +kernel
theorem dX0_atBest_24 : decode cX0_atBest 24 = .ok (.getfield 18, 3) := by decide +kernel
theorem dX0_atBest_27 : decode cX0_atBest 27 = .ok (.iload_n 2, 1) := by decide +kernel
theorem dX0_atBest_28 : decode cX0_atBest 28 = .ok (.aload_n 0, 1) := by decide +kernel
theorem dX0_atBest_29 : decode cX0_atBest 29 = .ok (.aload_n 1, 1) := by decide +kernel
theorem dX0_atBest_30 : decode cX0_atBest 30 = .ok (.iload_n 2, 1) := by decide +kernel
theorem dX0_atBest_31 : decode cX0_atBest 31 = .ok (.invokevirtual 27, 3) := by decide +kernel
theorem dX0_atBest_34 : decode cX0_atBest 34 = .ok (.iastore, 1) := by decide +kernel
theorem dX0_atBest_35 : decode cX0_atBest 35 = .ok (.aload_n 0, 1) := by decide +kernel
theorem dX0_atBest_36 : decode cX0_atBest 36 = .ok (.getfield 18, 3) := by decide +kernel
theorem dX0_atBest_39 : decode cX0_atBest 39 = .ok (.iload_n 2, 1) := by decide +kernel
theorem dX0_atBest_40 : decode cX0_atBest 40 = .ok (.iaload, 1) := by decide +kernel
theorem dX0_atBest_41 : decode cX0_atBest 41 = .ok (.ireturn, 1) := by decide +kernel
theorem dX0_leastOfAllOrders_0 : decode cX0_leastOfAllOrders 0 = .ok (.iconst 0, 1) := by decide +kernel
theorem dX0_leastOfAllOrders_1 : decode cX0_leastOfAllOrders 1 = .ok (.istore_n 3, 1) := by decide +kernel
theorem dX0_leastOfAllOrders_2 : decode cX0_leastOfAllOrders 2 = .ok (.iconst 1, 1) := by decide +kernel
theorem dX0_leastOfAllOrders_3 : decode cX0_leastOfAllOrders 3 = .ok (.istore 4, 2) := by decide +kernel
theorem dX0_leastOfAllOrders_5 : decode cX0_leastOfAllOrders 5 = .ok (.iconst 0, 1) := by decide +kernel
theorem dX0_leastOfAllOrders_6 : decode cX0_leastOfAllOrders 6 = .ok (.istore 5, 2) := by decide +kernel
theorem dX0_leastOfAllOrders_8 : decode cX0_leastOfAllOrders 8 = .ok (.iload 5, 2) := by decide +kernel
theorem dX0_leastOfAllOrders_10 : decode cX0_leastOfAllOrders 10 = .ok (.aload_n 1, 1) := by decide +kernel
theorem dX0_leastOfAllOrders_11 : decode cX0_leastOfAllOrders 11 = .ok (.getfield 31, 3) := by decide +kernel
theorem dX0_leastOfAllOrders_14 : decode cX0_leastOfAllOrders 14 = .ok (.if_icmp .ge 43, 3) := by decide +kernel
theorem dX0_leastOfAllOrders_17 : decode cX0_leastOfAllOrders 17 = .ok (.aload_n 1, 1) := by decide +kernel
theorem dX0_leastOfAllOrders_18 : decode cX0_leastOfAllOrders 18 = .ok (.getfield 34, 3) := by decide +kernel
theorem dX0_leastOfAllOrders_21 : decode cX0_leastOfAllOrders 21 = .ok (.iload 5, 2) := by decide +kernel
theorem dX0_leastOfAllOrders_23 : decode cX0_leastOfAllOrders 23 = .ok (.iaload, 1) := by decide +kernel
theorem dX0_leastOfAllOrders_24 : decode cX0_leastOfAllOrders 24 = .ok (.iload_n 2, 1) := by decide +kernel
theorem dX0_leastOfAllOrders_25 : decode cX0_leastOfAllOrders 25 = .ok (.if_icmp .ne 26, 3) := by decide +kernel
theorem dX0_leastOfAllOrders_28 : decode cX0_leastOfAllOrders 28 = .ok (.iload_n 3, 1) := by decide +kernel
theorem dX0_leastOfAllOrders_29 : decode cX0_leastOfAllOrders 29 = .ok (.bipush 6, 2) := by decide +kernel
theorem dX0_leastOfAllOrders_31 : decode cX0_leastOfAllOrders 31 = .ok (.if_icmp .ge 20, 3) := by decide +kernel
theorem dX0_leastOfAllOrders_34 : decode cX0_leastOfAllOrders 34 = .ok (.aload_n 0, 1) := by decide +kernel
theorem dX0_leastOfAllOrders_35 : decode cX0_leastOfAllOrders 35 = .ok (.getfield 9, 3) := by decide +kernel
theorem dX0_leastOfAllOrders_38 : decode cX0_leastOfAllOrders 38 = .ok (.iload_n 3, 1) := by decide +kernel
theorem dX0_leastOfAllOrders_39 : decode cX0_leastOfAllOrders 39 = .ok (.iload 5, 2) := by decide +kernel
theorem dX0_leastOfAllOrders_41 : decode cX0_leastOfAllOrders 41 = .ok (.iastore, 1) := by decide +kernel
theorem dX0_leastOfAllOrders_42 : decode cX0_leastOfAllOrders 42 = .ok (.iinc 3 1, 3) := by decide +kernel
theorem dX0_leastOfAllOrders_45 : decode cX0_leastOfAllOrders 45 = .ok (.iload 4, 2) := by decide +kernel
theorem dX0_leastOfAllOrders_47 : decode cX0_leastOfAllOrders 47 = .ok (.iload_n 3, 1) := by decide +kernel
theorem dX0_leastOfAllOrders_48 : decode cX0_leastOfAllOrders 48 = .ok (.imul, 1) := by decide +kernel
theorem dX0_leastOfAllOrders_49 : decode cX0_leastOfAllOrders 49 = .ok (.istore 4, 2) := by decide +kernel
theorem dX0_leastOfAllOrders_51 : decode cX0_leastOfAllOrders 51 = .ok (.iinc 5 1, 3) := by decide +kernel
theorem dX0_leastOfAllOrders_54 : decode cX0_leastOfAllOrders 54 = .ok (.goto (-46), 3) := by decide +kernel
theorem dX0_leastOfAllOrders_57 : decode cX0_leastOfAllOrders 57 = .ok (.aload_n 0, 1) := by decide +kernel
theorem dX0_leastOfAllOrders_58 : decode cX0_leastOfAllOrders 58 = .ok (.aload_n 1, 1) := by decide +kernel
theorem dX0_leastOfAllOrders_59 : decode cX0_leastOfAllOrders 59 = .ok (.iload_n 3, 1) := by decide +kernel
theorem dX0_leastOfAllOrders_60 : decode cX0_leastOfAllOrders 60 = .ok (.invokevirtual 37, 3) := by decide +kernel
theorem dX0_leastOfAllOrders_63 : decode cX0_leastOfAllOrders 63 = .ok (.istore 5, 2) := by decide +kernel
theorem dX0_leastOfAllOrders_65 : decode cX0_leastOfAllOrders 65 = .ok (.iconst 1, 1) := by decide +kernel
theorem dX0_leastOfAllOrders_66 : decode cX0_leastOfAllOrders 66 = .ok (.istore 6, 2) := by decide +kernel
theorem dX0_leastOfAllOrders_68 : decode cX0_leastOfAllOrders 68 = .ok (.iload 6, 2) := by decide +kernel
theorem dX0_leastOfAllOrders_70 : decode cX0_leastOfAllOrders 70 = .ok (.iload 4, 2) := by decide +kernel
theorem dX0_leastOfAllOrders_72 : decode cX0_leastOfAllOrders 72 = .ok (.if_icmp .ge 32, 3) := by decide +kernel
theorem dX0_leastOfAllOrders_75 : decode cX0_leastOfAllOrders 75 = .ok (.aload_n 0, 1) := by decide +kernel
theorem dX0_leastOfAllOrders_76 : decode cX0_leastOfAllOrders 76 = .ok (.getfield 9, 3) := by decide +kernel
theorem dX0_leastOfAllOrders_79 : decode cX0_leastOfAllOrders 79 = .ok (.iconst 0, 1) := by decide +kernel
theorem dX0_leastOfAllOrders_80 : decode cX0_leastOfAllOrders 80 = .ok (.iload_n 3, 1) := by decide +kernel
theorem dX0_leastOfAllOrders_81 : decode cX0_leastOfAllOrders 81 = .ok (.invokestatic 40, 3) := by decide +kernel
theorem dX0_leastOfAllOrders_84 : decode cX0_leastOfAllOrders 84 = .ok (.pop, 1) := by decide +kernel
theorem dX0_leastOfAllOrders_85 : decode cX0_leastOfAllOrders 85 = .ok (.iload 5, 2) := by decide +kernel
theorem dX0_leastOfAllOrders_87 : decode cX0_leastOfAllOrders 87 = .ok (.aload_n 0, 1) := by decide +kernel
theorem dX0_leastOfAllOrders_88 : decode cX0_leastOfAllOrders 88 = .ok (.aload_n 1, 1) := by decide +kernel
theorem dX0_leastOfAllOrders_89 : decode cX0_leastOfAllOrders 89 = .ok (.iload_n 3, 1) := by decide +kernel
theorem dX0_leastOfAllOrders_90 : decode cX0_leastOfAllOrders 90 = .ok (.invokevirtual 37, 3) := by decide +kernel
theorem dX0_leastOfAllOrders_93 : decode cX0_leastOfAllOrders 93 = .ok (.invokestatic 44, 3) := by decide +kernel
theorem dX0_leastOfAllOrders_96 : decode cX0_leastOfAllOrders 96 = .ok (.istore 5, 2) := by decide +kernel
theorem dX0_leastOfAllOrders_98 : decode cX0_leastOfAllOrders 98 = .ok (.iinc 6 1, 3) := by decide +kernel
theorem dX0_leastOfAllOrders_101 : decode cX0_leastOfAllOrders 101 = .ok (.goto (-33), 3) := by decide +kernel
theorem dX0_leastOfAllOrders_104 : decode cX0_leastOfAllOrders 104 = .ok (.iload 5, 2) := by decide +kernel
theorem dX0_leastOfAllOrders_106 : decode cX0_leastOfAllOrders 106 = .ok (.ireturn, 1) := by decide +kernel
theorem dX0_over_0 : decode cX0_over 0 = .ok (.iconst 0, 1) := by decide +kernel
theorem dX0_over_1 : decode cX0_over 1 = .ok (.istore_n 3, 1) := by decide +kernel
theorem dX0_over_2 : decode cX0_over 2 = .ok (.iconst 0, 1) := by decide +kernel
theorem dX0_over_3 : decode cX0_over 3 = .ok (.istore 4, 2) := by decide +kernel
theorem dX0_over_5 : decode cX0_over 5 = .ok (.iconst 0, 1) := by decide +kernel
theorem dX0_over_6 : decode cX0_over 6 = .ok (.istore 5, 2) := by decide +kernel
theorem dX0_over_8 : decode cX0_over 8 = .ok (.iload 5, 2) := by decide +kernel
theorem dX0_over_10 : decode cX0_over 10 = .ok (.iload_n 2, 1) := by decide +kernel
theorem dX0_over_11 : decode cX0_over 11 = .ok (.if_icmp .ge 54, 3) := by decide +kernel
theorem dX0_over_14 : decode cX0_over 14 = .ok (.aload_n 0, 1) := by decide +kernel
theorem dX0_over_15 : decode cX0_over 15 = .ok (.getfield 9, 3) := by decide +kernel
theorem dX0_over_18 : decode cX0_over 18 = .ok (.iload 5, 2) := by decide +kernel
theorem dX0_over_20 : decode cX0_over 20 = .ok (.iaload, 1) := by decide +kernel
theorem dX0_over_21 : decode cX0_over 21 = .ok (.istore 6, 2) := by decide +kernel
theorem dX0_over_23 : decode cX0_over 23 = .ok (.iload_n 3, 1) := by decide +kernel
theorem dX0_over_24 : decode cX0_over 24 = .ok (.aload_n 1, 1) := by decide +kernel
theorem dX0_over_25 : decode cX0_over 25 = .ok (.getfield 50, 3) := by decide +kernel
theorem dX0_over_28 : decode cX0_over 28 = .ok (.iload 6, 2) := by decide +kernel
theorem dX0_over_30 : decode cX0_over 30 = .ok (.iaload, 1) := by decide +kernel
theorem dX0_over_31 : decode cX0_over 31 = .ok (.invokestatic 53, 3) := by decide +kernel
theorem dX0_over_34 : decode cX0_over 34 = .ok (.aload_n 1, 1) := by decide +kernel
theorem dX0_over_35 : decode cX0_over 35 = .ok (.getfield 56, 3) := by decide +kernel
theorem dX0_over_38 : decode cX0_over 38 = .ok (.iload 6, 2) := by decide +kernel
theorem dX0_over_40 : decode cX0_over 40 = .ok (.iaload, 1) := by decide +kernel
theorem dX0_over_41 : decode cX0_over 41 = .ok (.iadd, 1) := by decide +kernel
theorem dX0_over_42 : decode cX0_over 42 = .ok (.istore_n 3, 1) := by decide +kernel
theorem dX0_over_43 : decode cX0_over 43 = .ok (.iload 4, 2) := by decide +kernel
theorem dX0_over_45 : decode cX0_over 45 = .ok (.iload_n 3, 1) := by decide +kernel
theorem dX0_over_46 : decode cX0_over 46 = .ok (.aload_n 1, 1) := by decide +kernel
theorem dX0_over_47 : decode cX0_over 47 = .ok (.getfield 59, 3) := by decide +kernel
theorem dX0_over_50 : decode cX0_over 50 = .ok (.iload 6, 2) := by decide +kernel
theorem dX0_over_52 : decode cX0_over 52 = .ok (.iaload, 1) := by decide +kernel
theorem dX0_over_53 : decode cX0_over 53 = .ok (.iadd, 1) := by decide +kernel
theorem dX0_over_54 : decode cX0_over 54 = .ok (.invokestatic 53, 3) := by decide +kernel
theorem dX0_over_57 : decode cX0_over 57 = .ok (.istore 4, 2) := by decide +kernel
theorem dX0_over_59 : decode cX0_over 59 = .ok (.iinc 5 1, 3) := by decide +kernel
theorem dX0_over_62 : decode cX0_over 62 = .ok (.goto (-54), 3) := by decide +kernel
theorem dX0_over_65 : decode cX0_over 65 = .ok (.iload 4, 2) := by decide +kernel
theorem dX0_over_67 : decode cX0_over 67 = .ok (.ireturn, 1) := by decide +kernel
theorem dX0_preempted_0 : decode cX0_preempted 0 = .ok (.iconst 0, 1) := by decide +kernel
theorem dX0_preempted_1 : decode cX0_preempted 1 = .ok (.istore_n 3, 1) := by decide +kernel
theorem dX0_preempted_2 : decode cX0_preempted 2 = .ok (.iload_n 3, 1) := by decide +kernel
theorem dX0_preempted_3 : decode cX0_preempted 3 = .ok (.aload_n 1, 1) := by decide +kernel
theorem dX0_preempted_4 : decode cX0_preempted 4 = .ok (.getfield 31, 3) := by decide +kernel
theorem dX0_preempted_7 : decode cX0_preempted 7 = .ok (.if_icmp .ge 35, 3) := by decide +kernel
theorem dX0_preempted_10 : decode cX0_preempted 10 = .ok (.aload_n 0, 1) := by decide +kernel
theorem dX0_preempted_11 : decode cX0_preempted 11 = .ok (.getfield 15, 3) := by decide +kernel
theorem dX0_preempted_14 : decode cX0_preempted 14 = .ok (.iload_n 3, 1) := by decide +kernel
theorem dX0_preempted_15 : decode cX0_preempted 15 = .ok (.aload_n 1, 1) := by decide +kernel
theorem dX0_preempted_16 : decode cX0_preempted 16 = .ok (.getfield 34, 3) := by decide +kernel
theorem dX0_preempted_19 : decode cX0_preempted 19 = .ok (.iload_n 3, 1) := by decide +kernel
theorem dX0_preempted_20 : decode cX0_preempted 20 = .ok (.iaload, 1) := by decide +kernel
theorem dX0_preempted_21 : decode cX0_preempted 21 = .ok (.iload_n 2, 1) := by decide +kernel
theorem dX0_preempted_22 : decode cX0_preempted 22 = .ok (.if_icmp .ne 12, 3) := by decide +kernel
theorem dX0_preempted_25 : decode cX0_preempted 25 = .ok (.aload_n 1, 1) := by decide +kernel
theorem dX0_preempted_26 : decode cX0_preempted 26 = .ok (.getfield 56, 3) := by decide +kernel
theorem dX0_preempted_29 : decode cX0_preempted 29 = .ok (.iload_n 3, 1) := by decide +kernel
theorem dX0_preempted_30 : decode cX0_preempted 30 = .ok (.iaload, 1) := by decide +kernel
theorem dX0_preempted_31 : decode cX0_preempted 31 = .ok (.goto 4, 3) := by decide +kernel
theorem dX0_preempted_34 : decode cX0_preempted 34 = .ok (.iconst 0, 1) := by decide +kernel
theorem dX0_preempted_35 : decode cX0_preempted 35 = .ok (.iastore, 1) := by decide +kernel
theorem dX0_preempted_36 : decode cX0_preempted 36 = .ok (.iinc 3 1, 3) := by decide +kernel
theorem dX0_preempted_39 : decode cX0_preempted 39 = .ok (.goto (-37), 3) := by decide +kernel
theorem dX0_preempted_42 : decode cX0_preempted 42 = .ok (.iconst 0, 1) := by decide +kernel
theorem dX0_preempted_43 : decode cX0_preempted 43 = .ok (.istore_n 3, 1) := by decide +kernel
theorem dX0_preempted_44 : decode cX0_preempted 44 = .ok (.iconst 0, 1) := by decide +kernel
theorem dX0_preempted_45 : decode cX0_preempted 45 = .ok (.istore 4, 2) := by decide +kernel
theorem dX0_preempted_47 : decode cX0_preempted 47 = .ok (.iconst 0, 1) := by decide +kernel
theorem dX0_preempted_48 : decode cX0_preempted 48 = .ok (.istore 5, 2) := by decide +kernel
theorem dX0_preempted_50 : decode cX0_preempted 50 = .ok (.iload 5, 2) := by decide +kernel
theorem dX0_preempted_52 : decode cX0_preempted 52 = .ok (.bipush 48, 2) := by decide +kernel
theorem dX0_preempted_54 : decode cX0_preempted 54 = .ok (.if_icmp .gt 129, 3) := by decide +kernel
theorem dX0_preempted_57 : decode cX0_preempted 57 = .ok (.aload_n 0, 1) := by decide +kernel
theorem dX0_preempted_58 : decode cX0_preempted 58 = .ok (.aload_n 1, 1) := by decide +kernel
theorem dX0_preempted_59 : decode cX0_preempted 59 = .ok (.iload_n 3, 1) := by decide +kernel
theorem dX0_preempted_60 : decode cX0_preempted 60 = .ok (.invokevirtual 62, 3) := by decide +kernel
theorem dX0_preempted_63 : decode cX0_preempted 63 = .ok (.istore 6, 2) := by decide +kernel
theorem dX0_preempted_65 : decode cX0_preempted 65 = .ok (.aload_n 0, 1) := by decide +kernel
theorem dX0_preempted_66 : decode cX0_preempted 66 = .ok (.aload_n 1, 1) := by decide +kernel
theorem dX0_preempted_67 : decode cX0_preempted 67 = .ok (.iload_n 3, 1) := by decide +kernel
theorem dX0_preempted_68 : decode cX0_preempted 68 = .ok (.invokevirtual 65, 3) := by decide +kernel
theorem dX0_preempted_71 : decode cX0_preempted 71 = .ok (.istore 7, 2) := by decide +kernel
theorem dX0_preempted_73 : decode cX0_preempted 73 = .ok (.iload 6, 2) := by decide +kernel
theorem dX0_preempted_75 : decode cX0_preempted 75 = .ok (.iconst (-1), 1) := by decide +kernel
theorem dX0_preempted_76 : decode cX0_preempted 76 = .ok (.if_icmp .eq 86, 3) := by decide +kernel
theorem dX0_preempted_79 : decode cX0_preempted 79 = .ok (.iload 7, 2) := by decide +kernel
theorem dX0_preempted_81 : decode cX0_preempted 81 = .ok (.iconst (-1), 1) := by decide +kernel
theorem dX0_preempted_82 : decode cX0_preempted 82 = .ok (.if_icmp .ne 13, 3) := by decide +kernel
theorem dX0_preempted_85 : decode cX0_preempted 85 = .ok (.aload_n 0, 1) := by decide +kernel
theorem dX0_preempted_86 : decode cX0_preempted 86 = .ok (.getfield 15, 3) := by decide +kernel
theorem dX0_preempted_89 : decode cX0_preempted 89 = .ok (.iload 6, 2) := by decide +kernel
theorem dX0_preempted_91 : decode cX0_preempted 91 = .ok (.iaload, 1) := by decide +kernel
theorem dX0_preempted_92 : decode cX0_preempted 92 = .ok (.goto 17, 3) := by decide +kernel
theorem dX0_preempted_95 : decode cX0_preempted 95 = .ok (.aload_n 0, 1) := by decide +kernel
theorem dX0_preempted_96 : decode cX0_preempted 96 = .ok (.getfield 15, 3) := by decide +kernel
theorem dX0_preempted_99 : decode cX0_preempted 99 = .ok (.iload 6, 2) := by decide +kernel
theorem dX0_preempted_101 : decode cX0_preempted 101 = .ok (.iaload, 1) := by decide +kernel
theorem dX0_preempted_102 : decode cX0_preempted 102 = .ok (.iload 7, 2) := by decide +kernel
theorem dX0_preempted_104 : decode cX0_preempted 104 = .ok (.iload_n 3, 1) := by decide +kernel
theorem dX0_preempted_105 : decode cX0_preempted 105 = .ok (.isub, 1) := by decide +kernel
theorem dX0_preempted_106 : decode cX0_preempted 106 = .ok (.invokestatic 44, 3) := by decide +kernel
theorem dX0_preempted_109 : decode cX0_preempted 109 = .ok (.istore 8, 2) := by decide +kernel
theorem dX0_preempted_111 : decode cX0_preempted 111 = .ok (.aload_n 0, 1) := by decide +kernel
theorem dX0_preempted_112 : decode cX0_preempted 112 = .ok (.getfield 15, 3) := by decide +kernel
theorem dX0_preempted_115 : decode cX0_preempted 115 = .ok (.iload 6, 2) := by decide +kernel
theorem dX0_preempted_117 : decode cX0_preempted 117 = .ok (.dup2, 1) := by decide +kernel
theorem dX0_preempted_118 : decode cX0_preempted 118 = .ok (.iaload, 1) := by decide +kernel
theorem dX0_preempted_119 : decode cX0_preempted 119 = .ok (.iload 8, 2) := by decide +kernel
theorem dX0_preempted_121 : decode cX0_preempted 121 = .ok (.isub, 1) := by decide +kernel
theorem dX0_preempted_122 : decode cX0_preempted 122 = .ok (.iastore, 1) := by decide +kernel
theorem dX0_preempted_123 : decode cX0_preempted 123 = .ok (.iload_n 3, 1) := by decide +kernel
theorem dX0_preempted_124 : decode cX0_preempted 124 = .ok (.iload 8, 2) := by decide +kernel
theorem dX0_preempted_126 : decode cX0_preempted 126 = .ok (.iadd, 1) := by decide +kernel
theorem dX0_preempted_127 : decode cX0_preempted 127 = .ok (.istore_n 3, 1) := by decide +kernel
theorem dX0_preempted_128 : decode cX0_preempted 128 = .ok (.aload_n 0, 1) := by decide +kernel
theorem dX0_preempted_129 : decode cX0_preempted 129 = .ok (.getfield 15, 3) := by decide +kernel
theorem dX0_preempted_132 : decode cX0_preempted 132 = .ok (.iload 6, 2) := by decide +kernel
theorem dX0_preempted_134 : decode cX0_preempted 134 = .ok (.iaload, 1) := by decide +kernel
theorem dX0_preempted_135 : decode cX0_preempted 135 = .ok (.ifCond .ne 20, 3) := by decide +kernel
theorem dX0_preempted_138 : decode cX0_preempted 138 = .ok (.iload 4, 2) := by decide +kernel
theorem dX0_preempted_140 : decode cX0_preempted 140 = .ok (.iload_n 3, 1) := by decide +kernel
theorem dX0_preempted_141 : decode cX0_preempted 141 = .ok (.aload_n 1, 1) := by decide +kernel
theorem dX0_preempted_142 : decode cX0_preempted 142 = .ok (.getfield 59, 3) := by decide +kernel
theorem dX0_preempted_145 : decode cX0_preempted 145 = .ok (.iload 6, 2) := by decide +kernel
theorem dX0_preempted_147 : decode cX0_preempted 147 = .ok (.iaload, 1) := by decide +kernel
theorem dX0_preempted_148 : decode cX0_preempted 148 = .ok (.iadd, 1) := by decide +kernel
theorem dX0_preempted_149 : decode cX0_preempted 149 = .ok (.invokestatic 53, 3) := by decide +kernel
theorem dX0_preempted_152 : decode cX0_preempted 152 = .ok (.goto 5, 3) := by decide +kernel
theorem dX0_preempted_155 : decode cX0_preempted 155 = .ok (.iload 4, 2) := by decide +kernel
theorem dX0_preempted_157 : decode cX0_preempted 157 = .ok (.istore 4, 2) := by decide +kernel
theorem dX0_preempted_159 : decode cX0_preempted 159 = .ok (.goto 18, 3) := by decide +kernel
theorem dX0_preempted_162 : decode cX0_preempted 162 = .ok (.iload 7, 2) := by decide +kernel
theorem dX0_preempted_164 : decode cX0_preempted 164 = .ok (.iconst (-1), 1) := by decide +kernel
theorem dX0_preempted_165 : decode cX0_preempted 165 = .ok (.if_icmp .eq 9, 3) := by decide +kernel
theorem dX0_preempted_168 : decode cX0_preempted 168 = .ok (.iload 7, 2) := by decide +kernel
theorem dX0_preempted_170 : decode cX0_preempted 170 = .ok (.istore_n 3, 1) := by decide +kernel
theorem dX0_preempted_171 : decode cX0_preempted 171 = .ok (.goto 6, 3) := by decide +kernel
theorem dX0_preempted_174 : decode cX0_preempted 174 = .ok (.iload 4, 2) := by decide +kernel
theorem dX0_preempted_176 : decode cX0_preempted 176 = .ok (.ireturn, 1) := by decide +kernel
theorem dX0_preempted_177 : decode cX0_preempted 177 = .ok (.iinc 5 1, 3) := by decide +kernel
theorem dX0_preempted_180 : decode cX0_preempted 180 = .ok (.goto (-130), 3) := by decide +kernel
theorem dX0_preempted_183 : decode cX0_preempted 183 = .ok (.iload 4, 2) := by decide +kernel
theorem dX0_preempted_185 : decode cX0_preempted 185 = .ok (.ireturn, 1) := by decide +kernel
theorem dX0_workedOn_0 : decode cX0_workedOn 0 = .ok (.iconst (-1), 1) := by decide +kernel
theorem dX0_workedOn_1 : decode cX0_workedOn 1 = .ok (.istore_n 3, 1) := by decide +kernel
theorem dX0_workedOn_2 : decode cX0_workedOn 2 = .ok (.iconst 0, 1) := by decide +kernel
theorem dX0_workedOn_3 : decode cX0_workedOn 3 = .ok (.istore 4, 2) := by decide +kernel
theorem dX0_workedOn_5 : decode cX0_workedOn 5 = .ok (.iload 4, 2) := by decide +kernel
theorem dX0_workedOn_7 : decode cX0_workedOn 7 = .ok (.aload_n 1, 1) := by decide +kernel
theorem dX0_workedOn_8 : decode cX0_workedOn 8 = .ok (.getfield 31, 3) := by decide +kernel
theorem dX0_workedOn_11 : decode cX0_workedOn 11 = .ok (.if_icmp .ge 54, 3) := by decide +kernel
theorem dX0_workedOn_14 : decode cX0_workedOn 14 = .ok (.aload_n 0, 1) := by decide +kernel
theorem dX0_workedOn_15 : decode cX0_workedOn 15 = .ok (.getfield 15, 3) := by decide +kernel
theorem dX0_workedOn_18 : decode cX0_workedOn 18 = .ok (.iload 4, 2) := by decide +kernel
theorem dX0_workedOn_20 : decode cX0_workedOn 20 = .ok (.iaload, 1) := by decide +kernel
theorem dX0_workedOn_21 : decode cX0_workedOn 21 = .ok (.ifCond .le 38, 3) := by decide +kernel
theorem dX0_workedOn_24 : decode cX0_workedOn 24 = .ok (.aload_n 1, 1) := by decide +kernel
theorem dX0_workedOn_25 : decode cX0_workedOn 25 = .ok (.getfield 50, 3) := by decide +kernel
theorem dX0_workedOn_28 : decode cX0_workedOn 28 = .ok (.iload 4, 2) := by decide +kernel
theorem dX0_workedOn_30 : decode cX0_workedOn 30 = .ok (.iaload, 1) := by decide +kernel
theorem dX0_workedOn_31 : decode cX0_workedOn 31 = .ok (.iload_n 2, 1) := by decide +kernel
theorem dX0_workedOn_32 : decode cX0_workedOn 32 = .ok (.if_icmp .gt 27, 3) := by decide +kernel
theorem dX0_workedOn_35 : decode cX0_workedOn 35 = .ok (.iload_n 3, 1) := by decide +kernel
theorem dX0_workedOn_36 : decode cX0_workedOn 36 = .ok (.iconst (-1), 1) := by decide +kernel
theorem dX0_workedOn_37 : decode cX0_workedOn 37 = .ok (.if_icmp .eq 19, 3) := by decide +kernel
theorem dX0_workedOn_40 : decode cX0_workedOn 40 = .ok (.aload_n 1, 1) := by decide +kernel
theorem dX0_workedOn_41 : decode cX0_workedOn 41 = .ok (.getfield 59, 3) := by decide +kernel
theorem dX0_workedOn_44 : decode cX0_workedOn 44 = .ok (.iload 4, 2) := by decide +kernel
theorem dX0_workedOn_46 : decode cX0_workedOn 46 = .ok (.iaload, 1) := by decide +kernel
theorem dX0_workedOn_47 : decode cX0_workedOn 47 = .ok (.aload_n 1, 1) := by decide +kernel
theorem dX0_workedOn_48 : decode cX0_workedOn 48 = .ok (.getfield 59, 3) := by decide +kernel
theorem dX0_workedOn_51 : decode cX0_workedOn 51 = .ok (.iload_n 3, 1) := by decide +kernel
theorem dX0_workedOn_52 : decode cX0_workedOn 52 = .ok (.iaload, 1) := by decide +kernel
theorem dX0_workedOn_53 : decode cX0_workedOn 53 = .ok (.if_icmp .le 6, 3) := by decide +kernel
theorem dX0_workedOn_56 : decode cX0_workedOn 56 = .ok (.iload 4, 2) := by decide +kernel
theorem dX0_workedOn_58 : decode cX0_workedOn 58 = .ok (.istore_n 3, 1) := by decide +kernel
theorem dX0_workedOn_59 : decode cX0_workedOn 59 = .ok (.iinc 4 1, 3) := by decide +kernel
theorem dX0_workedOn_62 : decode cX0_workedOn 62 = .ok (.goto (-57), 3) := by decide +kernel
theorem dX0_workedOn_65 : decode cX0_workedOn 65 = .ok (.iload_n 3, 1) := by decide +kernel
theorem dX0_workedOn_66 : decode cX0_workedOn 66 = .ok (.ireturn, 1) := by decide +kernel
theorem dX0_nextHead_0 : decode cX0_nextHead 0 = .ok (.iconst (-1), 1) := by decide +kernel
theorem dX0_nextHead_1 : decode cX0_nextHead 1 = .ok (.istore_n 3, 1) := by decide +kernel
theorem dX0_nextHead_2 : decode cX0_nextHead 2 = .ok (.iconst 0, 1) := by decide +kernel
theorem dX0_nextHead_3 : decode cX0_nextHead 3 = .ok (.istore 4, 2) := by decide +kernel
theorem dX0_nextHead_5 : decode cX0_nextHead 5 = .ok (.iload 4, 2) := by decide +kernel
theorem dX0_nextHead_7 : decode cX0_nextHead 7 = .ok (.aload_n 1, 1) := by decide +kernel
theorem dX0_nextHead_8 : decode cX0_nextHead 8 = .ok (.getfield 31, 3) := by decide +kernel
theorem dX0_nextHead_11 : decode cX0_nextHead 11 = .ok (.if_icmp .ge 54, 3) := by decide +kernel
theorem dX0_nextHead_14 : decode cX0_nextHead 14 = .ok (.aload_n 0, 1) := by decide +kernel
theorem dX0_nextHead_15 : decode cX0_nextHead 15 = .ok (.getfield 15, 3) := by decide +kernel
theorem dX0_nextHead_18 : decode cX0_nextHead 18 = .ok (.iload 4, 2) := by decide +kernel
theorem dX0_nextHead_20 : decode cX0_nextHead 20 = .ok (.iaload, 1) := by decide +kernel
theorem dX0_nextHead_21 : decode cX0_nextHead 21 = .ok (.ifCond .le 38, 3) := by decide +kernel
theorem dX0_nextHead_24 : decode cX0_nextHead 24 = .ok (.aload_n 1, 1) := by decide +kernel
theorem dX0_nextHead_25 : decode cX0_nextHead 25 = .ok (.getfield 50, 3) := by decide +kernel
theorem dX0_nextHead_28 : decode cX0_nextHead 28 = .ok (.iload 4, 2) := by decide +kernel
theorem dX0_nextHead_30 : decode cX0_nextHead 30 = .ok (.iaload, 1) := by decide +kernel
theorem dX0_nextHead_31 : decode cX0_nextHead 31 = .ok (.iload_n 2, 1) := by decide +kernel
theorem dX0_nextHead_32 : decode cX0_nextHead 32 = .ok (.if_icmp .le 27, 3) := by decide +kernel
theorem dX0_nextHead_35 : decode cX0_nextHead 35 = .ok (.iload_n 3, 1) := by decide +kernel
theorem dX0_nextHead_36 : decode cX0_nextHead 36 = .ok (.iconst (-1), 1) := by decide +kernel
theorem dX0_nextHead_37 : decode cX0_nextHead 37 = .ok (.if_icmp .eq 14, 3) := by decide +kernel
theorem dX0_nextHead_40 : decode cX0_nextHead 40 = .ok (.aload_n 1, 1) := by decide +kernel
theorem dX0_nextHead_41 : decode cX0_nextHead 41 = .ok (.getfield 50, 3) := by decide +kernel
theorem dX0_nextHead_44 : decode cX0_nextHead 44 = .ok (.iload 4, 2) := by decide +kernel
theorem dX0_nextHead_46 : decode cX0_nextHead 46 = .ok (.iaload, 1) := by decide +kernel
theorem dX0_nextHead_47 : decode cX0_nextHead 47 = .ok (.iload_n 3, 1) := by decide +kernel
theorem dX0_nextHead_48 : decode cX0_nextHead 48 = .ok (.if_icmp .ge 11, 3) := by decide +kernel
theorem dX0_nextHead_51 : decode cX0_nextHead 51 = .ok (.aload_n 1, 1) := by decide +kernel
theorem dX0_nextHead_52 : decode cX0_nextHead 52 = .ok (.getfield 50, 3) := by decide +kernel
theorem dX0_nextHead_55 : decode cX0_nextHead 55 = .ok (.iload 4, 2) := by decide +kernel
theorem dX0_nextHead_57 : decode cX0_nextHead 57 = .ok (.iaload, 1) := by decide +kernel
theorem dX0_nextHead_58 : decode cX0_nextHead 58 = .ok (.istore_n 3, 1) := by decide +kernel
theorem dX0_nextHead_59 : decode cX0_nextHead 59 = .ok (.iinc 4 1, 3) := by decide +kernel
theorem dX0_nextHead_62 : decode cX0_nextHead 62 = .ok (.goto (-57), 3) := by decide +kernel
theorem dX0_nextHead_65 : decode cX0_nextHead 65 = .ok (.iload_n 3, 1) := by decide +kernel
theorem dX0_nextHead_66 : decode cX0_nextHead 66 = .ok (.ireturn, 1) := by decide +kernel
theorem dX1_init_0 : decode cX1_init 0 = .ok (.aload_n 0, 1) := by decide +kernel
theorem dX1_init_1 : decode cX1_init 1 = .ok (.invokespecial 3, 3) := by decide +kernel
theorem dX1_init_4 : decode cX1_init 4 = .ok (.aload_n 0, 1) := by decide +kernel
theorem dX1_init_5 : decode cX1_init 5 = .ok (.bipush 24, 2) := by decide +kernel
theorem dX1_init_7 : decode cX1_init 7 = .ok (.newarray .int, 2) := by decide +kernel
theorem dX1_init_9 : decode cX1_init 9 = .ok (.putfield 9, 3) := by decide +kernel
theorem dX1_init_12 : decode cX1_init 12 = .ok (.aload_n 0, 1) := by decide +kernel
theorem dX1_init_13 : decode cX1_init 13 = .ok (.iconst 5, 1) := by decide +kernel
theorem dX1_init_14 : decode cX1_init 14 = .ok (.newarray .int, 2) := by decide +kernel
theorem dX1_init_16 : decode cX1_init 16 = .ok (.putfield 15, 3) := by decide +kernel
theorem dX1_init_19 : decode cX1_init 19 = .ok (.aload_n 0, 1) := by decide +kernel
theorem dX1_init_20 : decode cX1_init 20 = .ok (.iconst 5, 1) := by decide +kernel
theorem dX1_init_21 : decode cX1_init 21 = .ok (.newarray .int, 2) := by decide +kernel
theorem dX1_init_23 : decode cX1_init 23 = .ok (.putfield 18, 3) := by decide +kernel
theorem dX1_init_26 : decode cX1_init 26 = .ok (.aload_n 0, 1) := by decide +kernel
theorem dX1_init_27 : decode cX1_init 27 = .ok (.bipush 6, 2) := by decide +kernel
theorem dX1_init_29 : decode cX1_init 29 = .ok (.newarray .int, 2) := by decide +kernel
theorem dX1_init_31 : decode cX1_init 31 = .ok (.putfield 21, 3) := by decide +kernel
theorem dX1_init_34 : decode cX1_init 34 = .ok (.aload_n 0, 1) := by decide +kernel
theorem dX1_init_35 : decode cX1_init 35 = .ok (.bipush 24, 2) := by decide +kernel
theorem dX1_init_37 : decode cX1_init 37 = .ok (.newarray .boolean, 2) := by decide +kernel
theorem dX1_init_39 : decode cX1_init 39 = .ok (.putfield 24, 3) := by decide +kernel
theorem dX1_init_42 : decode cX1_init 42 = .ok (.aload_n 0, 1) := by decide +kernel
theorem dX1_init_43 : decode cX1_init 43 = .ok (.iconst 0, 1) := by decide +kernel
theorem dX1_init_44 : decode cX1_init 44 = .ok (.putfield 28, 3) := by decide +kernel
theorem dX1_init_47 : decode cX1_init 47 = .ok (.return_, 1) := by decide +kernel
theorem dX1_lay_0 : decode cX1_lay 0 = .ok (.aload_n 0, 1) := by decide +kernel
theorem dX1_lay_1 : decode cX1_lay 1 = .ok (.invokevirtual 32, 3) := by decide +kernel
theorem dX1_lay_4 : decode cX1_lay 4 = .ok (.iconst 0, 1) := by decide +kernel
theorem dX1_lay_5 : decode cX1_lay 5 = .ok (.istore_n 3, 1) := by decide +kernel
theorem dX1_lay_6 : decode cX1_lay 6 = .ok (.iload_n 3, 1) := by decide +kernel
theorem dX1_lay_7 : decode cX1_lay 7 = .ok (.aload_n 1, 1) := by decide +kernel
theorem dX1_lay_8 : decode cX1_lay 8 = .ok (.getfield 35, 3) := by decide +kernel
theorem dX1_lay_11 : decode cX1_lay 11 = .ok (.if_icmp .ge 31, 3) := by decide +kernel
theorem dX1_lay_14 : decode cX1_lay 14 = .ok (.aload_n 0, 1) := by decide +kernel
theorem dX1_lay_15 : decode cX1_lay 15 = .ok (.aload_n 1, 1) := by decide +kernel
theorem dX1_lay_16 : decode cX1_lay 16 = .ok (.iload_n 2, 1) := by decide +kernel
theorem dX1_lay_17 : decode cX1_lay 17 = .ok (.invokevirtual 40, 3) := by decide +kernel
theorem dX1_lay_20 : decode cX1_lay 20 = .ok (.istore 4, 2) := by decide +kernel
theorem dX1_lay_22 : decode cX1_lay 22 = .ok (.iload 4, 2) := by decide +kernel
theorem dX1_lay_24 : decode cX1_lay 24 = .ok (.iconst (-1), 1) := by decide +kernel
theorem dX1_lay_25 : decode cX1_lay 25 = .ok (.if_icmp .ne 4, 3) := by decide +kernel
theorem dX1_lay_28 : decode cX1_lay 28 = .ok (.return_, 1) := by decide +kernel
theorem dX1_lay_29 : decode cX1_lay 29 = .ok (.aload_n 0, 1) := by decide +kernel
theorem dX1_lay_30 : decode cX1_lay 30 = .ok (.aload_n 1, 1) := by decide +kernel
theorem dX1_lay_31 : decode cX1_lay 31 = .ok (.iload 4, 2) := by decide +kernel
theorem dX1_lay_33 : decode cX1_lay 33 = .ok (.invokevirtual 44, 3) := by decide +kernel
theorem dX1_lay_36 : decode cX1_lay 36 = .ok (.iinc 3 1, 3) := by decide +kernel
theorem dX1_lay_39 : decode cX1_lay 39 = .ok (.goto (-33), 3) := by decide +kernel
theorem dX1_lay_42 : decode cX1_lay 42 = .ok (.return_, 1) := by decide +kernel
theorem dX1_clear_0 : decode cX1_clear 0 = .ok (.aload_n 0, 1) := by decide +kernel
theorem dX1_clear_1 : decode cX1_clear 1 = .ok (.iconst 0, 1) := by decide +kernel
theorem dX1_clear_2 : decode cX1_clear 2 = .ok (.putfield 28, 3) := by decide +kernel
theorem dX1_clear_5 : decode cX1_clear 5 = .ok (.iconst 0, 1) := by decide +kernel
theorem dX1_clear_6 : decode cX1_clear 6 = .ok (.istore_n 1, 1) := by decide +kernel
theorem dX1_clear_7 : decode cX1_clear 7 = .ok (.iload_n 1, 1) := by decide +kernel
theorem dX1_clear_8 : decode cX1_clear 8 = .ok (.iconst 5, 1) := by decide +kernel
theorem dX1_clear_9 : decode cX1_clear 9 = .ok (.if_icmp .ge 23, 3) := by decide +kernel
theorem dX1_clear_12 : decode cX1_clear 12 = .ok (.aload_n 0, 1) := by decide +kernel
theorem dX1_clear_13 : decode cX1_clear 13 = .ok (.getfield 15, 3) := by decide +kernel
theorem dX1_clear_16 : decode cX1_clear 16 = .ok (.iload_n 1, 1) := by decide +kernel
theorem dX1_clear_17 : decode cX1_clear 17 = .ok (.iconst 0, 1) := by decide +kernel
theorem dX1_clear_18 : decode cX1_clear 18 = .ok (.iastore, 1) := by decide +kernel
theorem dX1_clear_19 : decode cX1_clear 19 = .ok (.aload_n 0, 1) := by decide +kernel
theorem dX1_clear_20 : decode cX1_clear 20 = .ok (.getfield 18, 3) := by decide +kernel
theorem dX1_clear_23 : decode cX1_clear 23 = .ok (.iload_n 1, 1) := by decide +kernel
theorem dX1_clear_24 : decode cX1_clear 24 = .ok (.iconst 0, 1) := by decide +kernel
theorem dX1_clear_25 : decode cX1_clear 25 = .ok (.iastore, 1) := by decide +kernel
theorem dX1_clear_26 : decode cX1_clear 26 = .ok (.iinc 1 1, 3) := by decide +kernel
theorem dX1_clear_29 : decode cX1_clear 29 = .ok (.goto (-22), 3) := by decide +kernel
theorem dX1_clear_32 : decode cX1_clear 32 = .ok (.iconst 0, 1) := by decide +kernel
theorem dX1_clear_33 : decode cX1_clear 33 = .ok (.istore_n 1, 1) := by decide +kernel
theorem dX1_clear_34 : decode cX1_clear 34 = .ok (.iload_n 1, 1) := by decide +kernel
theorem dX1_clear_35 : decode cX1_clear 35 = .ok (.bipush 6, 2) := by decide +kernel
theorem dX1_clear_37 : decode cX1_clear 37 = .ok (.if_icmp .ge 16, 3) := by decide +kernel
theorem dX1_clear_40 : decode cX1_clear 40 = .ok (.aload_n 0, 1) := by decide +kernel
theorem dX1_clear_41 : decode cX1_clear 41 = .ok (.getfield 21, 3) := by decide +kernel
theorem dX1_clear_44 : decode cX1_clear 44 = .ok (.iload_n 1, 1) := by decide +kernel
theorem dX1_clear_45 : decode cX1_clear 45 = .ok (.iconst 0, 1) := by decide +kernel
theorem dX1_clear_46 : decode cX1_clear 46 = .ok (.iastore, 1) := by decide +kernel
theorem dX1_clear_47 : decode cX1_clear 47 = .ok (.iinc 1 1, 3) := by decide +kernel
theorem dX1_clear_50 : decode cX1_clear 50 = .ok (.goto (-16), 3) := by decide +kernel
theorem dX1_clear_53 : decode cX1_clear 53 = .ok (.iconst 0, 1) := by decide +kernel
theorem dX1_clear_54 : decode cX1_clear 54 = .ok (.istore_n 1, 1) := by decide +kernel
theorem dX1_clear_55 : decode cX1_clear 55 = .ok (.iload_n 1, 1) := by decide +kernel
theorem dX1_clear_56 : decode cX1_clear 56 = .ok (.bipush 24, 2) := by decide +kernel
theorem dX1_clear_58 : decode cX1_clear 58 = .ok (.if_icmp .ge 16, 3) := by decide +kernel
theorem dX1_clear_61 : decode cX1_clear 61 = .ok (.aload_n 0, 1) := by decide +kernel
theorem dX1_clear_62 : decode cX1_clear 62 = .ok (.getfield 24, 3) := by decide +kernel
theorem dX1_clear_65 : decode cX1_clear 65 = .ok (.iload_n 1, 1) := by decide +kernel
theorem dX1_clear_66 : decode cX1_clear 66 = .ok (.iconst 0, 1) := by decide +kernel
theorem dX1_clear_67 : decode cX1_clear 67 = .ok (.bastore, 1) := by decide +kernel
theorem dX1_clear_68 : decode cX1_clear 68 = .ok (.iinc 1 1, 3) := by decide +kernel
theorem dX1_clear_71 : decode cX1_clear 71 = .ok (.goto (-16), 3) := by decide +kernel
theorem dX1_clear_74 : decode cX1_clear 74 = .ok (.return_, 1) := by decide +kernel
theorem dX1_choose_0 : decode cX1_choose 0 = .ok (.iconst (-1), 1) := by decide +kernel
theorem dX1_choose_1 : decode cX1_choose 1 = .ok (.istore_n 3, 1) := by decide +kernel
theorem dX1_choose_2 : decode cX1_choose 2 = .ok (.iconst 0, 1) := by decide +kernel
theorem dX1_choose_3 : decode cX1_choose 3 = .ok (.istore 4, 2) := by decide +kernel
theorem dX1_choose_5 : decode cX1_choose 5 = .ok (.iconst 0, 1) := by decide +kernel
theorem dX1_choose_6 : decode cX1_choose 6 = .ok (.istore 5, 2) := by decide +kernel
theorem dX1_choose_8 : decode cX1_choose 8 = .ok (.iconst 0, 1) := by decide +kernel
theorem dX1_choose_9 : decode cX1_choose 9 = .ok (.istore 6, 2) := by decide +kernel
theorem dX1_choose_11 : decode cX1_choose 11 = .ok (.iload 6, 2) := by decide +kernel
theorem dX1_choose_13 : decode cX1_choose 13 = .ok (.aload_n 1, 1) := by decide +kernel
theorem dX1_choose_14 : decode cX1_choose 14 = .ok (.getfield 35, 3) := by decide +kernel
theorem dX1_choose_17 : decode cX1_choose 17 = .ok (.if_icmp .ge 77, 3) := by decide +kernel
theorem dX1_choose_20 : decode cX1_choose 20 = .ok (.aload_n 0, 1) := by decide +kernel
theorem dX1_choose_21 : decode cX1_choose 21 = .ok (.aload_n 1, 1) := by decide +kernel
theorem dX1_choose_22 : decode cX1_choose 22 = .ok (.iload 6, 2) := by decide +kernel
theorem dX1_choose_24 : decode cX1_choose 24 = .ok (.invokevirtual 48, 3) := by decide +kernel
theorem dX1_choose_27 : decode cX1_choose 27 = .ok (.ifCond .ne 6, 3) := by decide +kernel
theorem dX1_choose_30 : decode cX1_choose 30 = .ok (.goto 58, 3) := by decide +kernel
theorem dX1_choose_33 : decode cX1_choose 33 = .ok (.aload_n 0, 1) := by decide +kernel
theorem dX1_choose_34 : decode cX1_choose 34 = .ok (.aload_n 1, 1) := by decide +kernel
theorem dX1_choose_35 : decode cX1_choose 35 = .ok (.iload 6, 2) := by decide +kernel
theorem dX1_choose_37 : decode cX1_choose 37 = .ok (.invokevirtual 52, 3) := by decide +kernel
theorem dX1_choose_40 : decode cX1_choose 40 = .ok (.istore 7, 2) := by decide +kernel
theorem dX1_choose_42 : decode cX1_choose 42 = .ok (.aload_n 1, 1) := by decide +kernel
theorem dX1_choose_43 : decode cX1_choose 43 = .ok (.iload_n 2, 1) := by decide +kernel
theorem dX1_choose_44 : decode cX1_choose 44 = .ok (.iload 6, 2) := by decide +kernel
theorem dX1_choose_46 : decode cX1_choose 46 = .ok (.invokestatic 55, 3) := by decide +kernel
theorem dX1_choose_49 : decode cX1_choose 49 = .ok (.istore 8, 2) := by decide +kernel
theorem dX1_choose_51 : decode cX1_choose 51 = .ok (.iload_n 3, 1) := by decide +kernel
theorem dX1_choose_52 : decode cX1_choose 52 = .ok (.iconst (-1), 1) := by decide +kernel
theorem dX1_choose_53 : decode cX1_choose 53 = .ok (.if_icmp .eq 24, 3) := by decide +kernel
theorem dX1_choose_56 : decode cX1_choose 56 = .ok (.iload 7, 2) := by decide +kernel
theorem dX1_choose_58 : decode cX1_choose 58 = .ok (.iload 4, 2) := by decide +kernel
theorem dX1_choose_60 : decode cX1_choose 60 = .ok (.if_icmp .lt 17, 3) := by decide +kernel
theorem dX1_choose_63 : decode cX1_choose 63 = .ok (.iload 7, 2) := by decide +kernel
theorem dX1_choose_65 : decode cX1_choose 65 = .ok (.iload 4, 2) := by decide +kernel
theorem dX1_choose_67 : decode cX1_choose 67 = .ok (.if_icmp .ne 21, 3) := by decide +kernel
theorem dX1_choose_70 : decode cX1_choose 70 = .ok (.iload 8, 2) := by decide +kernel
theorem dX1_choose_72 : decode cX1_choose 72 = .ok (.iload 5, 2) := by decide +kernel
theorem dX1_choose_74 : decode cX1_choose 74 = .ok (.if_icmp .ge 14, 3) := by decide +kernel
theorem dX1_choose_77 : decode cX1_choose 77 = .ok (.iload 6, 2) := by decide +kernel
theorem dX1_choose_79 : decode cX1_choose 79 = .ok (.istore_n 3, 1) := by decide +kernel
theorem dX1_choose_80 : decode cX1_choose 80 = .ok (.iload 7, 2) := by decide +kernel
theorem dX1_choose_82 : decode cX1_choose 82 = .ok (.istore 4, 2) := by decide +kernel
theorem dX1_choose_84 : decode cX1_choose 84 = .ok (.iload 8, 2) := by decide +kernel
theorem dX1_choose_86 : decode cX1_choose 86 = .ok (.istore 5, 2) := by decide +kernel
theorem dX1_choose_88 : decode cX1_choose 88 = .ok (.iinc 6 1, 3) := by decide +kernel
theorem dX1_choose_91 : decode cX1_choose 91 = .ok (.goto (-80), 3) := by decide +kernel
theorem dX1_choose_94 : decode cX1_choose 94 = .ok (.iload_n 3, 1) := by decide +kernel
theorem dX1_choose_95 : decode cX1_choose 95 = .ok (.ireturn, 1) := by decide +kernel
theorem dX1_isNext_0 : decode cX1_isNext 0 = .ok (.aload_n 1, 1) := by decide +kernel
theorem dX1_isNext_1 : decode cX1_isNext 1 = .ok (.iload_n 2, 1) := by decide +kernel
theorem dX1_isNext_2 : decode cX1_isNext 2 = .ok (.invokevirtual 59, 3) := by decide +kernel
theorem dX1_isNext_5 : decode cX1_isNext 5 = .ok (.istore_n 3, 1) := by decide +kernel
theorem dX1_isNext_6 : decode cX1_isNext 6 = .ok (.aload_n 0, 1) := by decide +kernel
theorem dX1_isNext_7 : decode cX1_isNext 7 = .ok (.getfield 24, 3) := by decide +kernel
theorem dX1_isNext_10 : decode cX1_isNext 10 = .ok (.iload_n 2, 1) := by decide +kernel
theorem dX1_isNext_11 : decode cX1_isNext 11 = .ok (.baload, 1) := by decide +kernel
theorem dX1_isNext_12 : decode cX1_isNext 12 = .ok (.ifCond .ne 21, 3) := by decide +kernel
theorem dX1_isNext_15 : decode cX1_isNext 15 = .ok (.iload_n 3, 1) := by decide +kernel
theorem dX1_isNext_16 : decode cX1_isNext 16 = .ok (.iconst (-1), 1) := by decide +kernel
theorem dX1_isNext_17 : decode cX1_isNext 17 = .ok (.if_icmp .eq 12, 3) := by decide +kernel
theorem dX1_isNext_20 : decode cX1_isNext 20 = .ok (.aload_n 0, 1) := by decide +kernel
theorem dX1_isNext_21 : decode cX1_isNext 21 = .ok (.getfield 24, 3) := by decide +kernel
theorem dX1_isNext_24 : decode cX1_isNext 24 = .ok (.iload_n 3, 1) := by decide +kernel
theorem dX1_isNext_25 : decode cX1_isNext 25 = .ok (.baload, 1) := by decide +kernel
theorem dX1_isNext_26 : decode cX1_isNext 26 = .ok (.ifCond .eq 7, 3) := by decide +kernel
theorem dX1_isNext_29 : decode cX1_isNext 29 = .ok (.iconst 1, 1) := by decide +kernel
theorem dX1_isNext_30 : decode cX1_isNext 30 = .ok (.goto 4, 3) := by decide +kernel
theorem dX1_isNext_33 : decode cX1_isNext 33 = .ok (.iconst 0, 1) := by decide +kernel
theorem dX1_isNext_34 : decode cX1_isNext 34 = .ok (.ireturn, 1) := by decide +kernel
theorem dX1_startOf_0 : decode cX1_startOf 0 = .ok (.aload_n 0, 1) := by decide +kernel
theorem dX1_startOf_1 : decode cX1_startOf 1 = .ok (.getfield 18, 3) := by decide +kernel
theorem dX1_startOf_4 : decode cX1_startOf 4 = .ok (.aload_n 1, 1) := by decide +kernel
theorem dX1_startOf_5 : decode cX1_startOf 5 = .ok (.getfield 63, 3) := by decide +kernel
theorem dX1_startOf_8 : decode cX1_startOf 8 = .ok (.iload_n 2, 1) := by decide +kernel
theorem dX1_startOf_9 : decode cX1_startOf 9 = .ok (.iaload, 1) := by decide +kernel
theorem dX1_startOf_10 : decode cX1_startOf 10 = .ok (.iaload, 1) := by decide +kernel
theorem dX1_startOf_11 : decode cX1_startOf 11 = .ok (.aload_n 0, 1) := by decide +kernel
theorem dX1_startOf_12 : decode cX1_startOf 12 = .ok (.getfield 21, 3) := by decide +kernel
theorem dX1_startOf_15 : decode cX1_startOf 15 = .ok (.aload_n 1, 1) := by decide +kernel
theorem dX1_startOf_16 : decode cX1_startOf 16 = .ok (.getfield 66, 3) := by decide +kernel
theorem dX1_startOf_19 : decode cX1_startOf 19 = .ok (.iload_n 2, 1) := by decide +kernel
theorem dX1_startOf_20 : decode cX1_startOf 20 = .ok (.iaload, 1) := by decide +kernel
theorem dX1_startOf_21 : decode cX1_startOf 21 = .ok (.iaload, 1) := by decide +kernel
theorem dX1_startOf_22 : decode cX1_startOf 22 = .ok (.invokestatic 69, 3) := by decide +kernel
theorem dX1_startOf_25 : decode cX1_startOf 25 = .ok (.ireturn, 1) := by decide +kernel
theorem dX1_key_0 : decode cX1_key 0 = .ok (.iload_n 1, 1) := by decide +kernel
theorem dX1_key_1 : decode cX1_key 1 = .ok (.tableswitch 57 0 2 #[27, 34, 42], 27) := by decide +kernel
theorem dX1_key_28 : decode cX1_key 28 = .ok (.aload_n 0, 1) := by decide +kernel
theorem dX1_key_29 : decode cX1_key 29 = .ok (.getfield 75, 3) := by decide +kernel
theorem dX1_key_32 : decode cX1_key 32 = .ok (.iload_n 2, 1) := by decide +kernel
theorem dX1_key_33 : decode cX1_key 33 = .ok (.iaload, 1) := by decide +kernel
theorem dX1_key_34 : decode cX1_key 34 = .ok (.ireturn, 1) := by decide +kernel
theorem dX1_key_35 : decode cX1_key 35 = .ok (.aload_n 0, 1) := by decide +kernel
theorem dX1_key_36 : decode cX1_key 36 = .ok (.getfield 75, 3) := by decide +kernel
theorem dX1_key_39 : decode cX1_key 39 = .ok (.iload_n 2, 1) := by decide +kernel
theorem dX1_key_40 : decode cX1_key 40 = .ok (.iaload, 1) := by decide +kernel
theorem dX1_key_41 : decode cX1_key 41 = .ok (.ineg, 1) := by decide +kernel
theorem dX1_key_42 : decode cX1_key 42 = .ok (.ireturn, 1) := by decide +kernel
theorem dX1_key_43 : decode cX1_key 43 = .ok (.aload_n 0, 1) := by decide +kernel
theorem dX1_key_44 : decode cX1_key 44 = .ok (.getfield 75, 3) := by decide +kernel
theorem dX1_key_47 : decode cX1_key 47 = .ok (.iload_n 2, 1) := by decide +kernel
theorem dX1_key_48 : decode cX1_key 48 = .ok (.iaload, 1) := by decide +kernel
theorem dX1_key_49 : decode cX1_key 49 = .ok (.aload_n 0, 1) := by decide +kernel
theorem dX1_key_50 : decode cX1_key 50 = .ok (.getfield 78, 3) := by decide +kernel
theorem dX1_key_53 : decode cX1_key 53 = .ok (.iload_n 2, 1) := by decide +kernel
theorem dX1_key_54 : decode cX1_key 54 = .ok (.iaload, 1) := by decide +kernel
theorem dX1_key_55 : decode cX1_key 55 = .ok (.iadd, 1) := by decide +kernel
theorem dX1_key_56 : decode cX1_key 56 = .ok (.ineg, 1) := by decide +kernel
theorem dX1_key_57 : decode cX1_key 57 = .ok (.ireturn, 1) := by decide +kernel
theorem dX1_key_58 : decode cX1_key 58 = .ok (.aload_n 0, 1) := by decide +kernel
theorem dX1_key_59 : decode cX1_key 59 = .ok (.getfield 75, 3) := by decide +kernel
theorem dX1_key_62 : decode cX1_key 62 = .ok (.iload_n 2, 1) := by decide +kernel
theorem dX1_key_63 : decode cX1_key 63 = .ok (.iaload, 1) := by decide +kernel
theorem dX1_key_64 : decode cX1_key 64 = .ok (.aload_n 0, 1) := by decide +kernel
theorem dX1_key_65 : decode cX1_key 65 = .ok (.getfield 78, 3) := by decide +kernel
theorem dX1_key_68 : decode cX1_key 68 = .ok (.iload_n 2, 1) := by decide +kernel
theorem dX1_key_69 : decode cX1_key 69 = .ok (.iaload, 1) := by decide +kernel
theorem dX1_key_70 : decode cX1_key 70 = .ok (.iadd, 1) := by decide +kernel
theorem dX1_key_71 : decode cX1_key 71 = .ok (.ireturn, 1) := by decide +kernel
theorem dX1_putLast_0 : decode cX1_putLast 0 = .ok (.aload_n 1, 1) := by decide +kernel
theorem dX1_putLast_1 : decode cX1_putLast 1 = .ok (.getfield 63, 3) := by decide +kernel
theorem dX1_putLast_4 : decode cX1_putLast 4 = .ok (.iload_n 2, 1) := by decide +kernel
theorem dX1_putLast_5 : decode cX1_putLast 5 = .ok (.iaload, 1) := by decide +kernel
theorem dX1_putLast_6 : decode cX1_putLast 6 = .ok (.istore_n 3, 1) := by decide +kernel
theorem dX1_putLast_7 : decode cX1_putLast 7 = .ok (.aload_n 0, 1) := by decide +kernel
theorem dX1_putLast_8 : decode cX1_putLast 8 = .ok (.aload_n 1, 1) := by decide +kernel
theorem dX1_putLast_9 : decode cX1_putLast 9 = .ok (.iload_n 2, 1) := by decide +kernel
theorem dX1_putLast_10 : decode cX1_putLast 10 = .ok (.invokevirtual 52, 3) := by decide +kernel
theorem dX1_putLast_13 : decode cX1_putLast 13 = .ok (.aload_n 1, 1) := by decide +kernel
theorem dX1_putLast_14 : decode cX1_putLast 14 = .ok (.getfield 75, 3) := by decide +kernel
theorem dX1_putLast_17 : decode cX1_putLast 17 = .ok (.iload_n 2, 1) := by decide +kernel
theorem dX1_putLast_18 : decode cX1_putLast 18 = .ok (.iaload, 1) := by decide +kernel
theorem dX1_putLast_19 : decode cX1_putLast 19 = .ok (.iadd, 1) := by decide +kernel
theorem dX1_putLast_20 : decode cX1_putLast 20 = .ok (.istore 4, 2) := by decide +kernel
theorem dX1_putLast_22 : decode cX1_putLast 22 = .ok (.aload_n 0, 1) := by decide +kernel
theorem dX1_putLast_23 : decode cX1_putLast 23 = .ok (.getfield 9, 3) := by decide +kernel
theorem dX1_putLast_26 : decode cX1_putLast 26 = .ok (.aload_n 1, 1) := by decide +kernel
theorem dX1_putLast_27 : decode cX1_putLast 27 = .ok (.getfield 81, 3) := by decide +kernel
theorem dX1_putLast_30 : decode cX1_putLast 30 = .ok (.iload_n 3, 1) := by decide +kernel
theorem dX1_putLast_31 : decode cX1_putLast 31 = .ok (.iaload, 1) := by decide +kernel
theorem dX1_putLast_32 : decode cX1_putLast 32 = .ok (.aload_n 0, 1) := by decide +kernel
theorem dX1_putLast_33 : decode cX1_putLast 33 = .ok (.getfield 15, 3) := by decide +kernel
theorem dX1_putLast_36 : decode cX1_putLast 36 = .ok (.iload_n 3, 1) := by decide +kernel
theorem dX1_putLast_37 : decode cX1_putLast 37 = .ok (.iaload, 1) := by decide +kernel
theorem dX1_putLast_38 : decode cX1_putLast 38 = .ok (.iadd, 1) := by decide +kernel
theorem dX1_putLast_39 : decode cX1_putLast 39 = .ok (.iload_n 2, 1) := by decide +kernel
theorem dX1_putLast_40 : decode cX1_putLast 40 = .ok (.iastore, 1) := by decide +kernel
theorem dX1_putLast_41 : decode cX1_putLast 41 = .ok (.aload_n 0, 1) := by decide +kernel
theorem dX1_putLast_42 : decode cX1_putLast 42 = .ok (.getfield 15, 3) := by decide +kernel
theorem dX1_putLast_45 : decode cX1_putLast 45 = .ok (.iload_n 3, 1) := by decide +kernel
theorem dX1_putLast_46 : decode cX1_putLast 46 = .ok (.dup2, 1) := by decide +kernel
theorem dX1_putLast_47 : decode cX1_putLast 47 = .ok (.iaload, 1) := by decide +kernel
theorem dX1_putLast_48 : decode cX1_putLast 48 = .ok (.iconst 1, 1) := by decide +kernel
theorem dX1_putLast_49 : decode cX1_putLast 49 = .ok (.iadd, 1) := by decide +kernel
theorem dX1_putLast_50 : decode cX1_putLast 50 = .ok (.iastore, 1) := by decide +kernel
theorem dX1_putLast_51 : decode cX1_putLast 51 = .ok (.aload_n 0, 1) := by decide +kernel
theorem dX1_putLast_52 : decode cX1_putLast 52 = .ok (.getfield 24, 3) := by decide +kernel
theorem dX1_putLast_55 : decode cX1_putLast 55 = .ok (.iload_n 2, 1) := by decide +kernel
theorem dX1_putLast_56 : decode cX1_putLast 56 = .ok (.iconst 1, 1) := by decide +kernel
theorem dX1_putLast_57 : decode cX1_putLast 57 = .ok (.bastore, 1) := by decide +kernel
theorem dX1_putLast_58 : decode cX1_putLast 58 = .ok (.aload_n 0, 1) := by decide +kernel
theorem dX1_putLast_59 : decode cX1_putLast 59 = .ok (.getfield 18, 3) := by decide +kernel
theorem dX1_putLast_62 : decode cX1_putLast 62 = .ok (.iload_n 3, 1) := by decide +kernel
theorem dX1_putLast_63 : decode cX1_putLast 63 = .ok (.iload 4, 2) := by decide +kernel
theorem dX1_putLast_65 : decode cX1_putLast 65 = .ok (.iastore, 1) := by decide +kernel
theorem dX1_putLast_66 : decode cX1_putLast 66 = .ok (.aload_n 0, 1) := by decide +kernel
theorem dX1_putLast_67 : decode cX1_putLast 67 = .ok (.getfield 21, 3) := by decide +kernel
theorem dX1_putLast_70 : decode cX1_putLast 70 = .ok (.aload_n 1, 1) := by decide +kernel
theorem dX1_putLast_71 : decode cX1_putLast 71 = .ok (.getfield 66, 3) := by decide +kernel
theorem dX1_putLast_74 : decode cX1_putLast 74 = .ok (.iload_n 2, 1) := by decide +kernel
theorem dX1_putLast_75 : decode cX1_putLast 75 = .ok (.iaload, 1) := by decide +kernel
theorem dX1_putLast_76 : decode cX1_putLast 76 = .ok (.iload 4, 2) := by decide +kernel
theorem dX1_putLast_78 : decode cX1_putLast 78 = .ok (.iastore, 1) := by decide +kernel
theorem dX1_putLast_79 : decode cX1_putLast 79 = .ok (.aload_n 0, 1) := by decide +kernel
theorem dX1_putLast_80 : decode cX1_putLast 80 = .ok (.aload_n 0, 1) := by decide +kernel
theorem dX1_putLast_81 : decode cX1_putLast 81 = .ok (.getfield 28, 3) := by decide +kernel
theorem dX1_putLast_84 : decode cX1_putLast 84 = .ok (.iload 4, 2) := by decide +kernel
theorem dX1_putLast_86 : decode cX1_putLast 86 = .ok (.invokestatic 69, 3) := by decide +kernel
theorem dX1_putLast_89 : decode cX1_putLast 89 = .ok (.putfield 28, 3) := by decide +kernel
theorem dX1_putLast_92 : decode cX1_putLast 92 = .ok (.return_, 1) := by decide +kernel
theorem dX2_init_0 : decode cX2_init 0 = .ok (.aload_n 0, 1) := by decide +kernel
theorem dX2_init_1 : decode cX2_init 1 = .ok (.invokespecial 3, 3) := by decide +kernel
theorem dX2_init_4 : decode cX2_init 4 = .ok (.aload_n 0, 1) := by decide +kernel
theorem dX2_init_5 : decode cX2_init 5 = .ok (.bipush 24, 2) := by decide +kernel
theorem dX2_init_7 : decode cX2_init 7 = .ok (.newarray .int, 2) := by decide +kernel
theorem dX2_init_9 : decode cX2_init 9 = .ok (.putfield 9, 3) := by decide +kernel
theorem dX2_init_12 : decode cX2_init 12 = .ok (.aload_n 0, 1) := by decide +kernel
theorem dX2_init_13 : decode cX2_init 13 = .ok (.iconst 0, 1) := by decide +kernel
theorem dX2_init_14 : decode cX2_init 14 = .ok (.putfield 15, 3) := by decide +kernel
theorem dX2_init_17 : decode cX2_init 17 = .ok (.aload_n 0, 1) := by decide +kernel
theorem dX2_init_18 : decode cX2_init 18 = .ok (.iconst 0, 1) := by decide +kernel
theorem dX2_init_19 : decode cX2_init 19 = .ok (.putfield 19, 3) := by decide +kernel
theorem dX2_init_22 : decode cX2_init 22 = .ok (.aload_n 0, 1) := by decide +kernel
theorem dX2_init_23 : decode cX2_init 23 = .ok (.iconst 0, 1) := by decide +kernel
theorem dX2_init_24 : decode cX2_init 24 = .ok (.putfield 23, 3) := by decide +kernel
theorem dX2_init_27 : decode cX2_init 27 = .ok (.return_, 1) := by decide +kernel
theorem dX2_forget_0 : decode cX2_forget 0 = .ok (.aload_n 0, 1) := by decide +kernel
theorem dX2_forget_1 : decode cX2_forget 1 = .ok (.iconst 0, 1) := by decide +kernel
theorem dX2_forget_2 : decode cX2_forget 2 = .ok (.putfield 15, 3) := by decide +kernel
theorem dX2_forget_5 : decode cX2_forget 5 = .ok (.return_, 1) := by decide +kernel
theorem dX2_look_0 : decode cX2_look 0 = .ok (.aload_n 1, 1) := by decide +kernel
theorem dX2_look_1 : decode cX2_look 1 = .ok (.invokestatic 26, 3) := by decide +kernel
theorem dX2_look_4 : decode cX2_look 4 = .ok (.istore_n 3, 1) := by decide +kernel
theorem dX2_look_5 : decode cX2_look 5 = .ok (.iload_n 3, 1) := by decide +kernel
theorem dX2_look_6 : decode cX2_look 6 = .ok (.sipush 720, 3) := by decide +kernel
theorem dX2_look_9 : decode cX2_look 9 = .ok (.if_icmp .le 5, 3) := by decide +kernel
theorem dX2_look_12 : decode cX2_look 12 = .ok (.iconst 0, 1) := by decide +kernel
theorem dX2_look_13 : decode cX2_look 13 = .ok (.ireturn, 1) := by decide +kernel
theorem dX2_look_14 : decode cX2_look 14 = .ok (.aload_n 0, 1) := by decide +kernel
theorem dX2_look_15 : decode cX2_look 15 = .ok (.getfield 15, 3) := by decide +kernel
theorem dX2_look_18 : decode cX2_look 18 = .ok (.ifCond .ne 15, 3) := by decide +kernel
theorem dX2_look_21 : decode cX2_look 21 = .ok (.aload_n 0, 1) := by decide +kernel
theorem dX2_look_22 : decode cX2_look 22 = .ok (.aload_n 1, 1) := by decide +kernel
theorem dX2_look_23 : decode cX2_look 23 = .ok (.aload_n 2, 1) := by decide +kernel
theorem dX2_look_24 : decode cX2_look 24 = .ok (.iload_n 3, 1) := by decide +kernel
theorem dX2_look_25 : decode cX2_look 25 = .ok (.invokevirtual 30, 3) := by decide +kernel
theorem dX2_look_28 : decode cX2_look 28 = .ok (.aload_n 0, 1) := by decide +kernel
theorem dX2_look_29 : decode cX2_look 29 = .ok (.iconst 1, 1) := by decide +kernel
theorem dX2_look_30 : decode cX2_look 30 = .ok (.putfield 15, 3) := by decide +kernel
theorem dX2_look_33 : decode cX2_look 33 = .ok (.iconst 1, 1) := by decide +kernel
theorem dX2_look_34 : decode cX2_look 34 = .ok (.ireturn, 1) := by decide +kernel
theorem dX2_waysOf_0 : decode cX2_waysOf 0 = .ok (.iconst 1, 1) := by decide +kernel
theorem dX2_waysOf_1 : decode cX2_waysOf 1 = .ok (.istore_n 1, 1) := by decide +kernel
theorem dX2_waysOf_2 : decode cX2_waysOf 2 = .ok (.iconst 0, 1) := by decide +kernel
theorem dX2_waysOf_3 : decode cX2_waysOf 3 = .ok (.istore_n 2, 1) := by decide +kernel
theorem dX2_waysOf_4 : decode cX2_waysOf 4 = .ok (.iload_n 2, 1) := by decide +kernel
theorem dX2_waysOf_5 : decode cX2_waysOf 5 = .ok (.iconst 5, 1) := by decide +kernel
theorem dX2_waysOf_6 : decode cX2_waysOf 6 = .ok (.if_icmp .ge 39, 3) := by decide +kernel
theorem dX2_waysOf_9 : decode cX2_waysOf 9 = .ok (.iconst 2, 1) := by decide +kernel
theorem dX2_waysOf_10 : decode cX2_waysOf 10 = .ok (.istore_n 3, 1) := by decide +kernel
theorem dX2_waysOf_11 : decode cX2_waysOf 11 = .ok (.iload_n 3, 1) := by decide +kernel
theorem dX2_waysOf_12 : decode cX2_waysOf 12 = .ok (.aload_n 0, 1) := by decide +kernel
theorem dX2_waysOf_13 : decode cX2_waysOf 13 = .ok (.iload_n 2, 1) := by decide +kernel
theorem dX2_waysOf_14 : decode cX2_waysOf 14 = .ok (.invokevirtual 34, 3) := by decide +kernel
theorem dX2_waysOf_17 : decode cX2_waysOf 17 = .ok (.if_icmp .gt 22, 3) := by decide +kernel
theorem dX2_waysOf_20 : decode cX2_waysOf 20 = .ok (.iload_n 1, 1) := by decide +kernel
theorem dX2_waysOf_21 : decode cX2_waysOf 21 = .ok (.iload_n 3, 1) := by decide +kernel
theorem dX2_waysOf_22 : decode cX2_waysOf 22 = .ok (.imul, 1) := by decide +kernel
theorem dX2_waysOf_23 : decode cX2_waysOf 23 = .ok (.istore_n 1, 1) := by decide +kernel
theorem dX2_waysOf_24 : decode cX2_waysOf 24 = .ok (.iload_n 1, 1) := by decide +kernel
theorem dX2_waysOf_25 : decode cX2_waysOf 25 = .ok (.sipush 720, 3) := by decide +kernel
theorem dX2_waysOf_28 : decode cX2_waysOf 28 = .ok (.if_icmp .le 5, 3) := by decide +kernel
theorem dX2_waysOf_31 : decode cX2_waysOf 31 = .ok (.iload_n 1, 1) := by decide +kernel
theorem dX2_waysOf_32 : decode cX2_waysOf 32 = .ok (.ireturn, 1) := by decide +kernel
theorem dX2_waysOf_33 : decode cX2_waysOf 33 = .ok (.iinc 3 1, 3) := by decide +kernel
theorem dX2_waysOf_36 : decode cX2_waysOf 36 = .ok (.goto (-25), 3) := by decide +kernel
theorem dX2_waysOf_39 : decode cX2_waysOf 39 = .ok (.iinc 2 1, 3) := by decide +kernel
theorem dX2_waysOf_42 : decode cX2_waysOf 42 = .ok (.goto (-38), 3) := by decide +kernel
theorem dX2_waysOf_45 : decode cX2_waysOf 45 = .ok (.iload_n 1, 1) := by decide +kernel
theorem dX2_waysOf_46 : decode cX2_waysOf 46 = .ok (.ireturn, 1) := by decide +kernel
theorem dX2_lookAtAll_0 : decode cX2_lookAtAll 0 = .ok (.aload_n 0, 1) := by decide +kernel
theorem dX2_lookAtAll_1 : decode cX2_lookAtAll 1 = .ok (.iconst 0, 1) := by decide +kernel
theorem dX2_lookAtAll_2 : decode cX2_lookAtAll 2 = .ok (.putfield 19, 3) := by decide +kernel
theorem dX2_lookAtAll_5 : decode cX2_lookAtAll 5 = .ok (.aload_n 0, 1) := by decide +kernel
theorem dX2_lookAtAll_6 : decode cX2_lookAtAll 6 = .ok (.iconst 0, 1) := by decide +kernel
theorem dX2_lookAtAll_7 : decode cX2_lookAtAll 7 = .ok (.putfield 23, 3) := by decide +kernel
theorem dX2_lookAtAll_10 : decode cX2_lookAtAll 10 = .ok (.aload_n 1, 1) := by decide +kernel
theorem dX2_lookAtAll_11 : decode cX2_lookAtAll 11 = .ok (.aload_n 0, 1) := by decide +kernel
theorem dX2_lookAtAll_12 : decode cX2_lookAtAll 12 = .ok (.getfield 9, 3) := by decide +kernel
theorem dX2_lookAtAll_15 : decode cX2_lookAtAll 15 = .ok (.invokevirtual 40, 3) := by decide +kernel
theorem dX2_lookAtAll_18 : decode cX2_lookAtAll 18 = .ok (.iconst 0, 1) := by decide +kernel
theorem dX2_lookAtAll_19 : decode cX2_lookAtAll 19 = .ok (.istore 4, 2) := by decide +kernel
theorem dX2_lookAtAll_21 : decode cX2_lookAtAll 21 = .ok (.iload 4, 2) := by decide +kernel
theorem dX2_lookAtAll_23 : decode cX2_lookAtAll 23 = .ok (.iload_n 3, 1) := by decide +kernel
theorem dX2_lookAtAll_24 : decode cX2_lookAtAll 24 = .ok (.if_icmp .ge 69, 3) := by decide +kernel
theorem dX2_lookAtAll_27 : decode cX2_lookAtAll 27 = .ok (.aload_n 2, 1) := by decide +kernel
theorem dX2_lookAtAll_28 : decode cX2_lookAtAll 28 = .ok (.aload_n 1, 1) := by decide +kernel
theorem dX2_lookAtAll_29 : decode cX2_lookAtAll 29 = .ok (.aload_n 0, 1) := by decide +kernel
theorem dX2_lookAtAll_30 : decode cX2_lookAtAll 30 = .ok (.getfield 9, 3) := by decide +kernel
theorem dX2_lookAtAll_33 : decode cX2_lookAtAll 33 = .ok (.invokevirtual 44, 3) := by decide +kernel
theorem dX2_lookAtAll_36 : decode cX2_lookAtAll 36 = .ok (.aload_n 2, 1) := by decide +kernel
theorem dX2_lookAtAll_37 : decode cX2_lookAtAll 37 = .ok (.getfield 50, 3) := by decide +kernel
theorem dX2_lookAtAll_40 : decode cX2_lookAtAll 40 = .ok (.ifCond .ne 42, 3) := by decide +kernel
theorem dX2_lookAtAll_43 : decode cX2_lookAtAll 43 = .ok (.aload_n 0, 1) := by decide +kernel
theorem dX2_lookAtAll_44 : decode cX2_lookAtAll 44 = .ok (.aload_n 0, 1) := by decide +kernel
theorem dX2_lookAtAll_45 : decode cX2_lookAtAll 45 = .ok (.getfield 19, 3) := by decide +kernel
theorem dX2_lookAtAll_48 : decode cX2_lookAtAll 48 = .ok (.ifCond .ne 10, 3) := by decide +kernel
theorem dX2_lookAtAll_51 : decode cX2_lookAtAll 51 = .ok (.aload_n 2, 1) := by decide +kernel
theorem dX2_lookAtAll_52 : decode cX2_lookAtAll 52 = .ok (.getfield 53, 3) := by decide +kernel
theorem dX2_lookAtAll_55 : decode cX2_lookAtAll 55 = .ok (.goto 14, 3) := by decide +kernel
theorem dX2_lookAtAll_58 : decode cX2_lookAtAll 58 = .ok (.aload_n 0, 1) := by decide +kernel
theorem dX2_lookAtAll_59 : decode cX2_lookAtAll 59 = .ok (.getfield 23, 3) := by decide +kernel
theorem dX2_lookAtAll_62 : decode cX2_lookAtAll 62 = .ok (.aload_n 2, 1) := by decide +kernel
theorem dX2_lookAtAll_63 : decode cX2_lookAtAll 63 = .ok (.getfield 53, 3) := by decide +kernel
theorem dX2_lookAtAll_66 : decode cX2_lookAtAll 66 = .ok (.invokestatic 56, 3) := by decide +kernel
theorem dX2_lookAtAll_69 : decode cX2_lookAtAll 69 = .ok (.putfield 23, 3) := by decide +kernel
theorem dX2_lookAtAll_72 : decode cX2_lookAtAll 72 = .ok (.aload_n 0, 1) := by decide +kernel
theorem dX2_lookAtAll_73 : decode cX2_lookAtAll 73 = .ok (.dup, 1) := by decide +kernel
theorem dX2_lookAtAll_74 : decode cX2_lookAtAll 74 = .ok (.getfield 19, 3) := by decide +kernel
theorem dX2_lookAtAll_77 : decode cX2_lookAtAll 77 = .ok (.iconst 1, 1) := by decide +kernel
theorem dX2_lookAtAll_78 : decode cX2_lookAtAll 78 = .ok (.iadd, 1) := by decide +kernel
theorem dX2_lookAtAll_79 : decode cX2_lookAtAll 79 = .ok (.putfield 19, 3) := by decide +kernel
theorem dX2_lookAtAll_82 : decode cX2_lookAtAll 82 = .ok (.aload_n 0, 1) := by decide +kernel
theorem dX2_lookAtAll_83 : decode cX2_lookAtAll 83 = .ok (.aload_n 1, 1) := by decide +kernel
theorem dX2_lookAtAll_84 : decode cX2_lookAtAll 84 = .ok (.invokevirtual 62, 3) := by decide +kernel
theorem dX2_lookAtAll_87 : decode cX2_lookAtAll 87 = .ok (.iinc 4 1, 3) := by decide +kernel
theorem dX2_lookAtAll_90 : decode cX2_lookAtAll 90 = .ok (.goto (-69), 3) := by decide +kernel
theorem dX2_lookAtAll_93 : decode cX2_lookAtAll 93 = .ok (.return_, 1) := by decide +kernel
theorem dX2_nextOfAll_0 : decode cX2_nextOfAll 0 = .ok (.iconst 0, 1) := by decide +kernel
theorem dX2_nextOfAll_1 : decode cX2_nextOfAll 1 = .ok (.istore_n 2, 1) := by decide +kernel
theorem dX2_nextOfAll_2 : decode cX2_nextOfAll 2 = .ok (.iload_n 2, 1) := by decide +kernel
theorem dX2_nextOfAll_3 : decode cX2_nextOfAll 3 = .ok (.iconst 5, 1) := by decide +kernel
theorem dX2_nextOfAll_4 : decode cX2_nextOfAll 4 = .ok (.if_icmp .ge 34, 3) := by decide +kernel
theorem dX2_nextOfAll_7 : decode cX2_nextOfAll 7 = .ok (.aload_n 0, 1) := by decide +kernel
theorem dX2_nextOfAll_8 : decode cX2_nextOfAll 8 = .ok (.getfield 9, 3) := by decide +kernel
theorem dX2_nextOfAll_11 : decode cX2_nextOfAll 11 = .ok (.aload_n 1, 1) := by decide +kernel
theorem dX2_nextOfAll_12 : decode cX2_nextOfAll 12 = .ok (.getfield 66, 3) := by decide +kernel
theorem dX2_nextOfAll_15 : decode cX2_nextOfAll 15 = .ok (.iload_n 2, 1) := by decide +kernel
theorem dX2_nextOfAll_16 : decode cX2_nextOfAll 16 = .ok (.iaload, 1) := by decide +kernel
theorem dX2_nextOfAll_17 : decode cX2_nextOfAll 17 = .ok (.aload_n 1, 1) := by decide +kernel
theorem dX2_nextOfAll_18 : decode cX2_nextOfAll 18 = .ok (.getfield 66, 3) := by decide +kernel
theorem dX2_nextOfAll_21 : decode cX2_nextOfAll 21 = .ok (.iload_n 2, 1) := by decide +kernel
theorem dX2_nextOfAll_22 : decode cX2_nextOfAll 22 = .ok (.iconst 1, 1) := by decide +kernel
theorem dX2_nextOfAll_23 : decode cX2_nextOfAll 23 = .ok (.iadd, 1) := by decide +kernel
theorem dX2_nextOfAll_24 : decode cX2_nextOfAll 24 = .ok (.iaload, 1) := by decide +kernel
theorem dX2_nextOfAll_25 : decode cX2_nextOfAll 25 = .ok (.invokestatic 69, 3) := by decide +kernel
theorem dX2_nextOfAll_28 : decode cX2_nextOfAll 28 = .ok (.ifCond .eq 4, 3) := by decide +kernel
theorem dX2_nextOfAll_31 : decode cX2_nextOfAll 31 = .ok (.return_, 1) := by decide +kernel
theorem dX2_nextOfAll_32 : decode cX2_nextOfAll 32 = .ok (.iinc 2 1, 3) := by decide +kernel
theorem dX2_nextOfAll_35 : decode cX2_nextOfAll 35 = .ok (.goto (-33), 3) := by decide +kernel
theorem dX2_nextOfAll_38 : decode cX2_nextOfAll 38 = .ok (.return_, 1) := by decide +kernel
theorem dX3_init_0 : decode cX3_init 0 = .ok (.aload_n 0, 1) := by decide +kernel
theorem dX3_init_1 : decode cX3_init 1 = .ok (.invokespecial 3, 3) := by decide +kernel
theorem dX3_init_4 : decode cX3_init 4 = .ok (.aload_n 0, 1) := by decide +kernel
theorem dX3_init_5 : decode cX3_init 5 = .ok (.bipush 9, 2) := by decide +kernel
theorem dX3_init_7 : decode cX3_init 7 = .ok (.newarray .int, 2) := by decide +kernel
theorem dX3_init_9 : decode cX3_init 9 = .ok (.putfield 9, 3) := by decide +kernel
theorem dX3_init_12 : decode cX3_init 12 = .ok (.aload_n 0, 1) := by decide +kernel
theorem dX3_init_13 : decode cX3_init 13 = .ok (.iconst 0, 1) := by decide +kernel
theorem dX3_init_14 : decode cX3_init 14 = .ok (.putfield 15, 3) := by decide +kernel
theorem dX3_init_17 : decode cX3_init 17 = .ok (.aload_n 0, 1) := by decide +kernel
theorem dX3_init_18 : decode cX3_init 18 = .ok (.iconst 4, 1) := by decide +kernel
theorem dX3_init_19 : decode cX3_init 19 = .ok (.putfield 19, 3) := by decide +kernel
theorem dX3_init_22 : decode cX3_init 22 = .ok (.return_, 1) := by decide +kernel
theorem dX3_find_0 : decode cX3_find 0 = .ok (.iconst 0, 1) := by decide +kernel
theorem dX3_find_1 : decode cX3_find 1 = .ok (.istore_n 2, 1) := by decide +kernel
theorem dX3_find_2 : decode cX3_find 2 = .ok (.iload_n 2, 1) := by decide +kernel
theorem dX3_find_3 : decode cX3_find 3 = .ok (.aload_n 0, 1) := by decide +kernel
theorem dX3_find_4 : decode cX3_find 4 = .ok (.getfield 15, 3) := by decide +kernel
theorem dX3_find_7 : decode cX3_find 7 = .ok (.if_icmp .ge 21, 3) := by decide +kernel
theorem dX3_find_10 : decode cX3_find 10 = .ok (.aload_n 0, 1) := by decide +kernel
theorem dX3_find_11 : decode cX3_find 11 = .ok (.getfield 9, 3) := by decide +kernel
theorem dX3_find_14 : decode cX3_find 14 = .ok (.iload_n 2, 1) := by decide +kernel
theorem dX3_find_15 : decode cX3_find 15 = .ok (.iaload, 1) := by decide +kernel
theorem dX3_find_16 : decode cX3_find 16 = .ok (.iload_n 1, 1) := by decide +kernel
theorem dX3_find_17 : decode cX3_find 17 = .ok (.if_icmp .ne 5, 3) := by decide +kernel
theorem dX3_find_20 : decode cX3_find 20 = .ok (.iload_n 2, 1) := by decide +kernel
theorem dX3_find_21 : decode cX3_find 21 = .ok (.ireturn, 1) := by decide +kernel
theorem dX3_find_22 : decode cX3_find 22 = .ok (.iinc 2 1, 3) := by decide +kernel
theorem dX3_find_25 : decode cX3_find 25 = .ok (.goto (-23), 3) := by decide +kernel
theorem dX3_find_28 : decode cX3_find 28 = .ok (.iconst (-1), 1) := by decide +kernel
theorem dX3_find_29 : decode cX3_find 29 = .ok (.ireturn, 1) := by decide +kernel
theorem dX3_keep_0 : decode cX3_keep 0 = .ok (.aload_n 0, 1) := by decide +kernel
theorem dX3_keep_1 : decode cX3_keep 1 = .ok (.getfield 19, 3) := by decide +kernel
theorem dX3_keep_4 : decode cX3_keep 4 = .ok (.ifCond .ne 4, 3) := by decide +kernel
theorem dX3_keep_7 : decode cX3_keep 7 = .ok (.return_, 1) := by decide +kernel
theorem dX3_keep_8 : decode cX3_keep 8 = .ok (.aload_n 0, 1) := by decide +kernel
theorem dX3_keep_9 : decode cX3_keep 9 = .ok (.iload_n 1, 1) := by decide +kernel
theorem dX3_keep_10 : decode cX3_keep 10 = .ok (.invokevirtual 22, 3) := by decide +kernel
theorem dX3_keep_13 : decode cX3_keep 13 = .ok (.istore_n 2, 1) := by decide +kernel
theorem dX3_keep_14 : decode cX3_keep 14 = .ok (.iload_n 2, 1) := by decide +kernel
theorem dX3_keep_15 : decode cX3_keep 15 = .ok (.iconst (-1), 1) := by decide +kernel
theorem dX3_keep_16 : decode cX3_keep 16 = .ok (.if_icmp .eq 11, 3) := by decide +kernel
theorem dX3_keep_19 : decode cX3_keep 19 = .ok (.aload_n 0, 1) := by decide +kernel
theorem dX3_keep_20 : decode cX3_keep 20 = .ok (.iload_n 2, 1) := by decide +kernel
theorem dX3_keep_21 : decode cX3_keep 21 = .ok (.invokevirtual 26, 3) := by decide +kernel
theorem dX3_keep_24 : decode cX3_keep 24 = .ok (.goto 19, 3) := by decide +kernel
theorem dX3_keep_27 : decode cX3_keep 27 = .ok (.aload_n 0, 1) := by decide +kernel
theorem dX3_keep_28 : decode cX3_keep 28 = .ok (.getfield 15, 3) := by decide +kernel
theorem dX3_keep_31 : decode cX3_keep 31 = .ok (.aload_n 0, 1) := by decide +kernel
theorem dX3_keep_32 : decode cX3_keep 32 = .ok (.getfield 19, 3) := by decide +kernel
theorem dX3_keep_35 : decode cX3_keep 35 = .ok (.if_icmp .lt 8, 3) := by decide +kernel
theorem dX3_keep_38 : decode cX3_keep 38 = .ok (.aload_n 0, 1) := by decide +kernel
theorem dX3_keep_39 : decode cX3_keep 39 = .ok (.iconst 0, 1) := by decide +kernel
theorem dX3_keep_40 : decode cX3_keep 40 = .ok (.invokevirtual 26, 3) := by decide +kernel
theorem dX3_keep_43 : decode cX3_keep 43 = .ok (.aload_n 0, 1) := by decide +kernel
theorem dX3_keep_44 : decode cX3_keep 44 = .ok (.getfield 9, 3) := by decide +kernel
theorem dX3_keep_47 : decode cX3_keep 47 = .ok (.aload_n 0, 1) := by decide +kernel
theorem dX3_keep_48 : decode cX3_keep 48 = .ok (.getfield 15, 3) := by decide +kernel
theorem dX3_keep_51 : decode cX3_keep 51 = .ok (.iload_n 1, 1) := by decide +kernel
theorem dX3_keep_52 : decode cX3_keep 52 = .ok (.iastore, 1) := by decide +kernel
theorem dX3_keep_53 : decode cX3_keep 53 = .ok (.aload_n 0, 1) := by decide +kernel
theorem dX3_keep_54 : decode cX3_keep 54 = .ok (.dup, 1) := by decide +kernel
theorem dX3_keep_55 : decode cX3_keep 55 = .ok (.getfield 15, 3) := by decide +kernel
theorem dX3_keep_58 : decode cX3_keep 58 = .ok (.iconst 1, 1) := by decide +kernel
theorem dX3_keep_59 : decode cX3_keep 59 = .ok (.iadd, 1) := by decide +kernel
theorem dX3_keep_60 : decode cX3_keep 60 = .ok (.putfield 15, 3) := by decide +kernel
theorem dX3_keep_63 : decode cX3_keep 63 = .ok (.return_, 1) := by decide +kernel
theorem dX3_takeOff_0 : decode cX3_takeOff 0 = .ok (.iload_n 1, 1) := by decide +kernel
theorem dX3_takeOff_1 : decode cX3_takeOff 1 = .ok (.istore_n 2, 1) := by decide +kernel
theorem dX3_takeOff_2 : decode cX3_takeOff 2 = .ok (.iload_n 2, 1) := by decide +kernel
theorem dX3_takeOff_3 : decode cX3_takeOff 3 = .ok (.iconst 1, 1) := by decide +kernel
theorem dX3_takeOff_4 : decode cX3_takeOff 4 = .ok (.iadd, 1) := by decide +kernel
theorem dX3_takeOff_5 : decode cX3_takeOff 5 = .ok (.aload_n 0, 1) := by decide +kernel
theorem dX3_takeOff_6 : decode cX3_takeOff 6 = .ok (.getfield 15, 3) := by decide +kernel
theorem dX3_takeOff_9 : decode cX3_takeOff 9 = .ok (.if_icmp .ge 23, 3) := by decide +kernel
theorem dX3_takeOff_12 : decode cX3_takeOff 12 = .ok (.aload_n 0, 1) := by decide +kernel
theorem dX3_takeOff_13 : decode cX3_takeOff 13 = .ok (.getfield 9, 3) := by decide +kernel
theorem dX3_takeOff_16 : decode cX3_takeOff 16 = .ok (.iload_n 2, 1) := by decide +kernel
theorem dX3_takeOff_17 : decode cX3_takeOff 17 = .ok (.aload_n 0, 1) := by decide +kernel
theorem dX3_takeOff_18 : decode cX3_takeOff 18 = .ok (.getfield 9, 3) := by decide +kernel
theorem dX3_takeOff_21 : decode cX3_takeOff 21 = .ok (.iload_n 2, 1) := by decide +kernel
theorem dX3_takeOff_22 : decode cX3_takeOff 22 = .ok (.iconst 1, 1) := by decide +kernel
theorem dX3_takeOff_23 : decode cX3_takeOff 23 = .ok (.iadd, 1) := by decide +kernel
theorem dX3_takeOff_24 : decode cX3_takeOff 24 = .ok (.iaload, 1) := by decide +kernel
theorem dX3_takeOff_25 : decode cX3_takeOff 25 = .ok (.iastore, 1) := by decide +kernel
theorem dX3_takeOff_26 : decode cX3_takeOff 26 = .ok (.iinc 2 1, 3) := by decide +kernel
theorem dX3_takeOff_29 : decode cX3_takeOff 29 = .ok (.goto (-27), 3) := by decide +kernel
theorem dX3_takeOff_32 : decode cX3_takeOff 32 = .ok (.aload_n 0, 1) := by decide +kernel
theorem dX3_takeOff_33 : decode cX3_takeOff 33 = .ok (.dup, 1) := by decide +kernel
theorem dX3_takeOff_34 : decode cX3_takeOff 34 = .ok (.getfield 15, 3) := by decide +kernel
theorem dX3_takeOff_37 : decode cX3_takeOff 37 = .ok (.iconst 1, 1) := by decide +kernel
theorem dX3_takeOff_38 : decode cX3_takeOff 38 = .ok (.isub, 1) := by decide +kernel
theorem dX3_takeOff_39 : decode cX3_takeOff 39 = .ok (.putfield 15, 3) := by decide +kernel
theorem dX3_takeOff_42 : decode cX3_takeOff 42 = .ok (.return_, 1) := by decide +kernel
theorem dX4_init_0 : decode cX4_init 0 = .ok (.aload_n 0, 1) := by decide +kernel
theorem dX4_init_1 : decode cX4_init 1 = .ok (.invokespecial 3, 3) := by decide +kernel
theorem dX4_init_4 : decode cX4_init 4 = .ok (.aload_n 0, 1) := by decide +kernel
theorem dX4_init_5 : decode cX4_init 5 = .ok (.bipush 17, 2) := by decide +kernel
theorem dX4_init_7 : decode cX4_init 7 = .ok (.bipush 24, 2) := by decide +kernel
theorem dX4_init_9 : decode cX4_init 9 = .ok (.multianewarray 9 2, 4) := by decide +kernel
theorem dX4_init_13 : decode cX4_init 13 = .ok (.putfield 11, 3) := by decide +kernel
theorem dX4_init_16 : decode cX4_init 16 = .ok (.aload_n 0, 1) := by decide +kernel
theorem dX4_init_17 : decode cX4_init 17 = .ok (.iconst 0, 1) := by decide +kernel
theorem dX4_init_18 : decode cX4_init 18 = .ok (.putfield 16, 3) := by decide +kernel
theorem dX4_init_21 : decode cX4_init 21 = .ok (.aload_n 0, 1) := by decide +kernel
theorem dX4_init_22 : decode cX4_init 22 = .ok (.iconst 0, 1) := by decide +kernel
theorem dX4_init_23 : decode cX4_init 23 = .ok (.putfield 20, 3) := by decide +kernel
theorem dX4_init_26 : decode cX4_init 26 = .ok (.return_, 1) := by decide +kernel
theorem dX4_begin_0 : decode cX4_begin 0 = .ok (.aload_n 0, 1) := by decide +kernel
theorem dX4_begin_1 : decode cX4_begin 1 = .ok (.iconst 0, 1) := by decide +kernel
theorem dX4_begin_2 : decode cX4_begin 2 = .ok (.putfield 16, 3) := by decide +kernel
theorem dX4_begin_5 : decode cX4_begin 5 = .ok (.aload_n 0, 1) := by decide +kernel
theorem dX4_begin_6 : decode cX4_begin 6 = .ok (.iconst 0, 1) := by decide +kernel
theorem dX4_begin_7 : decode cX4_begin 7 = .ok (.putfield 20, 3) := by decide +kernel
theorem dX4_begin_10 : decode cX4_begin 10 = .ok (.aload_n 1, 1) := by decide +kernel
theorem dX4_begin_11 : decode cX4_begin 11 = .ok (.aload_n 0, 1) := by decide +kernel
theorem dX4_begin_12 : decode cX4_begin 12 = .ok (.getfield 11, 3) := by decide +kernel
theorem dX4_begin_15 : decode cX4_begin 15 = .ok (.iconst 0, 1) := by decide +kernel
theorem dX4_begin_16 : decode cX4_begin 16 = .ok (.aaload, 1) := by decide +kernel
theorem dX4_begin_17 : decode cX4_begin 17 = .ok (.invokestatic 23, 3) := by decide +kernel
theorem dX4_begin_20 : decode cX4_begin 20 = .ok (.return_, 1) := by decide +kernel
theorem dX4_note_0 : decode cX4_note 0 = .ok (.aload_n 0, 1) := by decide +kernel
theorem dX4_note_1 : decode cX4_note 1 = .ok (.getfield 16, 3) := by decide +kernel
theorem dX4_note_4 : decode cX4_note 4 = .ok (.bipush 16, 2) := by decide +kernel
theorem dX4_note_6 : decode cX4_note 6 = .ok (.if_icmp .lt 40, 3) := by decide +kernel
theorem dX4_note_9 : decode cX4_note 9 = .ok (.iconst 0, 1) := by decide +kernel
theorem dX4_note_10 : decode cX4_note 10 = .ok (.istore_n 2, 1) := by decide +kernel
theorem dX4_note_11 : decode cX4_note 11 = .ok (.iload_n 2, 1) := by decide +kernel
theorem dX4_note_12 : decode cX4_note 12 = .ok (.bipush 16, 2) := by decide +kernel
theorem dX4_note_14 : decode cX4_note 14 = .ok (.if_icmp .ge 26, 3) := by decide +kernel
theorem dX4_note_17 : decode cX4_note 17 = .ok (.aload_n 0, 1) := by decide +kernel
theorem dX4_note_18 : decode cX4_note 18 = .ok (.getfield 11, 3) := by decide +kernel
theorem dX4_note_21 : decode cX4_note 21 = .ok (.iload_n 2, 1) := by decide +kernel
theorem dX4_note_22 : decode cX4_note 22 = .ok (.iconst 1, 1) := by decide +kernel
theorem dX4_note_23 : decode cX4_note 23 = .ok (.iadd, 1) := by decide +kernel
theorem dX4_note_24 : decode cX4_note 24 = .ok (.aaload, 1) := by decide +kernel
theorem dX4_note_25 : decode cX4_note 25 = .ok (.aload_n 0, 1) := by decide +kernel
theorem dX4_note_26 : decode cX4_note 26 = .ok (.getfield 11, 3) := by decide +kernel
theorem dX4_note_29 : decode cX4_note 29 = .ok (.iload_n 2, 1) := by decide +kernel
theorem dX4_note_30 : decode cX4_note 30 = .ok (.aaload, 1) := by decide +kernel
theorem dX4_note_31 : decode cX4_note 31 = .ok (.invokestatic 23, 3) := by decide +kernel
theorem dX4_note_34 : decode cX4_note 34 = .ok (.iinc 2 1, 3) := by decide +kernel
theorem dX4_note_37 : decode cX4_note 37 = .ok (.goto (-26), 3) := by decide +kernel
theorem dX4_note_40 : decode cX4_note 40 = .ok (.aload_n 0, 1) := by decide +kernel
theorem dX4_note_41 : decode cX4_note 41 = .ok (.bipush 15, 2) := by decide +kernel
theorem dX4_note_43 : decode cX4_note 43 = .ok (.putfield 16, 3) := by decide +kernel
theorem dX4_note_46 : decode cX4_note 46 = .ok (.aload_n 0, 1) := by decide +kernel
theorem dX4_note_47 : decode cX4_note 47 = .ok (.dup, 1) := by decide +kernel
theorem dX4_note_48 : decode cX4_note 48 = .ok (.getfield 16, 3) := by decide +kernel
theorem dX4_note_51 : decode cX4_note 51 = .ok (.iconst 1, 1) := by decide +kernel
theorem dX4_note_52 : decode cX4_note 52 = .ok (.iadd, 1) := by decide +kernel
theorem dX4_note_53 : decode cX4_note 53 = .ok (.putfield 16, 3) := by decide +kernel
theorem dX4_note_56 : decode cX4_note 56 = .ok (.aload_n 0, 1) := by decide +kernel
theorem dX4_note_57 : decode cX4_note 57 = .ok (.aload_n 0, 1) := by decide +kernel
theorem dX4_note_58 : decode cX4_note 58 = .ok (.getfield 16, 3) := by decide +kernel
theorem dX4_note_61 : decode cX4_note 61 = .ok (.putfield 20, 3) := by decide +kernel
theorem dX4_note_64 : decode cX4_note 64 = .ok (.aload_n 1, 1) := by decide +kernel
theorem dX4_note_65 : decode cX4_note 65 = .ok (.aload_n 0, 1) := by decide +kernel
theorem dX4_note_66 : decode cX4_note 66 = .ok (.getfield 11, 3) := by decide +kernel
theorem dX4_note_69 : decode cX4_note 69 = .ok (.aload_n 0, 1) := by decide +kernel
theorem dX4_note_70 : decode cX4_note 70 = .ok (.getfield 16, 3) := by decide +kernel
theorem dX4_note_73 : decode cX4_note 73 = .ok (.aaload, 1) := by decide +kernel
theorem dX4_note_74 : decode cX4_note 74 = .ok (.invokestatic 23, 3) := by decide +kernel
theorem dX4_note_77 : decode cX4_note 77 = .ok (.return_, 1) := by decide +kernel
theorem dX4_goBack_0 : decode cX4_goBack 0 = .ok (.aload_n 0, 1) := by decide +kernel
theorem dX4_goBack_1 : decode cX4_goBack 1 = .ok (.getfield 16, 3) := by decide +kernel
theorem dX4_goBack_4 : decode cX4_goBack 4 = .ok (.ifCond .gt 5, 3) := by decide +kernel
theorem dX4_goBack_7 : decode cX4_goBack 7 = .ok (.iconst 0, 1) := by decide +kernel
theorem dX4_goBack_8 : decode cX4_goBack 8 = .ok (.ireturn, 1) := by decide +kernel
theorem dX4_goBack_9 : decode cX4_goBack 9 = .ok (.aload_n 0, 1) := by decide +kernel
theorem dX4_goBack_10 : decode cX4_goBack 10 = .ok (.dup, 1) := by decide +kernel
theorem dX4_goBack_11 : decode cX4_goBack 11 = .ok (.getfield 16, 3) := by decide +kernel
theorem dX4_goBack_14 : decode cX4_goBack 14 = .ok (.iconst 1, 1) := by decide +kernel
theorem dX4_goBack_15 : decode cX4_goBack 15 = .ok (.isub, 1) := by decide +kernel
theorem dX4_goBack_16 : decode cX4_goBack 16 = .ok (.putfield 16, 3) := by decide +kernel
theorem dX4_goBack_19 : decode cX4_goBack 19 = .ok (.aload_n 0, 1) := by decide +kernel
theorem dX4_goBack_20 : decode cX4_goBack 20 = .ok (.getfield 11, 3) := by decide +kernel
theorem dX4_goBack_23 : decode cX4_goBack 23 = .ok (.aload_n 0, 1) := by decide +kernel
theorem dX4_goBack_24 : decode cX4_goBack 24 = .ok (.getfield 16, 3) := by decide +kernel
theorem dX4_goBack_27 : decode cX4_goBack 27 = .ok (.aaload, 1) := by decide +kernel
theorem dX4_goBack_28 : decode cX4_goBack 28 = .ok (.aload_n 1, 1) := by decide +kernel
theorem dX4_goBack_29 : decode cX4_goBack 29 = .ok (.invokestatic 23, 3) := by decide +kernel
theorem dX4_goBack_32 : decode cX4_goBack 32 = .ok (.iconst 1, 1) := by decide +kernel
theorem dX4_goBack_33 : decode cX4_goBack 33 = .ok (.ireturn, 1) := by decide +kernel
theorem dX4_goAhead_0 : decode cX4_goAhead 0 = .ok (.aload_n 0, 1) := by decide +kernel
theorem dX4_goAhead_1 : decode cX4_goAhead 1 = .ok (.getfield 16, 3) := by decide +kernel
theorem dX4_goAhead_4 : decode cX4_goAhead 4 = .ok (.aload_n 0, 1) := by decide +kernel
theorem dX4_goAhead_5 : decode cX4_goAhead 5 = .ok (.getfield 20, 3) := by decide +kernel
theorem dX4_goAhead_8 : decode cX4_goAhead 8 = .ok (.if_icmp .lt 5, 3) := by decide +kernel
theorem dX4_goAhead_11 : decode cX4_goAhead 11 = .ok (.iconst 0, 1) := by decide +kernel
theorem dX4_goAhead_12 : decode cX4_goAhead 12 = .ok (.ireturn, 1) := by decide +kernel
theorem dX4_goAhead_13 : decode cX4_goAhead 13 = .ok (.aload_n 0, 1) := by decide +kernel
theorem dX4_goAhead_14 : decode cX4_goAhead 14 = .ok (.dup, 1) := by decide +kernel
theorem dX4_goAhead_15 : decode cX4_goAhead 15 = .ok (.getfield 16, 3) := by decide +kernel
theorem dX4_goAhead_18 : decode cX4_goAhead 18 = .ok (.iconst 1, 1) := by decide +kernel
theorem dX4_goAhead_19 : decode cX4_goAhead 19 = .ok (.iadd, 1) := by decide +kernel
theorem dX4_goAhead_20 : decode cX4_goAhead 20 = .ok (.putfield 16, 3) := by decide +kernel
theorem dX4_goAhead_23 : decode cX4_goAhead 23 = .ok (.aload_n 0, 1) := by decide +kernel
theorem dX4_goAhead_24 : decode cX4_goAhead 24 = .ok (.getfield 11, 3) := by decide +kernel
theorem dX4_goAhead_27 : decode cX4_goAhead 27 = .ok (.aload_n 0, 1) := by decide +kernel
theorem dX4_goAhead_28 : decode cX4_goAhead 28 = .ok (.getfield 16, 3) := by decide +kernel
theorem dX4_goAhead_31 : decode cX4_goAhead 31 = .ok (.aaload, 1) := by decide +kernel
theorem dX4_goAhead_32 : decode cX4_goAhead 32 = .ok (.aload_n 1, 1) := by decide +kernel
theorem dX4_goAhead_33 : decode cX4_goAhead 33 = .ok (.invokestatic 23, 3) := by decide +kernel
theorem dX4_goAhead_36 : decode cX4_goAhead 36 = .ok (.iconst 1, 1) := by decide +kernel
theorem dX4_goAhead_37 : decode cX4_goAhead 37 = .ok (.ireturn, 1) := by decide +kernel
theorem dX5_init_0 : decode cX5_init 0 = .ok (.aload_n 0, 1) := by decide +kernel
theorem dX5_init_1 : decode cX5_init 1 = .ok (.invokespecial 3, 3) := by decide +kernel
theorem dX5_init_4 : decode cX5_init 4 = .ok (.aload_n 0, 1) := by decide +kernel
theorem dX5_init_5 : decode cX5_init 5 = .ok (.iconst 0, 1) := by decide +kernel
theorem dX5_init_6 : decode cX5_init 6 = .ok (.putfield 9, 3) := by decide +kernel
theorem dX5_init_9 : decode cX5_init 9 = .ok (.aload_n 0, 1) := by decide +kernel
theorem dX5_init_10 : decode cX5_init 10 = .ok (.iconst 0, 1) := by decide +kernel
theorem dX5_init_11 : decode cX5_init 11 = .ok (.putfield 15, 3) := by decide +kernel
theorem dX5_init_14 : decode cX5_init 14 = .ok (.aload_n 0, 1) := by decide +kernel
theorem dX5_init_15 : decode cX5_init 15 = .ok (.bipush 24, 2) := by decide +kernel
theorem dX5_init_17 : decode cX5_init 17 = .ok (.newarray .int, 2) := by decide +kernel
theorem dX5_init_19 : decode cX5_init 19 = .ok (.putfield 18, 3) := by decide +kernel
theorem dX5_init_22 : decode cX5_init 22 = .ok (.aload_n 0, 1) := by decide +kernel
theorem dX5_init_23 : decode cX5_init 23 = .ok (.bipush 24, 2) := by decide +kernel
theorem dX5_init_25 : decode cX5_init 25 = .ok (.newarray .int, 2) := by decide +kernel
theorem dX5_init_27 : decode cX5_init 27 = .ok (.putfield 22, 3) := by decide +kernel
theorem dX5_init_30 : decode cX5_init 30 = .ok (.aload_n 0, 1) := by decide +kernel
theorem dX5_init_31 : decode cX5_init 31 = .ok (.bipush 24, 2) := by decide +kernel
theorem dX5_init_33 : decode cX5_init 33 = .ok (.newarray .int, 2) := by decide +kernel
theorem dX5_init_35 : decode cX5_init 35 = .ok (.putfield 25, 3) := by decide +kernel
theorem dX5_init_38 : decode cX5_init 38 = .ok (.aload_n 0, 1) := by decide +kernel
theorem dX5_init_39 : decode cX5_init 39 = .ok (.bipush 24, 2) := by decide +kernel
theorem dX5_init_41 : decode cX5_init 41 = .ok (.newarray .int, 2) := by decide +kernel
theorem dX5_init_43 : decode cX5_init 43 = .ok (.putfield 28, 3) := by decide +kernel
theorem dX5_init_46 : decode cX5_init 46 = .ok (.aload_n 0, 1) := by decide +kernel
theorem dX5_init_47 : decode cX5_init 47 = .ok (.bipush 24, 2) := by decide +kernel
theorem dX5_init_49 : decode cX5_init 49 = .ok (.newarray .int, 2) := by decide +kernel
theorem dX5_init_51 : decode cX5_init 51 = .ok (.putfield 31, 3) := by decide +kernel
theorem dX5_init_54 : decode cX5_init 54 = .ok (.aload_n 0, 1) := by decide +kernel
theorem dX5_init_55 : decode cX5_init 55 = .ok (.bipush 24, 2) := by decide +kernel
theorem dX5_init_57 : decode cX5_init 57 = .ok (.newarray .int, 2) := by decide +kernel
theorem dX5_init_59 : decode cX5_init 59 = .ok (.putfield 34, 3) := by decide +kernel
theorem dX5_init_62 : decode cX5_init 62 = .ok (.aload_n 0, 1) := by decide +kernel
theorem dX5_init_63 : decode cX5_init 63 = .ok (.bipush 6, 2) := by decide +kernel
theorem dX5_init_65 : decode cX5_init 65 = .ok (.newarray .int, 2) := by decide +kernel
theorem dX5_init_67 : decode cX5_init 67 = .ok (.putfield 37, 3) := by decide +kernel
theorem dX5_init_70 : decode cX5_init 70 = .ok (.return_, 1) := by decide +kernel
theorem dX5_clear_0 : decode cX5_clear 0 = .ok (.aload_n 0, 1) := by decide +kernel
theorem dX5_clear_1 : decode cX5_clear 1 = .ok (.iconst 0, 1) := by decide +kernel
theorem dX5_clear_2 : decode cX5_clear 2 = .ok (.putfield 9, 3) := by decide +kernel
theorem dX5_clear_5 : decode cX5_clear 5 = .ok (.aload_n 0, 1) := by decide +kernel
theorem dX5_clear_6 : decode cX5_clear 6 = .ok (.iconst 0, 1) := by decide +kernel
theorem dX5_clear_7 : decode cX5_clear 7 = .ok (.putfield 15, 3) := by decide +kernel
theorem dX5_clear_10 : decode cX5_clear 10 = .ok (.return_, 1) := by decide +kernel
theorem dX5_add_0 : decode cX5_add 0 = .ok (.aload_n 0, 1) := by decide +kernel
theorem dX5_add_1 : decode cX5_add 1 = .ok (.getfield 15, 3) := by decide +kernel
theorem dX5_add_4 : decode cX5_add 4 = .ok (.bipush 24, 2) := by decide +kernel
theorem dX5_add_6 : decode cX5_add 6 = .ok (.if_icmp .lt 4, 3) := by decide +kernel
theorem dX5_add_9 : decode cX5_add 9 = .ok (.return_, 1) := by decide +kernel
theorem dX5_add_10 : decode cX5_add 10 = .ok (.aload_n 0, 1) := by decide +kernel
theorem dX5_add_11 : decode cX5_add 11 = .ok (.getfield 18, 3) := by decide +kernel
theorem dX5_add_14 : decode cX5_add 14 = .ok (.aload_n 0, 1) := by decide +kernel
theorem dX5_add_15 : decode cX5_add 15 = .ok (.getfield 15, 3) := by decide +kernel
theorem dX5_add_18 : decode cX5_add 18 = .ok (.iload_n 1, 1) := by decide +kernel
theorem dX5_add_19 : decode cX5_add 19 = .ok (.iastore, 1) := by decide +kernel
theorem dX5_add_20 : decode cX5_add 20 = .ok (.aload_n 0, 1) := by decide +kernel
theorem dX5_add_21 : decode cX5_add 21 = .ok (.getfield 22, 3) := by decide +kernel
theorem dX5_add_24 : decode cX5_add 24 = .ok (.aload_n 0, 1) := by decide +kernel
theorem dX5_add_25 : decode cX5_add 25 = .ok (.getfield 15, 3) := by decide +kernel
theorem dX5_add_28 : decode cX5_add 28 = .ok (.iload_n 2, 1) := by decide +kernel
theorem dX5_add_29 : decode cX5_add 29 = .ok (.iastore, 1) := by decide +kernel
theorem dX5_add_30 : decode cX5_add 30 = .ok (.aload_n 0, 1) := by decide +kernel
theorem dX5_add_31 : decode cX5_add 31 = .ok (.getfield 25, 3) := by decide +kernel
theorem dX5_add_34 : decode cX5_add 34 = .ok (.aload_n 0, 1) := by decide +kernel
theorem dX5_add_35 : decode cX5_add 35 = .ok (.getfield 15, 3) := by decide +kernel
theorem dX5_add_38 : decode cX5_add 38 = .ok (.iload_n 3, 1) := by decide +kernel
theorem dX5_add_39 : decode cX5_add 39 = .ok (.iastore, 1) := by decide +kernel
theorem dX5_add_40 : decode cX5_add 40 = .ok (.aload_n 0, 1) := by decide +kernel
theorem dX5_add_41 : decode cX5_add 41 = .ok (.getfield 28, 3) := by decide +kernel
theorem dX5_add_44 : decode cX5_add 44 = .ok (.aload_n 0, 1) := by decide +kernel
theorem dX5_add_45 : decode cX5_add 45 = .ok (.getfield 15, 3) := by decide +kernel
theorem dX5_add_48 : decode cX5_add 48 = .ok (.iload 4, 2) := by decide +kernel
theorem dX5_add_50 : decode cX5_add 50 = .ok (.iastore, 1) := by decide +kernel
theorem dX5_add_51 : decode cX5_add 51 = .ok (.aload_n 0, 1) := by decide +kernel
theorem dX5_add_52 : decode cX5_add 52 = .ok (.dup, 1) := by decide +kernel
theorem dX5_add_53 : decode cX5_add 53 = .ok (.getfield 15, 3) := by decide +kernel
theorem dX5_add_56 : decode cX5_add 56 = .ok (.iconst 1, 1) := by decide +kernel
theorem dX5_add_57 : decode cX5_add 57 = .ok (.iadd, 1) := by decide +kernel
theorem dX5_add_58 : decode cX5_add 58 = .ok (.putfield 15, 3) := by decide +kernel
theorem dX5_add_61 : decode cX5_add 61 = .ok (.aload_n 0, 1) := by decide +kernel
theorem dX5_add_62 : decode cX5_add 62 = .ok (.iload_n 1, 1) := by decide +kernel
theorem dX5_add_63 : decode cX5_add 63 = .ok (.iconst 1, 1) := by decide +kernel
theorem dX5_add_64 : decode cX5_add 64 = .ok (.iadd, 1) := by decide +kernel
theorem dX5_add_65 : decode cX5_add 65 = .ok (.putfield 9, 3) := by decide +kernel
theorem dX5_add_68 : decode cX5_add 68 = .ok (.return_, 1) := by decide +kernel
theorem dX5_finish_0 : decode cX5_finish 0 = .ok (.iconst 0, 1) := by decide +kernel
theorem dX5_finish_1 : decode cX5_finish 1 = .ok (.istore_n 1, 1) := by decide +kernel
theorem dX5_finish_2 : decode cX5_finish 2 = .ok (.iload_n 1, 1) := by decide +kernel
theorem dX5_finish_3 : decode cX5_finish 3 = .ok (.aload_n 0, 1) := by decide +kernel
theorem dX5_finish_4 : decode cX5_finish 4 = .ok (.getfield 15, 3) := by decide +kernel
theorem dX5_finish_7 : decode cX5_finish 7 = .ok (.if_icmp .ge 43, 3) := by decide +kernel
theorem dX5_finish_10 : decode cX5_finish 10 = .ok (.aload_n 0, 1) := by decide +kernel
theorem dX5_finish_11 : decode cX5_finish 11 = .ok (.iload_n 1, 1) := by decide +kernel
theorem dX5_finish_12 : decode cX5_finish 12 = .ok (.invokevirtual 40, 3) := by decide +kernel
theorem dX5_finish_15 : decode cX5_finish 15 = .ok (.istore_n 2, 1) := by decide +kernel
theorem dX5_finish_16 : decode cX5_finish 16 = .ok (.aload_n 0, 1) := by decide +kernel
theorem dX5_finish_17 : decode cX5_finish 17 = .ok (.getfield 31, 3) := by decide +kernel
theorem dX5_finish_20 : decode cX5_finish 20 = .ok (.iload_n 1, 1) := by decide +kernel
theorem dX5_finish_21 : decode cX5_finish 21 = .ok (.iload_n 2, 1) := by decide +kernel
theorem dX5_finish_22 : decode cX5_finish 22 = .ok (.iconst (-1), 1) := by decide +kernel
theorem dX5_finish_23 : decode cX5_finish 23 = .ok (.if_icmp .ne 7, 3) := by decide +kernel
theorem dX5_finish_26 : decode cX5_finish 26 = .ok (.iconst 0, 1) := by decide +kernel
theorem dX5_finish_27 : decode cX5_finish 27 = .ok (.goto 16, 3) := by decide +kernel
theorem dX5_finish_30 : decode cX5_finish 30 = .ok (.aload_n 0, 1) := by decide +kernel
theorem dX5_finish_31 : decode cX5_finish 31 = .ok (.getfield 31, 3) := by decide +kernel
theorem dX5_finish_34 : decode cX5_finish 34 = .ok (.iload_n 2, 1) := by decide +kernel
theorem dX5_finish_35 : decode cX5_finish 35 = .ok (.iaload, 1) := by decide +kernel
theorem dX5_finish_36 : decode cX5_finish 36 = .ok (.aload_n 0, 1) := by decide +kernel
theorem dX5_finish_37 : decode cX5_finish 37 = .ok (.getfield 28, 3) := by decide +kernel
theorem dX5_finish_40 : decode cX5_finish 40 = .ok (.iload_n 2, 1) := by decide +kernel
theorem dX5_finish_41 : decode cX5_finish 41 = .ok (.iaload, 1) := by decide +kernel
theorem dX5_finish_42 : decode cX5_finish 42 = .ok (.iadd, 1) := by decide +kernel
theorem dX5_finish_43 : decode cX5_finish 43 = .ok (.iastore, 1) := by decide +kernel
theorem dX5_finish_44 : decode cX5_finish 44 = .ok (.iinc 1 1, 3) := by decide +kernel
theorem dX5_finish_47 : decode cX5_finish 47 = .ok (.goto (-45), 3) := by decide +kernel
theorem dX5_finish_50 : decode cX5_finish 50 = .ok (.aload_n 0, 1) := by decide +kernel
theorem dX5_finish_51 : decode cX5_finish 51 = .ok (.getfield 15, 3) := by decide +kernel
theorem dX5_finish_54 : decode cX5_finish 54 = .ok (.iconst 1, 1) := by decide +kernel
theorem dX5_finish_55 : decode cX5_finish 55 = .ok (.isub, 1) := by decide +kernel
theorem dX5_finish_56 : decode cX5_finish 56 = .ok (.istore_n 1, 1) := by decide +kernel
theorem dX5_finish_57 : decode cX5_finish 57 = .ok (.iload_n 1, 1) := by decide +kernel
theorem dX5_finish_58 : decode cX5_finish 58 = .ok (.ifCond .lt 43, 3) := by decide +kernel
theorem dX5_finish_61 : decode cX5_finish 61 = .ok (.aload_n 0, 1) := by decide +kernel
theorem dX5_finish_62 : decode cX5_finish 62 = .ok (.iload_n 1, 1) := by decide +kernel
theorem dX5_finish_63 : decode cX5_finish 63 = .ok (.invokevirtual 44, 3) := by decide +kernel
theorem dX5_finish_66 : decode cX5_finish 66 = .ok (.istore_n 2, 1) := by decide +kernel
theorem dX5_finish_67 : decode cX5_finish 67 = .ok (.aload_n 0, 1) := by decide +kernel
theorem dX5_finish_68 : decode cX5_finish 68 = .ok (.getfield 34, 3) := by decide +kernel
theorem dX5_finish_71 : decode cX5_finish 71 = .ok (.iload_n 1, 1) := by decide +kernel
theorem dX5_finish_72 : decode cX5_finish 72 = .ok (.iload_n 2, 1) := by decide +kernel
theorem dX5_finish_73 : decode cX5_finish 73 = .ok (.iconst (-1), 1) := by decide +kernel
theorem dX5_finish_74 : decode cX5_finish 74 = .ok (.if_icmp .ne 7, 3) := by decide +kernel
theorem dX5_finish_77 : decode cX5_finish 77 = .ok (.iconst 0, 1) := by decide +kernel
theorem dX5_finish_78 : decode cX5_finish 78 = .ok (.goto 16, 3) := by decide +kernel
theorem dX5_finish_81 : decode cX5_finish 81 = .ok (.aload_n 0, 1) := by decide +kernel
theorem dX5_finish_82 : decode cX5_finish 82 = .ok (.getfield 34, 3) := by decide +kernel
theorem dX5_finish_85 : decode cX5_finish 85 = .ok (.iload_n 2, 1) := by decide +kernel
theorem dX5_finish_86 : decode cX5_finish 86 = .ok (.iaload, 1) := by decide +kernel
theorem dX5_finish_87 : decode cX5_finish 87 = .ok (.aload_n 0, 1) := by decide +kernel
theorem dX5_finish_88 : decode cX5_finish 88 = .ok (.getfield 28, 3) := by decide +kernel
theorem dX5_finish_91 : decode cX5_finish 91 = .ok (.iload_n 2, 1) := by decide +kernel
theorem dX5_finish_92 : decode cX5_finish 92 = .ok (.iaload, 1) := by decide +kernel
theorem dX5_finish_93 : decode cX5_finish 93 = .ok (.iadd, 1) := by decide +kernel
theorem dX5_finish_94 : decode cX5_finish 94 = .ok (.iastore, 1) := by decide +kernel
theorem dX5_finish_95 : decode cX5_finish 95 = .ok (.iinc 1 (-1), 3) := by decide +kernel
theorem dX5_finish_98 : decode cX5_finish 98 = .ok (.goto (-41), 3) := by decide +kernel
theorem dX5_finish_101 : decode cX5_finish 101 = .ok (.aload_n 0, 1) := by decide +kernel
theorem dX5_finish_102 : decode cX5_finish 102 = .ok (.getfield 37, 3) := by decide +kernel
theorem dX5_finish_105 : decode cX5_finish 105 = .ok (.iconst 0, 1) := by decide +kernel
theorem dX5_finish_106 : decode cX5_finish 106 = .ok (.iconst 0, 1) := by decide +kernel
theorem dX5_finish_107 : decode cX5_finish 107 = .ok (.iastore, 1) := by decide +kernel
theorem dX5_finish_108 : decode cX5_finish 108 = .ok (.iconst 0, 1) := by decide +kernel
theorem dX5_finish_109 : decode cX5_finish 109 = .ok (.istore_n 1, 1) := by decide +kernel
theorem dX5_finish_110 : decode cX5_finish 110 = .ok (.iload_n 1, 1) := by decide +kernel
theorem dX5_finish_111 : decode cX5_finish 111 = .ok (.iconst 5, 1) := by decide +kernel
theorem dX5_finish_112 : decode cX5_finish 112 = .ok (.if_icmp .ge 61, 3) := by decide +kernel
theorem dX5_finish_115 : decode cX5_finish 115 = .ok (.iconst 0, 1) := by decide +kernel
theorem dX5_finish_116 : decode cX5_finish 116 = .ok (.istore_n 2, 1) := by decide +kernel
theorem dX5_finish_117 : decode cX5_finish 117 = .ok (.iconst 0, 1) := by decide +kernel
theorem dX5_finish_118 : decode cX5_finish 118 = .ok (.istore_n 3, 1) := by decide +kernel
theorem dX5_finish_119 : decode cX5_finish 119 = .ok (.iload_n 3, 1) := by decide +kernel
theorem dX5_finish_120 : decode cX5_finish 120 = .ok (.aload_n 0, 1) := by decide +kernel
theorem dX5_finish_121 : decode cX5_finish 121 = .ok (.getfield 15, 3) := by decide +kernel
theorem dX5_finish_124 : decode cX5_finish 124 = .ok (.if_icmp .ge 27, 3) := by decide +kernel
theorem dX5_finish_127 : decode cX5_finish 127 = .ok (.iload_n 2, 1) := by decide +kernel
theorem dX5_finish_128 : decode cX5_finish 128 = .ok (.aload_n 0, 1) := by decide +kernel
theorem dX5_finish_129 : decode cX5_finish 129 = .ok (.getfield 25, 3) := by decide +kernel
theorem dX5_finish_132 : decode cX5_finish 132 = .ok (.iload_n 3, 1) := by decide +kernel
theorem dX5_finish_133 : decode cX5_finish 133 = .ok (.iaload, 1) := by decide +kernel
theorem dX5_finish_134 : decode cX5_finish 134 = .ok (.iload_n 1, 1) := by decide +kernel
theorem dX5_finish_135 : decode cX5_finish 135 = .ok (.if_icmp .ne 7, 3) := by decide +kernel
theorem dX5_finish_138 : decode cX5_finish 138 = .ok (.iconst 1, 1) := by decide +kernel
theorem dX5_finish_139 : decode cX5_finish 139 = .ok (.goto 4, 3) := by decide +kernel
theorem dX5_finish_142 : decode cX5_finish 142 = .ok (.iconst 0, 1) := by decide +kernel
theorem dX5_finish_143 : decode cX5_finish 143 = .ok (.iadd, 1) := by decide +kernel
theorem dX5_finish_144 : decode cX5_finish 144 = .ok (.istore_n 2, 1) := by decide +kernel
theorem dX5_finish_145 : decode cX5_finish 145 = .ok (.iinc 3 1, 3) := by decide +kernel
theorem dX5_finish_148 : decode cX5_finish 148 = .ok (.goto (-29), 3) := by decide +kernel
theorem dX5_finish_151 : decode cX5_finish 151 = .ok (.aload_n 0, 1) := by decide +kernel
theorem dX5_finish_152 : decode cX5_finish 152 = .ok (.getfield 37, 3) := by decide +kernel
theorem dX5_finish_155 : decode cX5_finish 155 = .ok (.iload_n 1, 1) := by decide +kernel
theorem dX5_finish_156 : decode cX5_finish 156 = .ok (.iconst 1, 1) := by decide +kernel
theorem dX5_finish_157 : decode cX5_finish 157 = .ok (.iadd, 1) := by decide +kernel
theorem dX5_finish_158 : decode cX5_finish 158 = .ok (.aload_n 0, 1) := by decide +kernel
theorem dX5_finish_159 : decode cX5_finish 159 = .ok (.getfield 37, 3) := by decide +kernel
theorem dX5_finish_162 : decode cX5_finish 162 = .ok (.iload_n 1, 1) := by decide +kernel
theorem dX5_finish_163 : decode cX5_finish 163 = .ok (.iaload, 1) := by decide +kernel
theorem dX5_finish_164 : decode cX5_finish 164 = .ok (.iload_n 2, 1) := by decide +kernel
theorem dX5_finish_165 : decode cX5_finish 165 = .ok (.iadd, 1) := by decide +kernel
theorem dX5_finish_166 : decode cX5_finish 166 = .ok (.iastore, 1) := by decide +kernel
theorem dX5_finish_167 : decode cX5_finish 167 = .ok (.iinc 1 1, 3) := by decide +kernel
theorem dX5_finish_170 : decode cX5_finish 170 = .ok (.goto (-60), 3) := by decide +kernel
theorem dX5_finish_173 : decode cX5_finish 173 = .ok (.return_, 1) := by decide +kernel
theorem dX5_copyOf_0 : decode cX5_copyOf 0 = .ok (.aload_n 0, 1) := by decide +kernel
theorem dX5_copyOf_1 : decode cX5_copyOf 1 = .ok (.aload_n 1, 1) := by decide +kernel
theorem dX5_copyOf_2 : decode cX5_copyOf 2 = .ok (.getfield 9, 3) := by decide +kernel
theorem dX5_copyOf_5 : decode cX5_copyOf 5 = .ok (.putfield 9, 3) := by decide +kernel
theorem dX5_copyOf_8 : decode cX5_copyOf 8 = .ok (.aload_n 0, 1) := by decide +kernel
theorem dX5_copyOf_9 : decode cX5_copyOf 9 = .ok (.aload_n 1, 1) := by decide +kernel
theorem dX5_copyOf_10 : decode cX5_copyOf 10 = .ok (.getfield 15, 3) := by decide +kernel
theorem dX5_copyOf_13 : decode cX5_copyOf 13 = .ok (.putfield 15, 3) := by decide +kernel
theorem dX5_copyOf_16 : decode cX5_copyOf 16 = .ok (.aload_n 1, 1) := by decide +kernel
theorem dX5_copyOf_17 : decode cX5_copyOf 17 = .ok (.getfield 18, 3) := by decide +kernel
theorem dX5_copyOf_20 : decode cX5_copyOf 20 = .ok (.aload_n 0, 1) := by decide +kernel
theorem dX5_copyOf_21 : decode cX5_copyOf 21 = .ok (.getfield 18, 3) := by decide +kernel
theorem dX5_copyOf_24 : decode cX5_copyOf 24 = .ok (.invokestatic 47, 3) := by decide +kernel
theorem dX5_copyOf_27 : decode cX5_copyOf 27 = .ok (.aload_n 1, 1) := by decide +kernel
theorem dX5_copyOf_28 : decode cX5_copyOf 28 = .ok (.getfield 22, 3) := by decide +kernel
theorem dX5_copyOf_31 : decode cX5_copyOf 31 = .ok (.aload_n 0, 1) := by decide +kernel
theorem dX5_copyOf_32 : decode cX5_copyOf 32 = .ok (.getfield 22, 3) := by decide +kernel
theorem dX5_copyOf_35 : decode cX5_copyOf 35 = .ok (.invokestatic 47, 3) := by decide +kernel
theorem dX5_copyOf_38 : decode cX5_copyOf 38 = .ok (.aload_n 1, 1) := by decide +kernel
theorem dX5_copyOf_39 : decode cX5_copyOf 39 = .ok (.getfield 25, 3) := by decide +kernel
theorem dX5_copyOf_42 : decode cX5_copyOf 42 = .ok (.aload_n 0, 1) := by decide +kernel
theorem dX5_copyOf_43 : decode cX5_copyOf 43 = .ok (.getfield 25, 3) := by decide +kernel
theorem dX5_copyOf_46 : decode cX5_copyOf 46 = .ok (.invokestatic 47, 3) := by decide +kernel
theorem dX5_copyOf_49 : decode cX5_copyOf 49 = .ok (.aload_n 1, 1) := by decide +kernel
theorem dX5_copyOf_50 : decode cX5_copyOf 50 = .ok (.getfield 28, 3) := by decide +kernel
theorem dX5_copyOf_53 : decode cX5_copyOf 53 = .ok (.aload_n 0, 1) := by decide +kernel
theorem dX5_copyOf_54 : decode cX5_copyOf 54 = .ok (.getfield 28, 3) := by decide +kernel
theorem dX5_copyOf_57 : decode cX5_copyOf 57 = .ok (.invokestatic 47, 3) := by decide +kernel
theorem dX5_copyOf_60 : decode cX5_copyOf 60 = .ok (.aload_n 1, 1) := by decide +kernel
theorem dX5_copyOf_61 : decode cX5_copyOf 61 = .ok (.getfield 31, 3) := by decide +kernel
theorem dX5_copyOf_64 : decode cX5_copyOf 64 = .ok (.aload_n 0, 1) := by decide +kernel
theorem dX5_copyOf_65 : decode cX5_copyOf 65 = .ok (.getfield 31, 3) := by decide +kernel
theorem dX5_copyOf_68 : decode cX5_copyOf 68 = .ok (.invokestatic 47, 3) := by decide +kernel
theorem dX5_copyOf_71 : decode cX5_copyOf 71 = .ok (.aload_n 1, 1) := by decide +kernel
theorem dX5_copyOf_72 : decode cX5_copyOf 72 = .ok (.getfield 34, 3) := by decide +kernel
theorem dX5_copyOf_75 : decode cX5_copyOf 75 = .ok (.aload_n 0, 1) := by decide +kernel
theorem dX5_copyOf_76 : decode cX5_copyOf 76 = .ok (.getfield 34, 3) := by decide +kernel
theorem dX5_copyOf_79 : decode cX5_copyOf 79 = .ok (.invokestatic 47, 3) := by decide +kernel
theorem dX5_copyOf_82 : decode cX5_copyOf 82 = .ok (.aload_n 1, 1) := by decide +kernel
theorem dX5_copyOf_83 : decode cX5_copyOf 83 = .ok (.getfield 37, 3) := by decide +kernel
theorem dX5_copyOf_86 : decode cX5_copyOf 86 = .ok (.iconst 0, 1) := by decide +kernel
theorem dX5_copyOf_87 : decode cX5_copyOf 87 = .ok (.aload_n 0, 1) := by decide +kernel
theorem dX5_copyOf_88 : decode cX5_copyOf 88 = .ok (.getfield 37, 3) := by decide +kernel
theorem dX5_copyOf_91 : decode cX5_copyOf 91 = .ok (.iconst 0, 1) := by decide +kernel
theorem dX5_copyOf_92 : decode cX5_copyOf 92 = .ok (.bipush 6, 2) := by decide +kernel
theorem dX5_copyOf_94 : decode cX5_copyOf 94 = .ok (.invokestatic 51, 3) := by decide +kernel
theorem dX5_copyOf_97 : decode cX5_copyOf 97 = .ok (.return_, 1) := by decide +kernel
theorem dX5_orderByNumbers_0 : decode cX5_orderByNumbers 0 = .ok (.iconst 0, 1) := by decide +kernel
theorem dX5_orderByNumbers_1 : decode cX5_orderByNumbers 1 = .ok (.istore_n 2, 1) := by decide +kernel
theorem dX5_orderByNumbers_2 : decode cX5_orderByNumbers 2 = .ok (.iconst 0, 1) := by decide +kernel
theorem dX5_orderByNumbers_3 : decode cX5_orderByNumbers 3 = .ok (.istore_n 3, 1) := by decide +kernel
theorem dX5_orderByNumbers_4 : decode cX5_orderByNumbers 4 = .ok (.iload_n 3, 1) := by decide +kernel
theorem dX5_orderByNumbers_5 : decode cX5_orderByNumbers 5 = .ok (.iconst 5, 1) := by decide +kernel
theorem dX5_orderByNumbers_6 : decode cX5_orderByNumbers 6 = .ok (.if_icmp .ge 46, 3) := by decide +kernel
theorem dX5_orderByNumbers_9 : decode cX5_orderByNumbers 9 = .ok (.iconst 0, 1) := by decide +kernel
theorem dX5_orderByNumbers_10 : decode cX5_orderByNumbers 10 = .ok (.istore 4, 2) := by decide +kernel
theorem dX5_orderByNumbers_12 : decode cX5_orderByNumbers 12 = .ok (.iload 4, 2) := by decide +kernel
theorem dX5_orderByNumbers_14 : decode cX5_orderByNumbers 14 = .ok (.aload_n 0, 1) := by decide +kernel
theorem dX5_orderByNumbers_15 : decode cX5_orderByNumbers 15 = .ok (.getfield 15, 3) := by decide +kernel
theorem dX5_orderByNumbers_18 : decode cX5_orderByNumbers 18 = .ok (.if_icmp .ge 28, 3) := by decide +kernel
theorem dX5_orderByNumbers_21 : decode cX5_orderByNumbers 21 = .ok (.aload_n 0, 1) := by decide +kernel
theorem dX5_orderByNumbers_22 : decode cX5_orderByNumbers 22 = .ok (.getfield 25, 3) := by decide +kernel
theorem dX5_orderByNumbers_25 : decode cX5_orderByNumbers 25 = .ok (.iload 4, 2) := by decide +kernel
theorem dX5_orderByNumbers_27 : decode cX5_orderByNumbers 27 = .ok (.iaload, 1) := by decide +kernel
theorem dX5_orderByNumbers_28 : decode cX5_orderByNumbers 28 = .ok (.iload_n 3, 1) := by decide +kernel
theorem dX5_orderByNumbers_29 : decode cX5_orderByNumbers 29 = .ok (.if_icmp .ne 11, 3) := by decide +kernel
theorem dX5_orderByNumbers_32 : decode cX5_orderByNumbers 32 = .ok (.aload_n 1, 1) := by decide +kernel
theorem dX5_orderByNumbers_33 : decode cX5_orderByNumbers 33 = .ok (.iload_n 2, 1) := by decide +kernel
theorem dX5_orderByNumbers_34 : decode cX5_orderByNumbers 34 = .ok (.iload 4, 2) := by decide +kernel
theorem dX5_orderByNumbers_36 : decode cX5_orderByNumbers 36 = .ok (.iastore, 1) := by decide +kernel
theorem dX5_orderByNumbers_37 : decode cX5_orderByNumbers 37 = .ok (.iinc 2 1, 3) := by decide +kernel
theorem dX5_orderByNumbers_40 : decode cX5_orderByNumbers 40 = .ok (.iinc 4 1, 3) := by decide +kernel
theorem dX5_orderByNumbers_43 : decode cX5_orderByNumbers 43 = .ok (.goto (-31), 3) := by decide +kernel
theorem dX5_orderByNumbers_46 : decode cX5_orderByNumbers 46 = .ok (.iinc 3 1, 3) := by decide +kernel
theorem dX5_orderByNumbers_49 : decode cX5_orderByNumbers 49 = .ok (.goto (-45), 3) := by decide +kernel
theorem dX5_orderByNumbers_52 : decode cX5_orderByNumbers 52 = .ok (.return_, 1) := by decide +kernel
theorem dX5_tasksOn_0 : decode cX5_tasksOn 0 = .ok (.aload_n 0, 1) := by decide +kernel
theorem dX5_tasksOn_1 : decode cX5_tasksOn 1 = .ok (.getfield 37, 3) := by decide +kernel
theorem dX5_tasksOn_4 : decode cX5_tasksOn 4 = .ok (.iload_n 1, 1) := by decide +kernel
theorem dX5_tasksOn_5 : decode cX5_tasksOn 5 = .ok (.iconst 1, 1) := by decide +kernel
theorem dX5_tasksOn_6 : decode cX5_tasksOn 6 = .ok (.iadd, 1) := by decide +kernel
theorem dX5_tasksOn_7 : decode cX5_tasksOn 7 = .ok (.iaload, 1) := by decide +kernel
theorem dX5_tasksOn_8 : decode cX5_tasksOn 8 = .ok (.aload_n 0, 1) := by decide +kernel
theorem dX5_tasksOn_9 : decode cX5_tasksOn 9 = .ok (.getfield 37, 3) := by decide +kernel
theorem dX5_tasksOn_12 : decode cX5_tasksOn 12 = .ok (.iload_n 1, 1) := by decide +kernel
theorem dX5_tasksOn_13 : decode cX5_tasksOn 13 = .ok (.iaload, 1) := by decide +kernel
theorem dX5_tasksOn_14 : decode cX5_tasksOn 14 = .ok (.isub, 1) := by decide +kernel
theorem dX5_tasksOn_15 : decode cX5_tasksOn 15 = .ok (.ireturn, 1) := by decide +kernel
theorem dX5_jobAhead_0 : decode cX5_jobAhead 0 = .ok (.aload_n 0, 1) := by decide +kernel
theorem dX5_jobAhead_1 : decode cX5_jobAhead 1 = .ok (.getfield 22, 3) := by decide +kernel
theorem dX5_jobAhead_4 : decode cX5_jobAhead 4 = .ok (.iload_n 1, 1) := by decide +kernel
theorem dX5_jobAhead_5 : decode cX5_jobAhead 5 = .ok (.iaload, 1) := by decide +kernel
theorem dX5_jobAhead_6 : decode cX5_jobAhead 6 = .ok (.ifCond .le 9, 3) := by decide +kernel
theorem dX5_jobAhead_9 : decode cX5_jobAhead 9 = .ok (.iload_n 1, 1) := by decide +kernel
theorem dX5_jobAhead_10 : decode cX5_jobAhead 10 = .ok (.iconst 1, 1) := by decide +kernel
theorem dX5_jobAhead_11 : decode cX5_jobAhead 11 = .ok (.isub, 1) := by decide +kernel
theorem dX5_jobAhead_12 : decode cX5_jobAhead 12 = .ok (.goto 4, 3) := by decide +kernel
theorem dX5_jobAhead_15 : decode cX5_jobAhead 15 = .ok (.iconst (-1), 1) := by decide +kernel
theorem dX5_jobAhead_16 : decode cX5_jobAhead 16 = .ok (.ireturn, 1) := by decide +kernel
theorem dX5_jobNext_0 : decode cX5_jobNext 0 = .ok (.iload_n 1, 1) := by decide +kernel
theorem dX5_jobNext_1 : decode cX5_jobNext 1 = .ok (.iconst 1, 1) := by decide +kernel
theorem dX5_jobNext_2 : decode cX5_jobNext 2 = .ok (.iadd, 1) := by decide +kernel
theorem dX5_jobNext_3 : decode cX5_jobNext 3 = .ok (.aload_n 0, 1) := by decide +kernel
theorem dX5_jobNext_4 : decode cX5_jobNext 4 = .ok (.getfield 15, 3) := by decide +kernel
theorem dX5_jobNext_7 : decode cX5_jobNext 7 = .ok (.if_icmp .ge 26, 3) := by decide +kernel
theorem dX5_jobNext_10 : decode cX5_jobNext 10 = .ok (.aload_n 0, 1) := by decide +kernel
theorem dX5_jobNext_11 : decode cX5_jobNext 11 = .ok (.getfield 18, 3) := by decide +kernel
theorem dX5_jobNext_14 : decode cX5_jobNext 14 = .ok (.iload_n 1, 1) := by decide +kernel
theorem dX5_jobNext_15 : decode cX5_jobNext 15 = .ok (.iconst 1, 1) := by decide +kernel
theorem dX5_jobNext_16 : decode cX5_jobNext 16 = .ok (.iadd, 1) := by decide +kernel
theorem dX5_jobNext_17 : decode cX5_jobNext 17 = .ok (.iaload, 1) := by decide +kernel
theorem dX5_jobNext_18 : decode cX5_jobNext 18 = .ok (.aload_n 0, 1) := by decide +kernel
theorem dX5_jobNext_19 : decode cX5_jobNext 19 = .ok (.getfield 18, 3) := by decide +kernel
theorem dX5_jobNext_22 : decode cX5_jobNext 22 = .ok (.iload_n 1, 1) := by decide +kernel
theorem dX5_jobNext_23 : decode cX5_jobNext 23 = .ok (.iaload, 1) := by decide +kernel
theorem dX5_jobNext_24 : decode cX5_jobNext 24 = .ok (.if_icmp .ne 9, 3) := by decide +kernel
theorem dX5_jobNext_27 : decode cX5_jobNext 27 = .ok (.iload_n 1, 1) := by decide +kernel
theorem dX5_jobNext_28 : decode cX5_jobNext 28 = .ok (.iconst 1, 1) := by decide +kernel
theorem dX5_jobNext_29 : decode cX5_jobNext 29 = .ok (.iadd, 1) := by decide +kernel
theorem dX5_jobNext_30 : decode cX5_jobNext 30 = .ok (.goto 4, 3) := by decide +kernel
theorem dX5_jobNext_33 : decode cX5_jobNext 33 = .ok (.iconst (-1), 1) := by decide +kernel
theorem dX5_jobNext_34 : decode cX5_jobNext 34 = .ok (.ireturn, 1) := by decide +kernel
theorem dX5_longestJob_0 : decode cX5_longestJob 0 = .ok (.iconst 0, 1) := by decide +kernel
theorem dX5_longestJob_1 : decode cX5_longestJob 1 = .ok (.istore_n 1, 1) := by decide +kernel
theorem dX5_longestJob_2 : decode cX5_longestJob 2 = .ok (.iconst 0, 1) := by decide +kernel
theorem dX5_longestJob_3 : decode cX5_longestJob 3 = .ok (.istore_n 2, 1) := by decide +kernel
theorem dX5_longestJob_4 : decode cX5_longestJob 4 = .ok (.iload_n 2, 1) := by decide +kernel
theorem dX5_longestJob_5 : decode cX5_longestJob 5 = .ok (.aload_n 0, 1) := by decide +kernel
theorem dX5_longestJob_6 : decode cX5_longestJob 6 = .ok (.getfield 15, 3) := by decide +kernel
theorem dX5_longestJob_9 : decode cX5_longestJob 9 = .ok (.if_icmp .ge 27, 3) := by decide +kernel
theorem dX5_longestJob_12 : decode cX5_longestJob 12 = .ok (.iload_n 1, 1) := by decide +kernel
theorem dX5_longestJob_13 : decode cX5_longestJob 13 = .ok (.aload_n 0, 1) := by decide +kernel
theorem dX5_longestJob_14 : decode cX5_longestJob 14 = .ok (.getfield 31, 3) := by decide +kernel
theorem dX5_longestJob_17 : decode cX5_longestJob 17 = .ok (.iload_n 2, 1) := by decide +kernel
theorem dX5_longestJob_18 : decode cX5_longestJob 18 = .ok (.iaload, 1) := by decide +kernel
theorem dX5_longestJob_19 : decode cX5_longestJob 19 = .ok (.aload_n 0, 1) := by decide +kernel
theorem dX5_longestJob_20 : decode cX5_longestJob 20 = .ok (.getfield 28, 3) := by decide +kernel
theorem dX5_longestJob_23 : decode cX5_longestJob 23 = .ok (.iload_n 2, 1) := by decide +kernel
theorem dX5_longestJob_24 : decode cX5_longestJob 24 = .ok (.iaload, 1) := by decide +kernel
theorem dX5_longestJob_25 : decode cX5_longestJob 25 = .ok (.iadd, 1) := by decide +kernel
theorem dX5_longestJob_26 : decode cX5_longestJob 26 = .ok (.invokestatic 57, 3) := by decide +kernel
theorem dX5_longestJob_29 : decode cX5_longestJob 29 = .ok (.istore_n 1, 1) := by decide +kernel
theorem dX5_longestJob_30 : decode cX5_longestJob 30 = .ok (.iinc 2 1, 3) := by decide +kernel
theorem dX5_longestJob_33 : decode cX5_longestJob 33 = .ok (.goto (-29), 3) := by decide +kernel
theorem dX5_longestJob_36 : decode cX5_longestJob 36 = .ok (.iload_n 1, 1) := by decide +kernel
theorem dX5_longestJob_37 : decode cX5_longestJob 37 = .ok (.ireturn, 1) := by decide +kernel
theorem dX6_init_0 : decode cX6_init 0 = .ok (.aload_n 0, 1) := by decide +kernel
theorem dX6_init_1 : decode cX6_init 1 = .ok (.invokespecial 3, 3) := by decide +kernel
theorem dX6_init_4 : decode cX6_init 4 = .ok (.aload_n 0, 1) := by decide +kernel
theorem dX6_init_5 : decode cX6_init 5 = .ok (.bipush 24, 2) := by decide +kernel
theorem dX6_init_7 : decode cX6_init 7 = .ok (.newarray .int, 2) := by decide +kernel
theorem dX6_init_9 : decode cX6_init 9 = .ok (.putfield 9, 3) := by decide +kernel
theorem dX6_init_12 : decode cX6_init 12 = .ok (.aload_n 0, 1) := by decide +kernel
theorem dX6_init_13 : decode cX6_init 13 = .ok (.iconst 0, 1) := by decide +kernel
theorem dX6_init_14 : decode cX6_init 14 = .ok (.putfield 15, 3) := by decide +kernel
theorem dX6_init_17 : decode cX6_init 17 = .ok (.aload_n 0, 1) := by decide +kernel
theorem dX6_init_18 : decode cX6_init 18 = .ok (.bipush 25, 2) := by decide +kernel
theorem dX6_init_20 : decode cX6_init 20 = .ok (.newarray .int, 2) := by decide +kernel
theorem dX6_init_22 : decode cX6_init 22 = .ok (.putfield 19, 3) := by decide +kernel
theorem dX6_init_25 : decode cX6_init 25 = .ok (.aload_n 0, 1) := by decide +kernel
theorem dX6_init_26 : decode cX6_init 26 = .ok (.iconst 0, 1) := by decide +kernel
theorem dX6_init_27 : decode cX6_init 27 = .ok (.putfield 22, 3) := by decide +kernel
theorem dX6_init_30 : decode cX6_init 30 = .ok (.aload_n 0, 1) := by decide +kernel
theorem dX6_init_31 : decode cX6_init 31 = .ok (.bipush 24, 2) := by decide +kernel
theorem dX6_init_33 : decode cX6_init 33 = .ok (.newarray .int, 2) := by decide +kernel
theorem dX6_init_35 : decode cX6_init 35 = .ok (.putfield 25, 3) := by decide +kernel
theorem dX6_init_38 : decode cX6_init 38 = .ok (.aload_n 0, 1) := by decide +kernel
theorem dX6_init_39 : decode cX6_init 39 = .ok (.iconst 0, 1) := by decide +kernel
theorem dX6_init_40 : decode cX6_init 40 = .ok (.putfield 28, 3) := by decide +kernel
theorem dX6_init_43 : decode cX6_init 43 = .ok (.return_, 1) := by decide +kernel
theorem dX6_find_0 : decode cX6_find 0 = .ok (.aload_n 0, 1) := by decide +kernel
theorem dX6_find_1 : decode cX6_find 1 = .ok (.aload_n 1, 1) := by decide +kernel
theorem dX6_find_2 : decode cX6_find 2 = .ok (.aload_n 2, 1) := by decide +kernel
theorem dX6_find_3 : decode cX6_find 3 = .ok (.invokevirtual 31, 3) := by decide +kernel
theorem dX6_find_6 : decode cX6_find 6 = .ok (.aload_n 0, 1) := by decide +kernel
theorem dX6_find_7 : decode cX6_find 7 = .ok (.aload_n 1, 1) := by decide +kernel
theorem dX6_find_8 : decode cX6_find 8 = .ok (.invokevirtual 35, 3) := by decide +kernel
theorem dX6_find_11 : decode cX6_find 11 = .ok (.aload_n 0, 1) := by decide +kernel
theorem dX6_find_12 : decode cX6_find 12 = .ok (.aload_n 1, 1) := by decide +kernel
theorem dX6_find_13 : decode cX6_find 13 = .ok (.invokevirtual 39, 3) := by decide +kernel
theorem dX6_find_16 : decode cX6_find 16 = .ok (.return_, 1) := by decide +kernel
theorem dX6_first_0 : decode cX6_first 0 = .ok (.aload_n 0, 1) := by decide +kernel
theorem dX6_first_1 : decode cX6_first 1 = .ok (.getfield 9, 3) := by decide +kernel
theorem dX6_first_4 : decode cX6_first 4 = .ok (.aload_n 0, 1) := by decide +kernel
theorem dX6_first_5 : decode cX6_first 5 = .ok (.getfield 25, 3) := by decide +kernel
theorem dX6_first_8 : decode cX6_first 8 = .ok (.iload_n 1, 1) := by decide +kernel
theorem dX6_first_9 : decode cX6_first 9 = .ok (.iaload, 1) := by decide +kernel
theorem dX6_first_10 : decode cX6_first 10 = .ok (.iaload, 1) := by decide +kernel
theorem dX6_first_11 : decode cX6_first 11 = .ok (.ireturn, 1) := by decide +kernel
theorem dX6_second_0 : decode cX6_second 0 = .ok (.aload_n 0, 1) := by decide +kernel
theorem dX6_second_1 : decode cX6_second 1 = .ok (.getfield 9, 3) := by decide +kernel
theorem dX6_second_4 : decode cX6_second 4 = .ok (.aload_n 0, 1) := by decide +kernel
theorem dX6_second_5 : decode cX6_second 5 = .ok (.getfield 25, 3) := by decide +kernel
theorem dX6_second_8 : decode cX6_second 8 = .ok (.iload_n 1, 1) := by decide +kernel
theorem dX6_second_9 : decode cX6_second 9 = .ok (.iaload, 1) := by decide +kernel
theorem dX6_second_10 : decode cX6_second 10 = .ok (.iconst 1, 1) := by decide +kernel
theorem dX6_second_11 : decode cX6_second 11 = .ok (.iadd, 1) := by decide +kernel
theorem dX6_second_12 : decode cX6_second 12 = .ok (.iaload, 1) := by decide +kernel
theorem dX6_second_13 : decode cX6_second 13 = .ok (.ireturn, 1) := by decide +kernel
theorem dX6_walk_0 : decode cX6_walk 0 = .ok (.aload_n 0, 1) := by decide +kernel
theorem dX6_walk_1 : decode cX6_walk 1 = .ok (.iconst 0, 1) := by decide +kernel
theorem dX6_walk_2 : decode cX6_walk 2 = .ok (.putfield 15, 3) := by decide +kernel
theorem dX6_walk_5 : decode cX6_walk 5 = .ok (.aload_n 1, 1) := by decide +kernel
theorem dX6_walk_6 : decode cX6_walk 6 = .ok (.aload_n 2, 1) := by decide +kernel
theorem dX6_walk_7 : decode cX6_walk 7 = .ok (.invokestatic 42, 3) := by decide +kernel
theorem dX6_walk_10 : decode cX6_walk 10 = .ok (.istore_n 3, 1) := by decide +kernel
theorem dX6_walk_11 : decode cX6_walk 11 = .ok (.iload_n 3, 1) := by decide +kernel
theorem dX6_walk_12 : decode cX6_walk 12 = .ok (.iconst (-1), 1) := by decide +kernel
theorem dX6_walk_13 : decode cX6_walk 13 = .ok (.if_icmp .eq 107, 3) := by decide +kernel
theorem dX6_walk_16 : decode cX6_walk 16 = .ok (.aload_n 0, 1) := by decide +kernel
theorem dX6_walk_17 : decode cX6_walk 17 = .ok (.getfield 15, 3) := by decide +kernel
theorem dX6_walk_20 : decode cX6_walk 20 = .ok (.bipush 24, 2) := by decide +kernel
theorem dX6_walk_22 : decode cX6_walk 22 = .ok (.if_icmp .ge 98, 3) := by decide +kernel
theorem dX6_walk_25 : decode cX6_walk 25 = .ok (.aload_n 0, 1) := by decide +kernel
theorem dX6_walk_26 : decode cX6_walk 26 = .ok (.getfield 9, 3) := by decide +kernel
theorem dX6_walk_29 : decode cX6_walk 29 = .ok (.aload_n 0, 1) := by decide +kernel
theorem dX6_walk_30 : decode cX6_walk 30 = .ok (.getfield 15, 3) := by decide +kernel
theorem dX6_walk_33 : decode cX6_walk 33 = .ok (.iload_n 3, 1) := by decide +kernel
theorem dX6_walk_34 : decode cX6_walk 34 = .ok (.iastore, 1) := by decide +kernel
theorem dX6_walk_35 : decode cX6_walk 35 = .ok (.aload_n 0, 1) := by decide +kernel
theorem dX6_walk_36 : decode cX6_walk 36 = .ok (.dup, 1) := by decide +kernel
theorem dX6_walk_37 : decode cX6_walk 37 = .ok (.getfield 15, 3) := by decide +kernel
theorem dX6_walk_40 : decode cX6_walk 40 = .ok (.iconst 1, 1) := by decide +kernel
theorem dX6_walk_41 : decode cX6_walk 41 = .ok (.iadd, 1) := by decide +kernel
theorem dX6_walk_42 : decode cX6_walk 42 = .ok (.putfield 15, 3) := by decide +kernel
theorem dX6_walk_45 : decode cX6_walk 45 = .ok (.aload_n 2, 1) := by decide +kernel
theorem dX6_walk_46 : decode cX6_walk 46 = .ok (.getfield 46, 3) := by decide +kernel
theorem dX6_walk_49 : decode cX6_walk 49 = .ok (.iload_n 3, 1) := by decide +kernel
theorem dX6_walk_50 : decode cX6_walk 50 = .ok (.iaload, 1) := by decide +kernel
theorem dX6_walk_51 : decode cX6_walk 51 = .ok (.aload_n 1, 1) := by decide +kernel
theorem dX6_walk_52 : decode cX6_walk 52 = .ok (.getfield 51, 3) := by decide +kernel
theorem dX6_walk_55 : decode cX6_walk 55 = .ok (.iload_n 3, 1) := by decide +kernel
theorem dX6_walk_56 : decode cX6_walk 56 = .ok (.iaload, 1) := by decide +kernel
theorem dX6_walk_57 : decode cX6_walk 57 = .ok (.iadd, 1) := by decide +kernel
theorem dX6_walk_58 : decode cX6_walk 58 = .ok (.istore 4, 2) := by decide +kernel
theorem dX6_walk_60 : decode cX6_walk 60 = .ok (.aload_n 2, 1) := by decide +kernel
theorem dX6_walk_61 : decode cX6_walk 61 = .ok (.aload_n 1, 1) := by decide +kernel
theorem dX6_walk_62 : decode cX6_walk 62 = .ok (.iload_n 3, 1) := by decide +kernel
theorem dX6_walk_63 : decode cX6_walk 63 = .ok (.invokevirtual 56, 3) := by decide +kernel
theorem dX6_walk_66 : decode cX6_walk 66 = .ok (.iload 4, 2) := by decide +kernel
theorem dX6_walk_68 : decode cX6_walk 68 = .ok (.invokestatic 60, 3) := by decide +kernel
theorem dX6_walk_71 : decode cX6_walk 71 = .ok (.istore 5, 2) := by decide +kernel
theorem dX6_walk_73 : decode cX6_walk 73 = .ok (.aload_n 2, 1) := by decide +kernel
theorem dX6_walk_74 : decode cX6_walk 74 = .ok (.aload_n 2, 1) := by decide +kernel
theorem dX6_walk_75 : decode cX6_walk 75 = .ok (.getfield 64, 3) := by decide +kernel
theorem dX6_walk_78 : decode cX6_walk 78 = .ok (.iload_n 3, 1) := by decide +kernel
theorem dX6_walk_79 : decode cX6_walk 79 = .ok (.iaload, 1) := by decide +kernel
theorem dX6_walk_80 : decode cX6_walk 80 = .ok (.iload 4, 2) := by decide +kernel
theorem dX6_walk_82 : decode cX6_walk 82 = .ok (.invokestatic 60, 3) := by decide +kernel
theorem dX6_walk_85 : decode cX6_walk 85 = .ok (.istore 6, 2) := by decide +kernel
theorem dX6_walk_87 : decode cX6_walk 87 = .ok (.iload 5, 2) := by decide +kernel
theorem dX6_walk_89 : decode cX6_walk 89 = .ok (.iconst (-1), 1) := by decide +kernel
theorem dX6_walk_90 : decode cX6_walk 90 = .ok (.if_icmp .eq 9, 3) := by decide +kernel
theorem dX6_walk_93 : decode cX6_walk 93 = .ok (.iload 6, 2) := by decide +kernel
theorem dX6_walk_95 : decode cX6_walk 95 = .ok (.iconst (-1), 1) := by decide +kernel
theorem dX6_walk_96 : decode cX6_walk 96 = .ok (.if_icmp .ne 13, 3) := by decide +kernel
theorem dX6_walk_99 : decode cX6_walk 99 = .ok (.iload 5, 2) := by decide +kernel
theorem dX6_walk_101 : decode cX6_walk 101 = .ok (.iload 6, 2) := by decide +kernel
theorem dX6_walk_103 : decode cX6_walk 103 = .ok (.invokestatic 67, 3) := by decide +kernel
theorem dX6_walk_106 : decode cX6_walk 106 = .ok (.goto 10, 3) := by decide +kernel
theorem dX6_walk_109 : decode cX6_walk 109 = .ok (.iload 5, 2) := by decide +kernel
theorem dX6_walk_111 : decode cX6_walk 111 = .ok (.iload 6, 2) := by decide +kernel
theorem dX6_walk_113 : decode cX6_walk 113 = .ok (.invokestatic 73, 3) := by decide +kernel
theorem dX6_walk_116 : decode cX6_walk 116 = .ok (.istore_n 3, 1) := by decide +kernel
theorem dX6_walk_117 : decode cX6_walk 117 = .ok (.goto (-106), 3) := by decide +kernel
theorem dX6_walk_120 : decode cX6_walk 120 = .ok (.return_, 1) := by decide +kernel
theorem dX6_beginning_0 : decode cX6_beginning 0 = .ok (.iconst 0, 1) := by decide +kernel
theorem dX6_beginning_1 : decode cX6_beginning 1 = .ok (.istore_n 2, 1) := by decide +kernel
theorem dX6_beginning_2 : decode cX6_beginning 2 = .ok (.iload_n 2, 1) := by decide +kernel
theorem dX6_beginning_3 : decode cX6_beginning 3 = .ok (.aload_n 0, 1) := by decide +kernel
theorem dX6_beginning_4 : decode cX6_beginning 4 = .ok (.getfield 76, 3) := by decide +kernel
theorem dX6_beginning_7 : decode cX6_beginning 7 = .ok (.if_icmp .ge 29, 3) := by decide +kernel
theorem dX6_beginning_10 : decode cX6_beginning 10 = .ok (.aload_n 1, 1) := by decide +kernel
theorem dX6_beginning_11 : decode cX6_beginning 11 = .ok (.getfield 46, 3) := by decide +kernel
theorem dX6_beginning_14 : decode cX6_beginning 14 = .ok (.iload_n 2, 1) := by decide +kernel
theorem dX6_beginning_15 : decode cX6_beginning 15 = .ok (.iaload, 1) := by decide +kernel
theorem dX6_beginning_16 : decode cX6_beginning 16 = .ok (.ifCond .ne 14, 3) := by decide +kernel
theorem dX6_beginning_19 : decode cX6_beginning 19 = .ok (.aload_n 1, 1) := by decide +kernel
theorem dX6_beginning_20 : decode cX6_beginning 20 = .ok (.getfield 78, 3) := by decide +kernel
theorem dX6_beginning_23 : decode cX6_beginning 23 = .ok (.iload_n 2, 1) := by decide +kernel
theorem dX6_beginning_24 : decode cX6_beginning 24 = .ok (.iaload, 1) := by decide +kernel
theorem dX6_beginning_25 : decode cX6_beginning 25 = .ok (.ifCond .ne 5, 3) := by decide +kernel
theorem dX6_beginning_28 : decode cX6_beginning 28 = .ok (.iload_n 2, 1) := by decide +kernel
theorem dX6_beginning_29 : decode cX6_beginning 29 = .ok (.ireturn, 1) := by decide +kernel
theorem dX6_beginning_30 : decode cX6_beginning 30 = .ok (.iinc 2 1, 3) := by decide +kernel
theorem dX6_beginning_33 : decode cX6_beginning 33 = .ok (.goto (-31), 3) := by decide +kernel
theorem dX6_beginning_36 : decode cX6_beginning 36 = .ok (.iconst (-1), 1) := by decide +kernel
theorem dX6_beginning_37 : decode cX6_beginning 37 = .ok (.ireturn, 1) := by decide +kernel
theorem dX6_goesOn_0 : decode cX6_goesOn 0 = .ok (.iload_n 1, 1) := by decide +kernel
theorem dX6_goesOn_1 : decode cX6_goesOn 1 = .ok (.iconst (-1), 1) := by decide +kernel
theorem dX6_goesOn_2 : decode cX6_goesOn 2 = .ok (.if_icmp .eq 22, 3) := by decide +kernel
theorem dX6_goesOn_5 : decode cX6_goesOn 5 = .ok (.aload_n 0, 1) := by decide +kernel
theorem dX6_goesOn_6 : decode cX6_goesOn 6 = .ok (.getfield 46, 3) := by decide +kernel
theorem dX6_goesOn_9 : decode cX6_goesOn 9 = .ok (.iload_n 1, 1) := by decide +kernel
theorem dX6_goesOn_10 : decode cX6_goesOn 10 = .ok (.iaload, 1) := by decide +kernel
theorem dX6_goesOn_11 : decode cX6_goesOn 11 = .ok (.iload_n 2, 1) := by decide +kernel
theorem dX6_goesOn_12 : decode cX6_goesOn 12 = .ok (.if_icmp .ne 12, 3) := by decide +kernel
theorem dX6_goesOn_15 : decode cX6_goesOn 15 = .ok (.aload_n 0, 1) := by decide +kernel
theorem dX6_goesOn_16 : decode cX6_goesOn 16 = .ok (.getfield 78, 3) := by decide +kernel
theorem dX6_goesOn_19 : decode cX6_goesOn 19 = .ok (.iload_n 1, 1) := by decide +kernel
theorem dX6_goesOn_20 : decode cX6_goesOn 20 = .ok (.iaload, 1) := by decide +kernel
theorem dX6_goesOn_21 : decode cX6_goesOn 21 = .ok (.ifCond .eq 5, 3) := by decide +kernel
theorem dX6_goesOn_24 : decode cX6_goesOn 24 = .ok (.iconst (-1), 1) := by decide +kernel
theorem dX6_goesOn_25 : decode cX6_goesOn 25 = .ok (.ireturn, 1) := by decide +kernel
theorem dX6_goesOn_26 : decode cX6_goesOn 26 = .ok (.iload_n 1, 1) := by decide +kernel
theorem dX6_goesOn_27 : decode cX6_goesOn 27 = .ok (.ireturn, 1) := by decide +kernel
theorem dX6_cutBlocks_0 : decode cX6_cutBlocks 0 = .ok (.aload_n 0, 1) := by decide +kernel
theorem dX6_cutBlocks_1 : decode cX6_cutBlocks 1 = .ok (.iconst 0, 1) := by decide +kernel
theorem dX6_cutBlocks_2 : decode cX6_cutBlocks 2 = .ok (.putfield 22, 3) := by decide +kernel
theorem dX6_cutBlocks_5 : decode cX6_cutBlocks 5 = .ok (.iconst 0, 1) := by decide +kernel
theorem dX6_cutBlocks_6 : decode cX6_cutBlocks 6 = .ok (.istore_n 2, 1) := by decide +kernel
theorem dX6_cutBlocks_7 : decode cX6_cutBlocks 7 = .ok (.iload_n 2, 1) := by decide +kernel
theorem dX6_cutBlocks_8 : decode cX6_cutBlocks 8 = .ok (.aload_n 0, 1) := by decide +kernel
theorem dX6_cutBlocks_9 : decode cX6_cutBlocks 9 = .ok (.getfield 15, 3) := by decide +kernel
theorem dX6_cutBlocks_12 : decode cX6_cutBlocks 12 = .ok (.if_icmp .ge 60, 3) := by decide +kernel
theorem dX6_cutBlocks_15 : decode cX6_cutBlocks 15 = .ok (.iload_n 2, 1) := by decide +kernel
theorem dX6_cutBlocks_16 : decode cX6_cutBlocks 16 = .ok (.ifCond .eq 30, 3) := by decide +kernel
theorem dX6_cutBlocks_19 : decode cX6_cutBlocks 19 = .ok (.aload_n 1, 1) := by decide +kernel
theorem dX6_cutBlocks_20 : decode cX6_cutBlocks 20 = .ok (.getfield 81, 3) := by decide +kernel
theorem dX6_cutBlocks_23 : decode cX6_cutBlocks 23 = .ok (.aload_n 0, 1) := by decide +kernel
theorem dX6_cutBlocks_24 : decode cX6_cutBlocks 24 = .ok (.getfield 9, 3) := by decide +kernel
theorem dX6_cutBlocks_27 : decode cX6_cutBlocks 27 = .ok (.iload_n 2, 1) := by decide +kernel
theorem dX6_cutBlocks_28 : decode cX6_cutBlocks 28 = .ok (.iaload, 1) := by decide +kernel
theorem dX6_cutBlocks_29 : decode cX6_cutBlocks 29 = .ok (.iaload, 1) := by decide +kernel
theorem dX6_cutBlocks_30 : decode cX6_cutBlocks 30 = .ok (.aload_n 1, 1) := by decide +kernel
theorem dX6_cutBlocks_31 : decode cX6_cutBlocks 31 = .ok (.getfield 81, 3) := by decide +kernel
theorem dX6_cutBlocks_34 : decode cX6_cutBlocks 34 = .ok (.aload_n 0, 1) := by decide +kernel
theorem dX6_cutBlocks_35 : decode cX6_cutBlocks 35 = .ok (.getfield 9, 3) := by decide +kernel
theorem dX6_cutBlocks_38 : decode cX6_cutBlocks 38 = .ok (.iload_n 2, 1) := by decide +kernel
theorem dX6_cutBlocks_39 : decode cX6_cutBlocks 39 = .ok (.iconst 1, 1) := by decide +kernel
theorem dX6_cutBlocks_40 : decode cX6_cutBlocks 40 = .ok (.isub, 1) := by decide +kernel
theorem dX6_cutBlocks_41 : decode cX6_cutBlocks 41 = .ok (.iaload, 1) := by decide +kernel
theorem dX6_cutBlocks_42 : decode cX6_cutBlocks 42 = .ok (.iaload, 1) := by decide +kernel
theorem dX6_cutBlocks_43 : decode cX6_cutBlocks 43 = .ok (.if_icmp .eq 23, 3) := by decide +kernel
theorem dX6_cutBlocks_46 : decode cX6_cutBlocks 46 = .ok (.aload_n 0, 1) := by decide +kernel
theorem dX6_cutBlocks_47 : decode cX6_cutBlocks 47 = .ok (.getfield 19, 3) := by decide +kernel
theorem dX6_cutBlocks_50 : decode cX6_cutBlocks 50 = .ok (.aload_n 0, 1) := by decide +kernel
theorem dX6_cutBlocks_51 : decode cX6_cutBlocks 51 = .ok (.getfield 22, 3) := by decide +kernel
theorem dX6_cutBlocks_54 : decode cX6_cutBlocks 54 = .ok (.iload_n 2, 1) := by decide +kernel
theorem dX6_cutBlocks_55 : decode cX6_cutBlocks 55 = .ok (.iastore, 1) := by decide +kernel
theorem dX6_cutBlocks_56 : decode cX6_cutBlocks 56 = .ok (.aload_n 0, 1) := by decide +kernel
theorem dX6_cutBlocks_57 : decode cX6_cutBlocks 57 = .ok (.dup, 1) := by decide +kernel
theorem dX6_cutBlocks_58 : decode cX6_cutBlocks 58 = .ok (.getfield 22, 3) := by decide +kernel
theorem dX6_cutBlocks_61 : decode cX6_cutBlocks 61 = .ok (.iconst 1, 1) := by decide +kernel
theorem dX6_cutBlocks_62 : decode cX6_cutBlocks 62 = .ok (.iadd, 1) := by decide +kernel
theorem dX6_cutBlocks_63 : decode cX6_cutBlocks 63 = .ok (.putfield 22, 3) := by decide +kernel
theorem dX6_cutBlocks_66 : decode cX6_cutBlocks 66 = .ok (.iinc 2 1, 3) := by decide +kernel
theorem dX6_cutBlocks_69 : decode cX6_cutBlocks 69 = .ok (.goto (-62), 3) := by decide +kernel
theorem dX6_cutBlocks_72 : decode cX6_cutBlocks 72 = .ok (.aload_n 0, 1) := by decide +kernel
theorem dX6_cutBlocks_73 : decode cX6_cutBlocks 73 = .ok (.getfield 19, 3) := by decide +kernel
theorem dX6_cutBlocks_76 : decode cX6_cutBlocks 76 = .ok (.aload_n 0, 1) := by decide +kernel
theorem dX6_cutBlocks_77 : decode cX6_cutBlocks 77 = .ok (.getfield 22, 3) := by decide +kernel
theorem dX6_cutBlocks_80 : decode cX6_cutBlocks 80 = .ok (.aload_n 0, 1) := by decide +kernel
theorem dX6_cutBlocks_81 : decode cX6_cutBlocks 81 = .ok (.getfield 15, 3) := by decide +kernel
theorem dX6_cutBlocks_84 : decode cX6_cutBlocks 84 = .ok (.iastore, 1) := by decide +kernel
theorem dX6_cutBlocks_85 : decode cX6_cutBlocks 85 = .ok (.return_, 1) := by decide +kernel
theorem dX6_findMoves_0 : decode cX6_findMoves 0 = .ok (.aload_n 0, 1) := by decide +kernel
theorem dX6_findMoves_1 : decode cX6_findMoves 1 = .ok (.iconst 0, 1) := by decide +kernel
theorem dX6_findMoves_2 : decode cX6_findMoves 2 = .ok (.putfield 28, 3) := by decide +kernel
theorem dX6_findMoves_5 : decode cX6_findMoves 5 = .ok (.aload_n 0, 1) := by decide +kernel
theorem dX6_findMoves_6 : decode cX6_findMoves 6 = .ok (.getfield 22, 3) := by decide +kernel
theorem dX6_findMoves_9 : decode cX6_findMoves 9 = .ok (.iconst 2, 1) := by decide +kernel
theorem dX6_findMoves_10 : decode cX6_findMoves 10 = .ok (.if_icmp .ge 4, 3) := by decide +kernel
theorem dX6_findMoves_13 : decode cX6_findMoves 13 = .ok (.return_, 1) := by decide +kernel
theorem dX6_findMoves_14 : decode cX6_findMoves 14 = .ok (.iconst 0, 1) := by decide +kernel
theorem dX6_findMoves_15 : decode cX6_findMoves 15 = .ok (.istore_n 2, 1) := by decide +kernel
theorem dX6_findMoves_16 : decode cX6_findMoves 16 = .ok (.iload_n 2, 1) := by decide +kernel
theorem dX6_findMoves_17 : decode cX6_findMoves 17 = .ok (.aload_n 0, 1) := by decide +kernel
theorem dX6_findMoves_18 : decode cX6_findMoves 18 = .ok (.getfield 22, 3) := by decide +kernel
theorem dX6_findMoves_21 : decode cX6_findMoves 21 = .ok (.if_icmp .ge 91, 3) := by decide +kernel
theorem dX6_findMoves_24 : decode cX6_findMoves 24 = .ok (.aload_n 0, 1) := by decide +kernel
theorem dX6_findMoves_25 : decode cX6_findMoves 25 = .ok (.getfield 19, 3) := by decide +kernel
theorem dX6_findMoves_28 : decode cX6_findMoves 28 = .ok (.iload_n 2, 1) := by decide +kernel
theorem dX6_findMoves_29 : decode cX6_findMoves 29 = .ok (.iaload, 1) := by decide +kernel
theorem dX6_findMoves_30 : decode cX6_findMoves 30 = .ok (.istore_n 3, 1) := by decide +kernel
theorem dX6_findMoves_31 : decode cX6_findMoves 31 = .ok (.aload_n 0, 1) := by decide +kernel
theorem dX6_findMoves_32 : decode cX6_findMoves 32 = .ok (.getfield 19, 3) := by decide +kernel
theorem dX6_findMoves_35 : decode cX6_findMoves 35 = .ok (.iload_n 2, 1) := by decide +kernel
theorem dX6_findMoves_36 : decode cX6_findMoves 36 = .ok (.iconst 1, 1) := by decide +kernel
theorem dX6_findMoves_37 : decode cX6_findMoves 37 = .ok (.iadd, 1) := by decide +kernel
theorem dX6_findMoves_38 : decode cX6_findMoves 38 = .ok (.iaload, 1) := by decide +kernel
theorem dX6_findMoves_39 : decode cX6_findMoves 39 = .ok (.istore 4, 2) := by decide +kernel
theorem dX6_findMoves_41 : decode cX6_findMoves 41 = .ok (.iload_n 2, 1) := by decide +kernel
theorem dX6_findMoves_42 : decode cX6_findMoves 42 = .ok (.ifCond .le 11, 3) := by decide +kernel
theorem dX6_findMoves_45 : decode cX6_findMoves 45 = .ok (.aload_n 0, 1) := by decide +kernel
theorem dX6_findMoves_46 : decode cX6_findMoves 46 = .ok (.aload_n 1, 1) := by decide +kernel
theorem dX6_findMoves_47 : decode cX6_findMoves 47 = .ok (.iload_n 3, 1) := by decide +kernel
theorem dX6_findMoves_48 : decode cX6_findMoves 48 = .ok (.iload 4, 2) := by decide +kernel
theorem dX6_findMoves_50 : decode cX6_findMoves 50 = .ok (.invokevirtual 84, 3) := by decide +kernel
theorem dX6_findMoves_53 : decode cX6_findMoves 53 = .ok (.iload_n 2, 1) := by decide +kernel
theorem dX6_findMoves_54 : decode cX6_findMoves 54 = .ok (.ifCond .le 15, 3) := by decide +kernel
theorem dX6_findMoves_57 : decode cX6_findMoves 57 = .ok (.iload 4, 2) := by decide +kernel
theorem dX6_findMoves_59 : decode cX6_findMoves 59 = .ok (.iload_n 3, 1) := by decide +kernel
theorem dX6_findMoves_60 : decode cX6_findMoves 60 = .ok (.isub, 1) := by decide +kernel
theorem dX6_findMoves_61 : decode cX6_findMoves 61 = .ok (.iconst 2, 1) := by decide +kernel
theorem dX6_findMoves_62 : decode cX6_findMoves 62 = .ok (.if_icmp .ne 7, 3) := by decide +kernel
theorem dX6_findMoves_65 : decode cX6_findMoves 65 = .ok (.iconst 1, 1) := by decide +kernel
theorem dX6_findMoves_66 : decode cX6_findMoves 66 = .ok (.goto 4, 3) := by decide +kernel
theorem dX6_findMoves_69 : decode cX6_findMoves 69 = .ok (.iconst 0, 1) := by decide +kernel
theorem dX6_findMoves_70 : decode cX6_findMoves 70 = .ok (.istore 5, 2) := by decide +kernel
theorem dX6_findMoves_72 : decode cX6_findMoves 72 = .ok (.iload_n 2, 1) := by decide +kernel
theorem dX6_findMoves_73 : decode cX6_findMoves 73 = .ok (.aload_n 0, 1) := by decide +kernel
theorem dX6_findMoves_74 : decode cX6_findMoves 74 = .ok (.getfield 22, 3) := by decide +kernel
theorem dX6_findMoves_77 : decode cX6_findMoves 77 = .ok (.iconst 1, 1) := by decide +kernel
theorem dX6_findMoves_78 : decode cX6_findMoves 78 = .ok (.isub, 1) := by decide +kernel
theorem dX6_findMoves_79 : decode cX6_findMoves 79 = .ok (.if_icmp .ge 27, 3) := by decide +kernel
theorem dX6_findMoves_82 : decode cX6_findMoves 82 = .ok (.iload 4, 2) := by decide +kernel
theorem dX6_findMoves_84 : decode cX6_findMoves 84 = .ok (.iconst 2, 1) := by decide +kernel
theorem dX6_findMoves_85 : decode cX6_findMoves 85 = .ok (.isub, 1) := by decide +kernel
theorem dX6_findMoves_86 : decode cX6_findMoves 86 = .ok (.iload_n 3, 1) := by decide +kernel
theorem dX6_findMoves_87 : decode cX6_findMoves 87 = .ok (.if_icmp .lt 19, 3) := by decide +kernel
theorem dX6_findMoves_90 : decode cX6_findMoves 90 = .ok (.iload 5, 2) := by decide +kernel
theorem dX6_findMoves_92 : decode cX6_findMoves 92 = .ok (.ifCond .ne 14, 3) := by decide +kernel
theorem dX6_findMoves_95 : decode cX6_findMoves 95 = .ok (.aload_n 0, 1) := by decide +kernel
theorem dX6_findMoves_96 : decode cX6_findMoves 96 = .ok (.aload_n 1, 1) := by decide +kernel
theorem dX6_findMoves_97 : decode cX6_findMoves 97 = .ok (.iload 4, 2) := by decide +kernel
theorem dX6_findMoves_99 : decode cX6_findMoves 99 = .ok (.iconst 2, 1) := by decide +kernel
theorem dX6_findMoves_100 : decode cX6_findMoves 100 = .ok (.isub, 1) := by decide +kernel
theorem dX6_findMoves_101 : decode cX6_findMoves 101 = .ok (.iload 4, 2) := by decide +kernel
theorem dX6_findMoves_103 : decode cX6_findMoves 103 = .ok (.invokevirtual 84, 3) := by decide +kernel
theorem dX6_findMoves_106 : decode cX6_findMoves 106 = .ok (.iinc 2 1, 3) := by decide +kernel
theorem dX6_findMoves_109 : decode cX6_findMoves 109 = .ok (.goto (-93), 3) := by decide +kernel
theorem dX6_findMoves_112 : decode cX6_findMoves 112 = .ok (.return_, 1) := by decide +kernel
theorem dX6_addMove_0 : decode cX6_addMove 0 = .ok (.iload_n 2, 1) := by decide +kernel
theorem dX6_addMove_1 : decode cX6_addMove 1 = .ok (.iconst 1, 1) := by decide +kernel
theorem dX6_addMove_2 : decode cX6_addMove 2 = .ok (.iadd, 1) := by decide +kernel
theorem dX6_addMove_3 : decode cX6_addMove 3 = .ok (.iload_n 3, 1) := by decide +kernel
theorem dX6_addMove_4 : decode cX6_addMove 4 = .ok (.if_icmp .ge 50, 3) := by decide +kernel
theorem dX6_addMove_7 : decode cX6_addMove 7 = .ok (.aload_n 1, 1) := by decide +kernel
theorem dX6_addMove_8 : decode cX6_addMove 8 = .ok (.getfield 88, 3) := by decide +kernel
theorem dX6_addMove_11 : decode cX6_addMove 11 = .ok (.aload_n 0, 1) := by decide +kernel
theorem dX6_addMove_12 : decode cX6_addMove 12 = .ok (.getfield 9, 3) := by decide +kernel
theorem dX6_addMove_15 : decode cX6_addMove 15 = .ok (.iload_n 2, 1) := by decide +kernel
theorem dX6_addMove_16 : decode cX6_addMove 16 = .ok (.iaload, 1) := by decide +kernel
theorem dX6_addMove_17 : decode cX6_addMove 17 = .ok (.iaload, 1) := by decide +kernel
theorem dX6_addMove_18 : decode cX6_addMove 18 = .ok (.aload_n 1, 1) := by decide +kernel
theorem dX6_addMove_19 : decode cX6_addMove 19 = .ok (.getfield 88, 3) := by decide +kernel
theorem dX6_addMove_22 : decode cX6_addMove 22 = .ok (.aload_n 0, 1) := by decide +kernel
theorem dX6_addMove_23 : decode cX6_addMove 23 = .ok (.getfield 9, 3) := by decide +kernel
theorem dX6_addMove_26 : decode cX6_addMove 26 = .ok (.iload_n 2, 1) := by decide +kernel
theorem dX6_addMove_27 : decode cX6_addMove 27 = .ok (.iconst 1, 1) := by decide +kernel
theorem dX6_addMove_28 : decode cX6_addMove 28 = .ok (.iadd, 1) := by decide +kernel
theorem dX6_addMove_29 : decode cX6_addMove 29 = .ok (.iaload, 1) := by decide +kernel
theorem dX6_addMove_30 : decode cX6_addMove 30 = .ok (.iaload, 1) := by decide +kernel
theorem dX6_addMove_31 : decode cX6_addMove 31 = .ok (.if_icmp .eq 23, 3) := by decide +kernel
theorem dX6_addMove_34 : decode cX6_addMove 34 = .ok (.aload_n 0, 1) := by decide +kernel
theorem dX6_addMove_35 : decode cX6_addMove 35 = .ok (.getfield 25, 3) := by decide +kernel
theorem dX6_addMove_38 : decode cX6_addMove 38 = .ok (.aload_n 0, 1) := by decide +kernel
theorem dX6_addMove_39 : decode cX6_addMove 39 = .ok (.getfield 28, 3) := by decide +kernel
theorem dX6_addMove_42 : decode cX6_addMove 42 = .ok (.iload_n 2, 1) := by decide +kernel
theorem dX6_addMove_43 : decode cX6_addMove 43 = .ok (.iastore, 1) := by decide +kernel
theorem dX6_addMove_44 : decode cX6_addMove 44 = .ok (.aload_n 0, 1) := by decide +kernel
theorem dX6_addMove_45 : decode cX6_addMove 45 = .ok (.dup, 1) := by decide +kernel
theorem dX6_addMove_46 : decode cX6_addMove 46 = .ok (.getfield 28, 3) := by decide +kernel
theorem dX6_addMove_49 : decode cX6_addMove 49 = .ok (.iconst 1, 1) := by decide +kernel
theorem dX6_addMove_50 : decode cX6_addMove 50 = .ok (.iadd, 1) := by decide +kernel
theorem dX6_addMove_51 : decode cX6_addMove 51 = .ok (.putfield 28, 3) := by decide +kernel
theorem dX6_addMove_54 : decode cX6_addMove 54 = .ok (.return_, 1) := by decide +kernel
theorem dX7_init_0 : decode cX7_init 0 = .ok (.aload_n 0, 1) := by decide +kernel
theorem dX7_init_1 : decode cX7_init 1 = .ok (.invokespecial 3, 3) := by decide +kernel
theorem dX7_init_4 : decode cX7_init 4 = .ok (.aload_n 0, 1) := by decide +kernel
theorem dX7_init_5 : decode cX7_init 5 = .ok (.sipush 140, 3) := by decide +kernel
theorem dX7_init_8 : decode cX7_init 8 = .ok (.newarray .int, 2) := by decide +kernel
theorem dX7_init_10 : decode cX7_init 10 = .ok (.putfield 9, 3) := by decide +kernel
theorem dX7_init_13 : decode cX7_init 13 = .ok (.aload_n 0, 1) := by decide +kernel
theorem dX7_init_14 : decode cX7_init 14 = .ok (.iconst 0, 1) := by decide +kernel
theorem dX7_init_15 : decode cX7_init 15 = .ok (.putfield 15, 3) := by decide +kernel
theorem dX7_init_18 : decode cX7_init 18 = .ok (.return_, 1) := by decide +kernel
theorem dX7_put_0 : decode cX7_put 0 = .ok (.aload_n 0, 1) := by decide +kernel
theorem dX7_put_1 : decode cX7_put 1 = .ok (.getfield 15, 3) := by decide +kernel
theorem dX7_put_4 : decode cX7_put 4 = .ok (.sipush 140, 3) := by decide +kernel
theorem dX7_put_7 : decode cX7_put 7 = .ok (.if_icmp .ge 23, 3) := by decide +kernel
theorem dX7_put_10 : decode cX7_put 10 = .ok (.aload_n 0, 1) := by decide +kernel
theorem dX7_put_11 : decode cX7_put 11 = .ok (.getfield 9, 3) := by decide +kernel
theorem dX7_put_14 : decode cX7_put 14 = .ok (.aload_n 0, 1) := by decide +kernel
theorem dX7_put_15 : decode cX7_put 15 = .ok (.getfield 15, 3) := by decide +kernel
theorem dX7_put_18 : decode cX7_put 18 = .ok (.iload_n 1, 1) := by decide +kernel
theorem dX7_put_19 : decode cX7_put 19 = .ok (.iastore, 1) := by decide +kernel
theorem dX7_put_20 : decode cX7_put 20 = .ok (.aload_n 0, 1) := by decide +kernel
theorem dX7_put_21 : decode cX7_put 21 = .ok (.dup, 1) := by decide +kernel
theorem dX7_put_22 : decode cX7_put 22 = .ok (.getfield 15, 3) := by decide +kernel
theorem dX7_put_25 : decode cX7_put 25 = .ok (.iconst 1, 1) := by decide +kernel
theorem dX7_put_26 : decode cX7_put 26 = .ok (.iadd, 1) := by decide +kernel
theorem dX7_put_27 : decode cX7_put 27 = .ok (.putfield 15, 3) := by decide +kernel
theorem dX7_put_30 : decode cX7_put 30 = .ok (.return_, 1) := by decide +kernel
theorem dX7_readInto_0 : decode cX7_readInto 0 = .ok (.aload_n 1, 1) := by decide +kernel
theorem dX7_readInto_1 : decode cX7_readInto 1 = .ok (.invokevirtual 19, 3) := by decide +kernel
theorem dX7_readInto_4 : decode cX7_readInto 4 = .ok (.iconst 0, 1) := by decide +kernel
theorem dX7_readInto_5 : decode cX7_readInto 5 = .ok (.istore_n 2, 1) := by decide +kernel
theorem dX7_readInto_6 : decode cX7_readInto 6 = .ok (.iconst 0, 1) := by decide +kernel
theorem dX7_readInto_7 : decode cX7_readInto 7 = .ok (.istore_n 3, 1) := by decide +kernel
theorem dX7_readInto_8 : decode cX7_readInto 8 = .ok (.iconst 0, 1) := by decide +kernel
theorem dX7_readInto_9 : decode cX7_readInto 9 = .ok (.istore 4, 2) := by decide +kernel
theorem dX7_readInto_11 : decode cX7_readInto 11 = .ok (.iconst 0, 1) := by decide +kernel
theorem dX7_readInto_12 : decode cX7_readInto 12 = .ok (.istore 5, 2) := by decide +kernel
theorem dX7_readInto_14 : decode cX7_readInto 14 = .ok (.iload 5, 2) := by decide +kernel
theorem dX7_readInto_16 : decode cX7_readInto 16 = .ok (.bipush 24, 2) := by decide +kernel
theorem dX7_readInto_18 : decode cX7_readInto 18 = .ok (.if_icmp .ge 125, 3) := by decide +kernel
theorem dX7_readInto_21 : decode cX7_readInto 21 = .ok (.iload_n 3, 1) := by decide +kernel
theorem dX7_readInto_22 : decode cX7_readInto 22 = .ok (.bipush 6, 2) := by decide +kernel
theorem dX7_readInto_24 : decode cX7_readInto 24 = .ok (.if_icmp .ge 10, 3) := by decide +kernel
theorem dX7_readInto_27 : decode cX7_readInto 27 = .ok (.iload 4, 2) := by decide +kernel
theorem dX7_readInto_29 : decode cX7_readInto 29 = .ok (.bipush 6, 2) := by decide +kernel
theorem dX7_readInto_31 : decode cX7_readInto 31 = .ok (.if_icmp .lt 5, 3) := by decide +kernel
theorem dX7_readInto_34 : decode cX7_readInto 34 = .ok (.iload_n 2, 1) := by decide +kernel
theorem dX7_readInto_35 : decode cX7_readInto 35 = .ok (.ireturn, 1) := by decide +kernel
theorem dX7_readInto_36 : decode cX7_readInto 36 = .ok (.iload_n 2, 1) := by decide +kernel
theorem dX7_readInto_37 : decode cX7_readInto 37 = .ok (.istore 6, 2) := by decide +kernel
theorem dX7_readInto_39 : decode cX7_readInto 39 = .ok (.aload_n 0, 1) := by decide +kernel
theorem dX7_readInto_40 : decode cX7_readInto 40 = .ok (.iload 6, 2) := by decide +kernel
theorem dX7_readInto_42 : decode cX7_readInto 42 = .ok (.invokevirtual 24, 3) := by decide +kernel
theorem dX7_readInto_45 : decode cX7_readInto 45 = .ok (.istore_n 2, 1) := by decide +kernel
theorem dX7_readInto_46 : decode cX7_readInto 46 = .ok (.iload 6, 2) := by decide +kernel
theorem dX7_readInto_48 : decode cX7_readInto 48 = .ok (.iload_n 2, 1) := by decide +kernel
theorem dX7_readInto_49 : decode cX7_readInto 49 = .ok (.invokestatic 28, 3) := by decide +kernel
theorem dX7_readInto_52 : decode cX7_readInto 52 = .ok (.ifCond .ne 5, 3) := by decide +kernel
theorem dX7_readInto_55 : decode cX7_readInto 55 = .ok (.iload_n 2, 1) := by decide +kernel
theorem dX7_readInto_56 : decode cX7_readInto 56 = .ok (.ireturn, 1) := by decide +kernel
theorem dX7_readInto_57 : decode cX7_readInto 57 = .ok (.aload_n 1, 1) := by decide +kernel
theorem dX7_readInto_58 : decode cX7_readInto 58 = .ok (.iload_n 3, 1) := by decide +kernel
theorem dX7_readInto_59 : decode cX7_readInto 59 = .ok (.iload 4, 2) := by decide +kernel
theorem dX7_readInto_61 : decode cX7_readInto 61 = .ok (.aload_n 0, 1) := by decide +kernel
theorem dX7_readInto_62 : decode cX7_readInto 62 = .ok (.getfield 9, 3) := by decide +kernel
theorem dX7_readInto_65 : decode cX7_readInto 65 = .ok (.iload 6, 2) := by decide +kernel
theorem dX7_readInto_67 : decode cX7_readInto 67 = .ok (.iaload, 1) := by decide +kernel
theorem dX7_readInto_68 : decode cX7_readInto 68 = .ok (.bipush 48, 2) := by decide +kernel
theorem dX7_readInto_70 : decode cX7_readInto 70 = .ok (.isub, 1) := by decide +kernel
theorem dX7_readInto_71 : decode cX7_readInto 71 = .ok (.aload_n 0, 1) := by decide +kernel
theorem dX7_readInto_72 : decode cX7_readInto 72 = .ok (.iload 6, 2) := by decide +kernel
theorem dX7_readInto_74 : decode cX7_readInto 74 = .ok (.iconst 2, 1) := by decide +kernel
theorem dX7_readInto_75 : decode cX7_readInto 75 = .ok (.iadd, 1) := by decide +kernel
theorem dX7_readInto_76 : decode cX7_readInto 76 = .ok (.iload_n 2, 1) := by decide +kernel
theorem dX7_readInto_77 : decode cX7_readInto 77 = .ok (.invokevirtual 32, 3) := by decide +kernel
theorem dX7_readInto_80 : decode cX7_readInto 80 = .ok (.invokevirtual 36, 3) := by decide +kernel
theorem dX7_readInto_83 : decode cX7_readInto 83 = .ok (.iload_n 2, 1) := by decide +kernel
theorem dX7_readInto_84 : decode cX7_readInto 84 = .ok (.aload_n 0, 1) := by decide +kernel
theorem dX7_readInto_85 : decode cX7_readInto 85 = .ok (.getfield 15, 3) := by decide +kernel
theorem dX7_readInto_88 : decode cX7_readInto 88 = .ok (.if_icmp .ne 9, 3) := by decide +kernel
theorem dX7_readInto_91 : decode cX7_readInto 91 = .ok (.aload_n 1, 1) := by decide +kernel
theorem dX7_readInto_92 : decode cX7_readInto 92 = .ok (.invokevirtual 40, 3) := by decide +kernel
theorem dX7_readInto_95 : decode cX7_readInto 95 = .ok (.iconst (-1), 1) := by decide +kernel
theorem dX7_readInto_96 : decode cX7_readInto 96 = .ok (.ireturn, 1) := by decide +kernel
theorem dX7_readInto_97 : decode cX7_readInto 97 = .ok (.aload_n 0, 1) := by decide +kernel
theorem dX7_readInto_98 : decode cX7_readInto 98 = .ok (.iload_n 2, 1) := by decide +kernel
theorem dX7_readInto_99 : decode cX7_readInto 99 = .ok (.invokevirtual 43, 3) := by decide +kernel
theorem dX7_readInto_102 : decode cX7_readInto 102 = .ok (.bipush 44, 2) := by decide +kernel
theorem dX7_readInto_104 : decode cX7_readInto 104 = .ok (.if_icmp .ne 9, 3) := by decide +kernel
theorem dX7_readInto_107 : decode cX7_readInto 107 = .ok (.iinc 4 1, 3) := by decide +kernel
theorem dX7_readInto_110 : decode cX7_readInto 110 = .ok (.goto 24, 3) := by decide +kernel
theorem dX7_readInto_113 : decode cX7_readInto 113 = .ok (.aload_n 0, 1) := by decide +kernel
theorem dX7_readInto_114 : decode cX7_readInto 114 = .ok (.iload_n 2, 1) := by decide +kernel
theorem dX7_readInto_115 : decode cX7_readInto 115 = .ok (.invokevirtual 43, 3) := by decide +kernel
theorem dX7_readInto_118 : decode cX7_readInto 118 = .ok (.bipush 59, 2) := by decide +kernel
theorem dX7_readInto_120 : decode cX7_readInto 120 = .ok (.if_icmp .ne 12, 3) := by decide +kernel
theorem dX7_readInto_123 : decode cX7_readInto 123 = .ok (.iinc 3 1, 3) := by decide +kernel
theorem dX7_readInto_126 : decode cX7_readInto 126 = .ok (.iconst 0, 1) := by decide +kernel
theorem dX7_readInto_127 : decode cX7_readInto 127 = .ok (.istore 4, 2) := by decide +kernel
theorem dX7_readInto_129 : decode cX7_readInto 129 = .ok (.goto 5, 3) := by decide +kernel
theorem dX7_readInto_132 : decode cX7_readInto 132 = .ok (.iload_n 2, 1) := by decide +kernel
theorem dX7_readInto_133 : decode cX7_readInto 133 = .ok (.ireturn, 1) := by decide +kernel
theorem dX7_readInto_134 : decode cX7_readInto 134 = .ok (.iinc 2 1, 3) := by decide +kernel
theorem dX7_readInto_137 : decode cX7_readInto 137 = .ok (.iinc 5 1, 3) := by decide +kernel
theorem dX7_readInto_140 : decode cX7_readInto 140 = .ok (.goto (-126), 3) := by decide +kernel
theorem dX7_readInto_143 : decode cX7_readInto 143 = .ok (.iload_n 2, 1) := by decide +kernel
theorem dX7_readInto_144 : decode cX7_readInto 144 = .ok (.ireturn, 1) := by decide +kernel
theorem dX7_taskEnd_0 : decode cX7_taskEnd 0 = .ok (.aload_n 0, 1) := by decide +kernel
theorem dX7_taskEnd_1 : decode cX7_taskEnd 1 = .ok (.iload_n 1, 1) := by decide +kernel
theorem dX7_taskEnd_2 : decode cX7_taskEnd 2 = .ok (.bipush 48, 2) := by decide +kernel
theorem dX7_taskEnd_4 : decode cX7_taskEnd 4 = .ok (.bipush 52, 2) := by decide +kernel
theorem dX7_taskEnd_6 : decode cX7_taskEnd 6 = .ok (.invokevirtual 46, 3) := by decide +kernel
theorem dX7_taskEnd_9 : decode cX7_taskEnd 9 = .ok (.ifCond .ne 5, 3) := by decide +kernel
theorem dX7_taskEnd_12 : decode cX7_taskEnd 12 = .ok (.iload_n 1, 1) := by decide +kernel
theorem dX7_taskEnd_13 : decode cX7_taskEnd 13 = .ok (.ireturn, 1) := by decide +kernel
theorem dX7_taskEnd_14 : decode cX7_taskEnd 14 = .ok (.aload_n 0, 1) := by decide +kernel
theorem dX7_taskEnd_15 : decode cX7_taskEnd 15 = .ok (.iload_n 1, 1) := by decide +kernel
theorem dX7_taskEnd_16 : decode cX7_taskEnd 16 = .ok (.iconst 1, 1) := by decide +kernel
theorem dX7_taskEnd_17 : decode cX7_taskEnd 17 = .ok (.iadd, 1) := by decide +kernel
theorem dX7_taskEnd_18 : decode cX7_taskEnd 18 = .ok (.invokevirtual 43, 3) := by decide +kernel
theorem dX7_taskEnd_21 : decode cX7_taskEnd 21 = .ok (.bipush 32, 2) := by decide +kernel
theorem dX7_taskEnd_23 : decode cX7_taskEnd 23 = .ok (.if_icmp .eq 7, 3) := by decide +kernel
theorem dX7_taskEnd_26 : decode cX7_taskEnd 26 = .ok (.iload_n 1, 1) := by decide +kernel
theorem dX7_taskEnd_27 : decode cX7_taskEnd 27 = .ok (.iconst 1, 1) := by decide +kernel
theorem dX7_taskEnd_28 : decode cX7_taskEnd 28 = .ok (.iadd, 1) := by decide +kernel
theorem dX7_taskEnd_29 : decode cX7_taskEnd 29 = .ok (.ireturn, 1) := by decide +kernel
theorem dX7_taskEnd_30 : decode cX7_taskEnd 30 = .ok (.aload_n 0, 1) := by decide +kernel
theorem dX7_taskEnd_31 : decode cX7_taskEnd 31 = .ok (.iload_n 1, 1) := by decide +kernel
theorem dX7_taskEnd_32 : decode cX7_taskEnd 32 = .ok (.iconst 2, 1) := by decide +kernel
theorem dX7_taskEnd_33 : decode cX7_taskEnd 33 = .ok (.iadd, 1) := by decide +kernel
theorem dX7_taskEnd_34 : decode cX7_taskEnd 34 = .ok (.bipush 49, 2) := by decide +kernel
theorem dX7_taskEnd_36 : decode cX7_taskEnd 36 = .ok (.bipush 57, 2) := by decide +kernel
theorem dX7_taskEnd_38 : decode cX7_taskEnd 38 = .ok (.invokevirtual 46, 3) := by decide +kernel
theorem dX7_taskEnd_41 : decode cX7_taskEnd 41 = .ok (.ifCond .ne 7, 3) := by decide +kernel
theorem dX7_taskEnd_44 : decode cX7_taskEnd 44 = .ok (.iload_n 1, 1) := by decide +kernel
theorem dX7_taskEnd_45 : decode cX7_taskEnd 45 = .ok (.iconst 2, 1) := by decide +kernel
theorem dX7_taskEnd_46 : decode cX7_taskEnd 46 = .ok (.iadd, 1) := by decide +kernel
theorem dX7_taskEnd_47 : decode cX7_taskEnd 47 = .ok (.ireturn, 1) := by decide +kernel
theorem dX7_taskEnd_48 : decode cX7_taskEnd 48 = .ok (.aload_n 0, 1) := by decide +kernel
theorem dX7_taskEnd_49 : decode cX7_taskEnd 49 = .ok (.iload_n 1, 1) := by decide +kernel
theorem dX7_taskEnd_50 : decode cX7_taskEnd 50 = .ok (.iconst 3, 1) := by decide +kernel
theorem dX7_taskEnd_51 : decode cX7_taskEnd 51 = .ok (.iadd, 1) := by decide +kernel
theorem dX7_taskEnd_52 : decode cX7_taskEnd 52 = .ok (.bipush 48, 2) := by decide +kernel
theorem dX7_taskEnd_54 : decode cX7_taskEnd 54 = .ok (.bipush 57, 2) := by decide +kernel
theorem dX7_taskEnd_56 : decode cX7_taskEnd 56 = .ok (.invokevirtual 46, 3) := by decide +kernel
theorem dX7_taskEnd_59 : decode cX7_taskEnd 59 = .ok (.ifCond .eq 9, 3) := by decide +kernel
theorem dX7_taskEnd_62 : decode cX7_taskEnd 62 = .ok (.iload_n 1, 1) := by decide +kernel
theorem dX7_taskEnd_63 : decode cX7_taskEnd 63 = .ok (.iconst 4, 1) := by decide +kernel
theorem dX7_taskEnd_64 : decode cX7_taskEnd 64 = .ok (.iadd, 1) := by decide +kernel
theorem dX7_taskEnd_65 : decode cX7_taskEnd 65 = .ok (.goto 6, 3) := by decide +kernel
theorem dX7_taskEnd_68 : decode cX7_taskEnd 68 = .ok (.iload_n 1, 1) := by decide +kernel
theorem dX7_taskEnd_69 : decode cX7_taskEnd 69 = .ok (.iconst 3, 1) := by decide +kernel
theorem dX7_taskEnd_70 : decode cX7_taskEnd 70 = .ok (.iadd, 1) := by decide +kernel
theorem dX7_taskEnd_71 : decode cX7_taskEnd 71 = .ok (.ireturn, 1) := by decide +kernel
theorem dX7_isTask_0 : decode cX7_isTask 0 = .ok (.iload_n 1, 1) := by decide +kernel
theorem dX7_isTask_1 : decode cX7_isTask 1 = .ok (.iload_n 0, 1) := by decide +kernel
theorem dX7_isTask_2 : decode cX7_isTask 2 = .ok (.isub, 1) := by decide +kernel
theorem dX7_isTask_3 : decode cX7_isTask 3 = .ok (.iconst 3, 1) := by decide +kernel
theorem dX7_isTask_4 : decode cX7_isTask 4 = .ok (.if_icmp .lt 7, 3) := by decide +kernel
theorem dX7_isTask_7 : decode cX7_isTask 7 = .ok (.iconst 1, 1) := by decide +kernel
theorem dX7_isTask_8 : decode cX7_isTask 8 = .ok (.goto 4, 3) := by decide +kernel
theorem dX7_isTask_11 : decode cX7_isTask 11 = .ok (.iconst 0, 1) := by decide +kernel
theorem dX7_isTask_12 : decode cX7_isTask 12 = .ok (.ireturn, 1) := by decide +kernel
theorem dX7_number_0 : decode cX7_number 0 = .ok (.iconst 0, 1) := by decide +kernel
theorem dX7_number_1 : decode cX7_number 1 = .ok (.istore_n 3, 1) := by decide +kernel
theorem dX7_number_2 : decode cX7_number 2 = .ok (.iload_n 1, 1) := by decide +kernel
theorem dX7_number_3 : decode cX7_number 3 = .ok (.istore 4, 2) := by decide +kernel
theorem dX7_number_5 : decode cX7_number 5 = .ok (.iload 4, 2) := by decide +kernel
theorem dX7_number_7 : decode cX7_number 7 = .ok (.iload_n 2, 1) := by decide +kernel
theorem dX7_number_8 : decode cX7_number 8 = .ok (.if_icmp .ge 24, 3) := by decide +kernel
theorem dX7_number_11 : decode cX7_number 11 = .ok (.bipush 10, 2) := by decide +kernel
theorem dX7_number_13 : decode cX7_number 13 = .ok (.iload_n 3, 1) := by decide +kernel
theorem dX7_number_14 : decode cX7_number 14 = .ok (.imul, 1) := by decide +kernel
theorem dX7_number_15 : decode cX7_number 15 = .ok (.aload_n 0, 1) := by decide +kernel
theorem dX7_number_16 : decode cX7_number 16 = .ok (.iload 4, 2) := by decide +kernel
theorem dX7_number_18 : decode cX7_number 18 = .ok (.invokevirtual 43, 3) := by decide +kernel
theorem dX7_number_21 : decode cX7_number 21 = .ok (.iadd, 1) := by decide +kernel
theorem dX7_number_22 : decode cX7_number 22 = .ok (.bipush 48, 2) := by decide +kernel
theorem dX7_number_24 : decode cX7_number 24 = .ok (.isub, 1) := by decide +kernel
theorem dX7_number_25 : decode cX7_number 25 = .ok (.istore_n 3, 1) := by decide +kernel
theorem dX7_number_26 : decode cX7_number 26 = .ok (.iinc 4 1, 3) := by decide +kernel
theorem dX7_number_29 : decode cX7_number 29 = .ok (.goto (-24), 3) := by decide +kernel
theorem dX7_number_32 : decode cX7_number 32 = .ok (.iload_n 3, 1) := by decide +kernel
theorem dX7_number_33 : decode cX7_number 33 = .ok (.ireturn, 1) := by decide +kernel
theorem dX7_isFigure_0 : decode cX7_isFigure 0 = .ok (.aload_n 0, 1) := by decide +kernel
theorem dX7_isFigure_1 : decode cX7_isFigure 1 = .ok (.iload_n 1, 1) := by decide +kernel
theorem dX7_isFigure_2 : decode cX7_isFigure 2 = .ok (.invokevirtual 43, 3) := by decide +kernel
theorem dX7_isFigure_5 : decode cX7_isFigure 5 = .ok (.istore 4, 2) := by decide +kernel
theorem dX7_isFigure_7 : decode cX7_isFigure 7 = .ok (.iload 4, 2) := by decide +kernel
theorem dX7_isFigure_9 : decode cX7_isFigure 9 = .ok (.iload_n 2, 1) := by decide +kernel
theorem dX7_isFigure_10 : decode cX7_isFigure 10 = .ok (.if_icmp .lt 13, 3) := by decide +kernel
theorem dX7_isFigure_13 : decode cX7_isFigure 13 = .ok (.iload 4, 2) := by decide +kernel
theorem dX7_isFigure_15 : decode cX7_isFigure 15 = .ok (.iload_n 3, 1) := by decide +kernel
theorem dX7_isFigure_16 : decode cX7_isFigure 16 = .ok (.if_icmp .gt 7, 3) := by decide +kernel
theorem dX7_isFigure_19 : decode cX7_isFigure 19 = .ok (.iconst 1, 1) := by decide +kernel
theorem dX7_isFigure_20 : decode cX7_isFigure 20 = .ok (.goto 4, 3) := by decide +kernel
theorem dX7_isFigure_23 : decode cX7_isFigure 23 = .ok (.iconst 0, 1) := by decide +kernel
theorem dX7_isFigure_24 : decode cX7_isFigure 24 = .ok (.ireturn, 1) := by decide +kernel
theorem dX7_letterAt_0 : decode cX7_letterAt 0 = .ok (.iload_n 1, 1) := by decide +kernel
theorem dX7_letterAt_1 : decode cX7_letterAt 1 = .ok (.ifCond .lt 20, 3) := by decide +kernel
theorem dX7_letterAt_4 : decode cX7_letterAt 4 = .ok (.iload_n 1, 1) := by decide +kernel
theorem dX7_letterAt_5 : decode cX7_letterAt 5 = .ok (.aload_n 0, 1) := by decide +kernel
theorem dX7_letterAt_6 : decode cX7_letterAt 6 = .ok (.getfield 15, 3) := by decide +kernel
theorem dX7_letterAt_9 : decode cX7_letterAt 9 = .ok (.if_icmp .ge 12, 3) := by decide +kernel
theorem dX7_letterAt_12 : decode cX7_letterAt 12 = .ok (.aload_n 0, 1) := by decide +kernel
theorem dX7_letterAt_13 : decode cX7_letterAt 13 = .ok (.getfield 9, 3) := by decide +kernel
theorem dX7_letterAt_16 : decode cX7_letterAt 16 = .ok (.iload_n 1, 1) := by decide +kernel
theorem dX7_letterAt_17 : decode cX7_letterAt 17 = .ok (.iaload, 1) := by decide +kernel
theorem dX7_letterAt_18 : decode cX7_letterAt 18 = .ok (.goto 4, 3) := by decide +kernel
theorem dX7_letterAt_21 : decode cX7_letterAt 21 = .ok (.iconst (-1), 1) := by decide +kernel
theorem dX7_letterAt_22 : decode cX7_letterAt 22 = .ok (.ireturn, 1) := by decide +kernel
theorem dX8_init_0 : decode cX8_init 0 = .ok (.aload_n 0, 1) := by decide +kernel
theorem dX8_init_1 : decode cX8_init 1 = .ok (.invokespecial 3, 3) := by decide +kernel
theorem dX8_init_4 : decode cX8_init 4 = .ok (.aload_n 0, 1) := by decide +kernel
theorem dX8_init_5 : decode cX8_init 5 = .ok (.bipush 24, 2) := by decide +kernel
theorem dX8_init_7 : decode cX8_init 7 = .ok (.newarray .int, 2) := by decide +kernel
theorem dX8_init_9 : decode cX8_init 9 = .ok (.putfield 9, 3) := by decide +kernel
theorem dX8_init_12 : decode cX8_init 12 = .ok (.aload_n 0, 1) := by decide +kernel
theorem dX8_init_13 : decode cX8_init 13 = .ok (.bipush 24, 2) := by decide +kernel
theorem dX8_init_15 : decode cX8_init 15 = .ok (.newarray .int, 2) := by decide +kernel
theorem dX8_init_17 : decode cX8_init 17 = .ok (.putfield 15, 3) := by decide +kernel
theorem dX8_init_20 : decode cX8_init 20 = .ok (.aload_n 0, 1) := by decide +kernel
theorem dX8_init_21 : decode cX8_init 21 = .ok (.bipush 24, 2) := by decide +kernel
theorem dX8_init_23 : decode cX8_init 23 = .ok (.newarray .int, 2) := by decide +kernel
theorem dX8_init_25 : decode cX8_init 25 = .ok (.putfield 18, 3) := by decide +kernel
theorem dX8_init_28 : decode cX8_init 28 = .ok (.aload_n 0, 1) := by decide +kernel
theorem dX8_init_29 : decode cX8_init 29 = .ok (.bipush 24, 2) := by decide +kernel
theorem dX8_init_31 : decode cX8_init 31 = .ok (.newarray .int, 2) := by decide +kernel
theorem dX8_init_33 : decode cX8_init 33 = .ok (.putfield 21, 3) := by decide +kernel
theorem dX8_init_36 : decode cX8_init 36 = .ok (.aload_n 0, 1) := by decide +kernel
theorem dX8_init_37 : decode cX8_init 37 = .ok (.bipush 24, 2) := by decide +kernel
theorem dX8_init_39 : decode cX8_init 39 = .ok (.newarray .int, 2) := by decide +kernel
theorem dX8_init_41 : decode cX8_init 41 = .ok (.putfield 24, 3) := by decide +kernel
theorem dX8_init_44 : decode cX8_init 44 = .ok (.aload_n 0, 1) := by decide +kernel
theorem dX8_init_45 : decode cX8_init 45 = .ok (.bipush 24, 2) := by decide +kernel
theorem dX8_init_47 : decode cX8_init 47 = .ok (.newarray .int, 2) := by decide +kernel
theorem dX8_init_49 : decode cX8_init 49 = .ok (.putfield 27, 3) := by decide +kernel
theorem dX8_init_52 : decode cX8_init 52 = .ok (.aload_n 0, 1) := by decide +kernel
theorem dX8_init_53 : decode cX8_init 53 = .ok (.bipush 24, 2) := by decide +kernel
theorem dX8_init_55 : decode cX8_init 55 = .ok (.newarray .int, 2) := by decide +kernel
theorem dX8_init_57 : decode cX8_init 57 = .ok (.putfield 30, 3) := by decide +kernel
theorem dX8_init_60 : decode cX8_init 60 = .ok (.aload_n 0, 1) := by decide +kernel
theorem dX8_init_61 : decode cX8_init 61 = .ok (.bipush 24, 2) := by decide +kernel
theorem dX8_init_63 : decode cX8_init 63 = .ok (.newarray .int, 2) := by decide +kernel
theorem dX8_init_65 : decode cX8_init 65 = .ok (.putfield 33, 3) := by decide +kernel
theorem dX8_init_68 : decode cX8_init 68 = .ok (.aload_n 0, 1) := by decide +kernel
theorem dX8_init_69 : decode cX8_init 69 = .ok (.iconst 0, 1) := by decide +kernel
theorem dX8_init_70 : decode cX8_init 70 = .ok (.putfield 36, 3) := by decide +kernel
theorem dX8_init_73 : decode cX8_init 73 = .ok (.aload_n 0, 1) := by decide +kernel
theorem dX8_init_74 : decode cX8_init 74 = .ok (.iconst 0, 1) := by decide +kernel
theorem dX8_init_75 : decode cX8_init 75 = .ok (.putfield 40, 3) := by decide +kernel
theorem dX8_init_78 : decode cX8_init 78 = .ok (.aload_n 0, 1) := by decide +kernel
theorem dX8_init_79 : decode cX8_init 79 = .ok (.iconst 0, 1) := by decide +kernel
theorem dX8_init_80 : decode cX8_init 80 = .ok (.putfield 43, 3) := by decide +kernel
theorem dX8_init_83 : decode cX8_init 83 = .ok (.return_, 1) := by decide +kernel
theorem dX8_lay_0 : decode cX8_lay 0 = .ok (.aload_n 0, 1) := by decide +kernel
theorem dX8_lay_1 : decode cX8_lay 1 = .ok (.aload_n 1, 1) := by decide +kernel
theorem dX8_lay_2 : decode cX8_lay 2 = .ok (.aload_n 2, 1) := by decide +kernel
theorem dX8_lay_3 : decode cX8_lay 3 = .ok (.invokevirtual 47, 3) := by decide +kernel
theorem dX8_lay_6 : decode cX8_lay 6 = .ok (.aload_n 0, 1) := by decide +kernel
theorem dX8_lay_7 : decode cX8_lay 7 = .ok (.aload_n 1, 1) := by decide +kernel
theorem dX8_lay_8 : decode cX8_lay 8 = .ok (.invokevirtual 51, 3) := by decide +kernel
theorem dX8_lay_11 : decode cX8_lay 11 = .ok (.aload_n 0, 1) := by decide +kernel
theorem dX8_lay_12 : decode cX8_lay 12 = .ok (.iconst 0, 1) := by decide +kernel
theorem dX8_lay_13 : decode cX8_lay 13 = .ok (.putfield 40, 3) := by decide +kernel
theorem dX8_lay_16 : decode cX8_lay 16 = .ok (.aload_n 0, 1) := by decide +kernel
theorem dX8_lay_17 : decode cX8_lay 17 = .ok (.iconst 0, 1) := by decide +kernel
theorem dX8_lay_18 : decode cX8_lay 18 = .ok (.putfield 43, 3) := by decide +kernel
theorem dX8_lay_21 : decode cX8_lay 21 = .ok (.iconst 0, 1) := by decide +kernel
theorem dX8_lay_22 : decode cX8_lay 22 = .ok (.istore_n 3, 1) := by decide +kernel
theorem dX8_lay_23 : decode cX8_lay 23 = .ok (.iload_n 3, 1) := by decide +kernel
theorem dX8_lay_24 : decode cX8_lay 24 = .ok (.aload_n 1, 1) := by decide +kernel
theorem dX8_lay_25 : decode cX8_lay 25 = .ok (.getfield 55, 3) := by decide +kernel
theorem dX8_lay_28 : decode cX8_lay 28 = .ok (.if_icmp .ge 86, 3) := by decide +kernel
theorem dX8_lay_31 : decode cX8_lay 31 = .ok (.iload_n 3, 1) := by decide +kernel
theorem dX8_lay_32 : decode cX8_lay 32 = .ok (.aload_n 0, 1) := by decide +kernel
end
section
theorem dX8_lay_33 : decode cX8_lay 33 = .ok (.getfield 36, 3) := by decide +kernel
theorem dX8_lay_36 : decode cX8_lay 36 = .ok (.if_icmp .lt 9, 3) := by decide +kernel
theorem dX8_lay_39 : decode cX8_lay 39 = .ok (.aload_n 0, 1) := by decide +kernel
theorem dX8_lay_40 : decode cX8_lay 40 = .ok (.iconst 1, 1) := by decide +kernel
theorem dX8_lay_41 : decode cX8_lay 41 = .ok (.putfield 43, 3) := by decide +kernel
theorem dX8_lay_44 : decode cX8_lay 44 = .ok (.return_, 1) := by decide +kernel
theorem dX8_lay_45 : decode cX8_lay 45 = .ok (.aload_n 0, 1) := by decide +kernel
theorem dX8_lay_46 : decode cX8_lay 46 = .ok (.getfield 33, 3) := by decide +kernel
theorem dX8_lay_49 : decode cX8_lay 49 = .ok (.iload_n 3, 1) := by decide +kernel
theorem dX8_lay_50 : decode cX8_lay 50 = .ok (.iaload, 1) := by decide +kernel
theorem dX8_lay_51 : decode cX8_lay 51 = .ok (.istore 4, 2) := by decide +kernel
theorem dX8_lay_53 : decode cX8_lay 53 = .ok (.aload_n 0, 1) := by decide +kernel
theorem dX8_lay_54 : decode cX8_lay 54 = .ok (.getfield 21, 3) := by decide +kernel
theorem dX8_lay_57 : decode cX8_lay 57 = .ok (.iload 4, 2) := by decide +kernel
theorem dX8_lay_59 : decode cX8_lay 59 = .ok (.iaload, 1) := by decide +kernel
theorem dX8_lay_60 : decode cX8_lay 60 = .ok (.aload_n 1, 1) := by decide +kernel
theorem dX8_lay_61 : decode cX8_lay 61 = .ok (.getfield 60, 3) := by decide +kernel
theorem dX8_lay_64 : decode cX8_lay 64 = .ok (.iload 4, 2) := by decide +kernel
theorem dX8_lay_66 : decode cX8_lay 66 = .ok (.iaload, 1) := by decide +kernel
theorem dX8_lay_67 : decode cX8_lay 67 = .ok (.iadd, 1) := by decide +kernel
theorem dX8_lay_68 : decode cX8_lay 68 = .ok (.istore 5, 2) := by decide +kernel
theorem dX8_lay_70 : decode cX8_lay 70 = .ok (.aload_n 0, 1) := by decide +kernel
theorem dX8_lay_71 : decode cX8_lay 71 = .ok (.aload_n 0, 1) := by decide +kernel
theorem dX8_lay_72 : decode cX8_lay 72 = .ok (.getfield 40, 3) := by decide +kernel
theorem dX8_lay_75 : decode cX8_lay 75 = .ok (.iload 5, 2) := by decide +kernel
theorem dX8_lay_77 : decode cX8_lay 77 = .ok (.invokestatic 63, 3) := by decide +kernel
theorem dX8_lay_80 : decode cX8_lay 80 = .ok (.putfield 40, 3) := by decide +kernel
theorem dX8_lay_83 : decode cX8_lay 83 = .ok (.aload_n 0, 1) := by decide +kernel
theorem dX8_lay_84 : decode cX8_lay 84 = .ok (.aload_n 1, 1) := by decide +kernel
theorem dX8_lay_85 : decode cX8_lay 85 = .ok (.iload 4, 2) := by decide +kernel
theorem dX8_lay_87 : decode cX8_lay 87 = .ok (.invokevirtual 69, 3) := by decide +kernel
theorem dX8_lay_90 : decode cX8_lay 90 = .ok (.iload 5, 2) := by decide +kernel
theorem dX8_lay_92 : decode cX8_lay 92 = .ok (.invokevirtual 73, 3) := by decide +kernel
theorem dX8_lay_95 : decode cX8_lay 95 = .ok (.aload_n 0, 1) := by decide +kernel
theorem dX8_lay_96 : decode cX8_lay 96 = .ok (.aload_n 0, 1) := by decide +kernel
theorem dX8_lay_97 : decode cX8_lay 97 = .ok (.getfield 18, 3) := by decide +kernel
theorem dX8_lay_100 : decode cX8_lay 100 = .ok (.iload 4, 2) := by decide +kernel
theorem dX8_lay_102 : decode cX8_lay 102 = .ok (.iaload, 1) := by decide +kernel
theorem dX8_lay_103 : decode cX8_lay 103 = .ok (.iload 5, 2) := by decide +kernel
theorem dX8_lay_105 : decode cX8_lay 105 = .ok (.invokevirtual 73, 3) := by decide +kernel
theorem dX8_lay_108 : decode cX8_lay 108 = .ok (.iinc 3 1, 3) := by decide +kernel
theorem dX8_lay_111 : decode cX8_lay 111 = .ok (.goto (-88), 3) := by decide +kernel
theorem dX8_lay_114 : decode cX8_lay 114 = .ok (.return_, 1) := by decide +kernel
theorem dX8_link_0 : decode cX8_link 0 = .ok (.iconst 0, 1) := by decide +kernel
theorem dX8_link_1 : decode cX8_link 1 = .ok (.istore_n 3, 1) := by decide +kernel
theorem dX8_link_2 : decode cX8_link 2 = .ok (.iload_n 3, 1) := by decide +kernel
theorem dX8_link_3 : decode cX8_link 3 = .ok (.iconst 5, 1) := by decide +kernel
theorem dX8_link_4 : decode cX8_link 4 = .ok (.if_icmp .ge 112, 3) := by decide +kernel
theorem dX8_link_7 : decode cX8_link 7 = .ok (.aload_n 1, 1) := by decide +kernel
theorem dX8_link_8 : decode cX8_link 8 = .ok (.getfield 77, 3) := by decide +kernel
theorem dX8_link_11 : decode cX8_link 11 = .ok (.iload_n 3, 1) := by decide +kernel
theorem dX8_link_12 : decode cX8_link 12 = .ok (.iaload, 1) := by decide +kernel
theorem dX8_link_13 : decode cX8_link 13 = .ok (.istore 4, 2) := by decide +kernel
theorem dX8_link_15 : decode cX8_link 15 = .ok (.aload_n 1, 1) := by decide +kernel
theorem dX8_link_16 : decode cX8_link 16 = .ok (.getfield 77, 3) := by decide +kernel
theorem dX8_link_19 : decode cX8_link 19 = .ok (.iload_n 3, 1) := by decide +kernel
theorem dX8_link_20 : decode cX8_link 20 = .ok (.iconst 1, 1) := by decide +kernel
theorem dX8_link_21 : decode cX8_link 21 = .ok (.iadd, 1) := by decide +kernel
theorem dX8_link_22 : decode cX8_link 22 = .ok (.iaload, 1) := by decide +kernel
theorem dX8_link_23 : decode cX8_link 23 = .ok (.istore 5, 2) := by decide +kernel
theorem dX8_link_25 : decode cX8_link 25 = .ok (.iload 4, 2) := by decide +kernel
theorem dX8_link_27 : decode cX8_link 27 = .ok (.istore 6, 2) := by decide +kernel
theorem dX8_link_29 : decode cX8_link 29 = .ok (.iload 6, 2) := by decide +kernel
theorem dX8_link_31 : decode cX8_link 31 = .ok (.iload 5, 2) := by decide +kernel
theorem dX8_link_33 : decode cX8_link 33 = .ok (.if_icmp .ge 77, 3) := by decide +kernel
theorem dX8_link_36 : decode cX8_link 36 = .ok (.aload_n 2, 1) := by decide +kernel
theorem dX8_link_37 : decode cX8_link 37 = .ok (.iload 6, 2) := by decide +kernel
theorem dX8_link_39 : decode cX8_link 39 = .ok (.iaload, 1) := by decide +kernel
theorem dX8_link_40 : decode cX8_link 40 = .ok (.istore 7, 2) := by decide +kernel
theorem dX8_link_42 : decode cX8_link 42 = .ok (.aload_n 0, 1) := by decide +kernel
theorem dX8_link_43 : decode cX8_link 43 = .ok (.getfield 9, 3) := by decide +kernel
theorem dX8_link_46 : decode cX8_link 46 = .ok (.iload 7, 2) := by decide +kernel
theorem dX8_link_48 : decode cX8_link 48 = .ok (.iload 6, 2) := by decide +kernel
theorem dX8_link_50 : decode cX8_link 50 = .ok (.iload 4, 2) := by decide +kernel
theorem dX8_link_52 : decode cX8_link 52 = .ok (.isub, 1) := by decide +kernel
theorem dX8_link_53 : decode cX8_link 53 = .ok (.iastore, 1) := by decide +kernel
theorem dX8_link_54 : decode cX8_link 54 = .ok (.aload_n 0, 1) := by decide +kernel
theorem dX8_link_55 : decode cX8_link 55 = .ok (.getfield 15, 3) := by decide +kernel
theorem dX8_link_58 : decode cX8_link 58 = .ok (.iload 7, 2) := by decide +kernel
theorem dX8_link_60 : decode cX8_link 60 = .ok (.iload 6, 2) := by decide +kernel
theorem dX8_link_62 : decode cX8_link 62 = .ok (.iload 4, 2) := by decide +kernel
theorem dX8_link_64 : decode cX8_link 64 = .ok (.if_icmp .le 12, 3) := by decide +kernel
theorem dX8_link_67 : decode cX8_link 67 = .ok (.aload_n 2, 1) := by decide +kernel
theorem dX8_link_68 : decode cX8_link 68 = .ok (.iload 6, 2) := by decide +kernel
theorem dX8_link_70 : decode cX8_link 70 = .ok (.iconst 1, 1) := by decide +kernel
theorem dX8_link_71 : decode cX8_link 71 = .ok (.isub, 1) := by decide +kernel
theorem dX8_link_72 : decode cX8_link 72 = .ok (.iaload, 1) := by decide +kernel
theorem dX8_link_73 : decode cX8_link 73 = .ok (.goto 4, 3) := by decide +kernel
theorem dX8_link_76 : decode cX8_link 76 = .ok (.iconst (-1), 1) := by decide +kernel
theorem dX8_link_77 : decode cX8_link 77 = .ok (.iastore, 1) := by decide +kernel
theorem dX8_link_78 : decode cX8_link 78 = .ok (.aload_n 0, 1) := by decide +kernel
theorem dX8_link_79 : decode cX8_link 79 = .ok (.getfield 18, 3) := by decide +kernel
theorem dX8_link_82 : decode cX8_link 82 = .ok (.iload 7, 2) := by decide +kernel
theorem dX8_link_84 : decode cX8_link 84 = .ok (.iload 6, 2) := by decide +kernel
theorem dX8_link_86 : decode cX8_link 86 = .ok (.iconst 1, 1) := by decide +kernel
theorem dX8_link_87 : decode cX8_link 87 = .ok (.iadd, 1) := by decide +kernel
theorem dX8_link_88 : decode cX8_link 88 = .ok (.iload 5, 2) := by decide +kernel
theorem dX8_link_90 : decode cX8_link 90 = .ok (.if_icmp .ge 12, 3) := by decide +kernel
theorem dX8_link_93 : decode cX8_link 93 = .ok (.aload_n 2, 1) := by decide +kernel
theorem dX8_link_94 : decode cX8_link 94 = .ok (.iload 6, 2) := by decide +kernel
theorem dX8_link_96 : decode cX8_link 96 = .ok (.iconst 1, 1) := by decide +kernel
theorem dX8_link_97 : decode cX8_link 97 = .ok (.iadd, 1) := by decide +kernel
theorem dX8_link_98 : decode cX8_link 98 = .ok (.iaload, 1) := by decide +kernel
theorem dX8_link_99 : decode cX8_link 99 = .ok (.goto 4, 3) := by decide +kernel
theorem dX8_link_102 : decode cX8_link 102 = .ok (.iconst (-1), 1) := by decide +kernel
theorem dX8_link_103 : decode cX8_link 103 = .ok (.iastore, 1) := by decide +kernel
theorem dX8_link_104 : decode cX8_link 104 = .ok (.iinc 6 1, 3) := by decide +kernel
theorem dX8_link_107 : decode cX8_link 107 = .ok (.goto (-78), 3) := by decide +kernel
theorem dX8_link_110 : decode cX8_link 110 = .ok (.iinc 3 1, 3) := by decide +kernel
theorem dX8_link_113 : decode cX8_link 113 = .ok (.goto (-111), 3) := by decide +kernel
theorem dX8_link_116 : decode cX8_link 116 = .ok (.return_, 1) := by decide +kernel
theorem dX8_queueFree_0 : decode cX8_queueFree 0 = .ok (.aload_n 0, 1) := by decide +kernel
theorem dX8_queueFree_1 : decode cX8_queueFree 1 = .ok (.iconst 0, 1) := by decide +kernel
theorem dX8_queueFree_2 : decode cX8_queueFree 2 = .ok (.putfield 36, 3) := by decide +kernel
theorem dX8_queueFree_5 : decode cX8_queueFree 5 = .ok (.iconst 0, 1) := by decide +kernel
theorem dX8_queueFree_6 : decode cX8_queueFree 6 = .ok (.istore_n 2, 1) := by decide +kernel
theorem dX8_queueFree_7 : decode cX8_queueFree 7 = .ok (.iload_n 2, 1) := by decide +kernel
theorem dX8_queueFree_8 : decode cX8_queueFree 8 = .ok (.aload_n 1, 1) := by decide +kernel
theorem dX8_queueFree_9 : decode cX8_queueFree 9 = .ok (.getfield 55, 3) := by decide +kernel
theorem dX8_queueFree_12 : decode cX8_queueFree 12 = .ok (.if_icmp .ge 81, 3) := by decide +kernel
theorem dX8_queueFree_15 : decode cX8_queueFree 15 = .ok (.aload_n 0, 1) := by decide +kernel
theorem dX8_queueFree_16 : decode cX8_queueFree 16 = .ok (.getfield 21, 3) := by decide +kernel
theorem dX8_queueFree_19 : decode cX8_queueFree 19 = .ok (.iload_n 2, 1) := by decide +kernel
theorem dX8_queueFree_20 : decode cX8_queueFree 20 = .ok (.iconst 0, 1) := by decide +kernel
theorem dX8_queueFree_21 : decode cX8_queueFree 21 = .ok (.iastore, 1) := by decide +kernel
theorem dX8_queueFree_22 : decode cX8_queueFree 22 = .ok (.aload_n 0, 1) := by decide +kernel
theorem dX8_queueFree_23 : decode cX8_queueFree 23 = .ok (.getfield 30, 3) := by decide +kernel
theorem dX8_queueFree_26 : decode cX8_queueFree 26 = .ok (.iload_n 2, 1) := by decide +kernel
theorem dX8_queueFree_27 : decode cX8_queueFree 27 = .ok (.aload_n 1, 1) := by decide +kernel
theorem dX8_queueFree_28 : decode cX8_queueFree 28 = .ok (.iload_n 2, 1) := by decide +kernel
theorem dX8_queueFree_29 : decode cX8_queueFree 29 = .ok (.invokevirtual 80, 3) := by decide +kernel
theorem dX8_queueFree_32 : decode cX8_queueFree 32 = .ok (.iconst (-1), 1) := by decide +kernel
theorem dX8_queueFree_33 : decode cX8_queueFree 33 = .ok (.if_icmp .eq 7, 3) := by decide +kernel
theorem dX8_queueFree_36 : decode cX8_queueFree 36 = .ok (.iconst 1, 1) := by decide +kernel
theorem dX8_queueFree_37 : decode cX8_queueFree 37 = .ok (.goto 4, 3) := by decide +kernel
theorem dX8_queueFree_40 : decode cX8_queueFree 40 = .ok (.iconst 0, 1) := by decide +kernel
theorem dX8_queueFree_41 : decode cX8_queueFree 41 = .ok (.aload_n 0, 1) := by decide +kernel
theorem dX8_queueFree_42 : decode cX8_queueFree 42 = .ok (.getfield 15, 3) := by decide +kernel
theorem dX8_queueFree_45 : decode cX8_queueFree 45 = .ok (.iload_n 2, 1) := by decide +kernel
theorem dX8_queueFree_46 : decode cX8_queueFree 46 = .ok (.iaload, 1) := by decide +kernel
theorem dX8_queueFree_47 : decode cX8_queueFree 47 = .ok (.iconst (-1), 1) := by decide +kernel
theorem dX8_queueFree_48 : decode cX8_queueFree 48 = .ok (.if_icmp .eq 7, 3) := by decide +kernel
theorem dX8_queueFree_51 : decode cX8_queueFree 51 = .ok (.iconst 1, 1) := by decide +kernel
theorem dX8_queueFree_52 : decode cX8_queueFree 52 = .ok (.goto 4, 3) := by decide +kernel
theorem dX8_queueFree_55 : decode cX8_queueFree 55 = .ok (.iconst 0, 1) := by decide +kernel
theorem dX8_queueFree_56 : decode cX8_queueFree 56 = .ok (.iadd, 1) := by decide +kernel
theorem dX8_queueFree_57 : decode cX8_queueFree 57 = .ok (.iastore, 1) := by decide +kernel
theorem dX8_queueFree_58 : decode cX8_queueFree 58 = .ok (.aload_n 0, 1) := by decide +kernel
theorem dX8_queueFree_59 : decode cX8_queueFree 59 = .ok (.getfield 30, 3) := by decide +kernel
theorem dX8_queueFree_62 : decode cX8_queueFree 62 = .ok (.iload_n 2, 1) := by decide +kernel
theorem dX8_queueFree_63 : decode cX8_queueFree 63 = .ok (.iaload, 1) := by decide +kernel
theorem dX8_queueFree_64 : decode cX8_queueFree 64 = .ok (.ifCond .ne 23, 3) := by decide +kernel
theorem dX8_queueFree_67 : decode cX8_queueFree 67 = .ok (.aload_n 0, 1) := by decide +kernel
theorem dX8_queueFree_68 : decode cX8_queueFree 68 = .ok (.getfield 33, 3) := by decide +kernel
theorem dX8_queueFree_71 : decode cX8_queueFree 71 = .ok (.aload_n 0, 1) := by decide +kernel
theorem dX8_queueFree_72 : decode cX8_queueFree 72 = .ok (.getfield 36, 3) := by decide +kernel
theorem dX8_queueFree_75 : decode cX8_queueFree 75 = .ok (.iload_n 2, 1) := by decide +kernel
theorem dX8_queueFree_76 : decode cX8_queueFree 76 = .ok (.iastore, 1) := by decide +kernel
theorem dX8_queueFree_77 : decode cX8_queueFree 77 = .ok (.aload_n 0, 1) := by decide +kernel
theorem dX8_queueFree_78 : decode cX8_queueFree 78 = .ok (.dup, 1) := by decide +kernel
theorem dX8_queueFree_79 : decode cX8_queueFree 79 = .ok (.getfield 36, 3) := by decide +kernel
theorem dX8_queueFree_82 : decode cX8_queueFree 82 = .ok (.iconst 1, 1) := by decide +kernel
theorem dX8_queueFree_83 : decode cX8_queueFree 83 = .ok (.iadd, 1) := by decide +kernel
theorem dX8_queueFree_84 : decode cX8_queueFree 84 = .ok (.putfield 36, 3) := by decide +kernel
theorem dX8_queueFree_87 : decode cX8_queueFree 87 = .ok (.iinc 2 1, 3) := by decide +kernel
theorem dX8_queueFree_90 : decode cX8_queueFree 90 = .ok (.goto (-83), 3) := by decide +kernel
theorem dX8_queueFree_93 : decode cX8_queueFree 93 = .ok (.return_, 1) := by decide +kernel
theorem dX8_release_0 : decode cX8_release 0 = .ok (.iload_n 1, 1) := by decide +kernel
theorem dX8_release_1 : decode cX8_release 1 = .ok (.iconst (-1), 1) := by decide +kernel
theorem dX8_release_2 : decode cX8_release 2 = .ok (.if_icmp .ne 4, 3) := by decide +kernel
theorem dX8_release_5 : decode cX8_release 5 = .ok (.return_, 1) := by decide +kernel
theorem dX8_release_6 : decode cX8_release 6 = .ok (.aload_n 0, 1) := by decide +kernel
theorem dX8_release_7 : decode cX8_release 7 = .ok (.getfield 21, 3) := by decide +kernel
theorem dX8_release_10 : decode cX8_release 10 = .ok (.iload_n 1, 1) := by decide +kernel
theorem dX8_release_11 : decode cX8_release 11 = .ok (.aload_n 0, 1) := by decide +kernel
theorem dX8_release_12 : decode cX8_release 12 = .ok (.getfield 21, 3) := by decide +kernel
theorem dX8_release_15 : decode cX8_release 15 = .ok (.iload_n 1, 1) := by decide +kernel
theorem dX8_release_16 : decode cX8_release 16 = .ok (.iaload, 1) := by decide +kernel
theorem dX8_release_17 : decode cX8_release 17 = .ok (.iload_n 2, 1) := by decide +kernel
theorem dX8_release_18 : decode cX8_release 18 = .ok (.invokestatic 63, 3) := by decide +kernel
theorem dX8_release_21 : decode cX8_release 21 = .ok (.iastore, 1) := by decide +kernel
theorem dX8_release_22 : decode cX8_release 22 = .ok (.aload_n 0, 1) := by decide +kernel
theorem dX8_release_23 : decode cX8_release 23 = .ok (.getfield 30, 3) := by decide +kernel
theorem dX8_release_26 : decode cX8_release 26 = .ok (.iload_n 1, 1) := by decide +kernel
theorem dX8_release_27 : decode cX8_release 27 = .ok (.dup2, 1) := by decide +kernel
theorem dX8_release_28 : decode cX8_release 28 = .ok (.iaload, 1) := by decide +kernel
theorem dX8_release_29 : decode cX8_release 29 = .ok (.iconst 1, 1) := by decide +kernel
theorem dX8_release_30 : decode cX8_release 30 = .ok (.isub, 1) := by decide +kernel
theorem dX8_release_31 : decode cX8_release 31 = .ok (.iastore, 1) := by decide +kernel
theorem dX8_release_32 : decode cX8_release 32 = .ok (.aload_n 0, 1) := by decide +kernel
theorem dX8_release_33 : decode cX8_release 33 = .ok (.getfield 30, 3) := by decide +kernel
theorem dX8_release_36 : decode cX8_release 36 = .ok (.iload_n 1, 1) := by decide +kernel
theorem dX8_release_37 : decode cX8_release 37 = .ok (.iaload, 1) := by decide +kernel
theorem dX8_release_38 : decode cX8_release 38 = .ok (.ifCond .ne 32, 3) := by decide +kernel
theorem dX8_release_41 : decode cX8_release 41 = .ok (.aload_n 0, 1) := by decide +kernel
theorem dX8_release_42 : decode cX8_release 42 = .ok (.getfield 36, 3) := by decide +kernel
theorem dX8_release_45 : decode cX8_release 45 = .ok (.bipush 24, 2) := by decide +kernel
theorem dX8_release_47 : decode cX8_release 47 = .ok (.if_icmp .ge 23, 3) := by decide +kernel
theorem dX8_release_50 : decode cX8_release 50 = .ok (.aload_n 0, 1) := by decide +kernel
theorem dX8_release_51 : decode cX8_release 51 = .ok (.getfield 33, 3) := by decide +kernel
theorem dX8_release_54 : decode cX8_release 54 = .ok (.aload_n 0, 1) := by decide +kernel
theorem dX8_release_55 : decode cX8_release 55 = .ok (.getfield 36, 3) := by decide +kernel
theorem dX8_release_58 : decode cX8_release 58 = .ok (.iload_n 1, 1) := by decide +kernel
theorem dX8_release_59 : decode cX8_release 59 = .ok (.iastore, 1) := by decide +kernel
theorem dX8_release_60 : decode cX8_release 60 = .ok (.aload_n 0, 1) := by decide +kernel
theorem dX8_release_61 : decode cX8_release 61 = .ok (.dup, 1) := by decide +kernel
theorem dX8_release_62 : decode cX8_release 62 = .ok (.getfield 36, 3) := by decide +kernel
theorem dX8_release_65 : decode cX8_release 65 = .ok (.iconst 1, 1) := by decide +kernel
theorem dX8_release_66 : decode cX8_release 66 = .ok (.iadd, 1) := by decide +kernel
theorem dX8_release_67 : decode cX8_release 67 = .ok (.putfield 36, 3) := by decide +kernel
theorem dX8_release_70 : decode cX8_release 70 = .ok (.return_, 1) := by decide +kernel
theorem dX8_layTails_0 : decode cX8_layTails 0 = .ok (.aload_n 1, 1) := by decide +kernel
theorem dX8_layTails_1 : decode cX8_layTails 1 = .ok (.getfield 55, 3) := by decide +kernel
theorem dX8_layTails_4 : decode cX8_layTails 4 = .ok (.iconst 1, 1) := by decide +kernel
theorem dX8_layTails_5 : decode cX8_layTails 5 = .ok (.isub, 1) := by decide +kernel
theorem dX8_layTails_6 : decode cX8_layTails 6 = .ok (.istore_n 2, 1) := by decide +kernel
theorem dX8_layTails_7 : decode cX8_layTails 7 = .ok (.iload_n 2, 1) := by decide +kernel
theorem dX8_layTails_8 : decode cX8_layTails 8 = .ok (.ifCond .lt 77, 3) := by decide +kernel
theorem dX8_layTails_11 : decode cX8_layTails 11 = .ok (.aload_n 0, 1) := by decide +kernel
theorem dX8_layTails_12 : decode cX8_layTails 12 = .ok (.getfield 33, 3) := by decide +kernel
theorem dX8_layTails_15 : decode cX8_layTails 15 = .ok (.iload_n 2, 1) := by decide +kernel
theorem dX8_layTails_16 : decode cX8_layTails 16 = .ok (.iaload, 1) := by decide +kernel
theorem dX8_layTails_17 : decode cX8_layTails 17 = .ok (.istore_n 3, 1) := by decide +kernel
theorem dX8_layTails_18 : decode cX8_layTails 18 = .ok (.aload_n 0, 1) := by decide +kernel
theorem dX8_layTails_19 : decode cX8_layTails 19 = .ok (.getfield 24, 3) := by decide +kernel
theorem dX8_layTails_22 : decode cX8_layTails 22 = .ok (.iload_n 3, 1) := by decide +kernel
theorem dX8_layTails_23 : decode cX8_layTails 23 = .ok (.aload_n 0, 1) := by decide +kernel
theorem dX8_layTails_24 : decode cX8_layTails 24 = .ok (.aload_n 1, 1) := by decide +kernel
theorem dX8_layTails_25 : decode cX8_layTails 25 = .ok (.aload_n 1, 1) := by decide +kernel
theorem dX8_layTails_26 : decode cX8_layTails 26 = .ok (.iload_n 3, 1) := by decide +kernel
theorem dX8_layTails_27 : decode cX8_layTails 27 = .ok (.invokevirtual 69, 3) := by decide +kernel
theorem dX8_layTails_30 : decode cX8_layTails 30 = .ok (.invokevirtual 83, 3) := by decide +kernel
theorem dX8_layTails_33 : decode cX8_layTails 33 = .ok (.aload_n 0, 1) := by decide +kernel
theorem dX8_layTails_34 : decode cX8_layTails 34 = .ok (.aload_n 1, 1) := by decide +kernel
theorem dX8_layTails_35 : decode cX8_layTails 35 = .ok (.aload_n 0, 1) := by decide +kernel
theorem dX8_layTails_36 : decode cX8_layTails 36 = .ok (.getfield 18, 3) := by decide +kernel
theorem dX8_layTails_39 : decode cX8_layTails 39 = .ok (.iload_n 3, 1) := by decide +kernel
theorem dX8_layTails_40 : decode cX8_layTails 40 = .ok (.iaload, 1) := by decide +kernel
theorem dX8_layTails_41 : decode cX8_layTails 41 = .ok (.invokevirtual 83, 3) := by decide +kernel
theorem dX8_layTails_44 : decode cX8_layTails 44 = .ok (.invokestatic 63, 3) := by decide +kernel
theorem dX8_layTails_47 : decode cX8_layTails 47 = .ok (.iastore, 1) := by decide +kernel
theorem dX8_layTails_48 : decode cX8_layTails 48 = .ok (.aload_n 0, 1) := by decide +kernel
theorem dX8_layTails_49 : decode cX8_layTails 49 = .ok (.getfield 27, 3) := by decide +kernel
theorem dX8_layTails_52 : decode cX8_layTails 52 = .ok (.iload_n 3, 1) := by decide +kernel
theorem dX8_layTails_53 : decode cX8_layTails 53 = .ok (.aload_n 0, 1) := by decide +kernel
theorem dX8_layTails_54 : decode cX8_layTails 54 = .ok (.getfield 40, 3) := by decide +kernel
theorem dX8_layTails_57 : decode cX8_layTails 57 = .ok (.aload_n 0, 1) := by decide +kernel
theorem dX8_layTails_58 : decode cX8_layTails 58 = .ok (.getfield 21, 3) := by decide +kernel
theorem dX8_layTails_61 : decode cX8_layTails 61 = .ok (.iload_n 3, 1) := by decide +kernel
theorem dX8_layTails_62 : decode cX8_layTails 62 = .ok (.iaload, 1) := by decide +kernel
theorem dX8_layTails_63 : decode cX8_layTails 63 = .ok (.isub, 1) := by decide +kernel
theorem dX8_layTails_64 : decode cX8_layTails 64 = .ok (.aload_n 1, 1) := by decide +kernel
theorem dX8_layTails_65 : decode cX8_layTails 65 = .ok (.getfield 60, 3) := by decide +kernel
theorem dX8_layTails_68 : decode cX8_layTails 68 = .ok (.iload_n 3, 1) := by decide +kernel
theorem dX8_layTails_69 : decode cX8_layTails 69 = .ok (.iaload, 1) := by decide +kernel
theorem dX8_layTails_70 : decode cX8_layTails 70 = .ok (.isub, 1) := by decide +kernel
theorem dX8_layTails_71 : decode cX8_layTails 71 = .ok (.aload_n 0, 1) := by decide +kernel
theorem dX8_layTails_72 : decode cX8_layTails 72 = .ok (.getfield 24, 3) := by decide +kernel
theorem dX8_layTails_75 : decode cX8_layTails 75 = .ok (.iload_n 3, 1) := by decide +kernel
theorem dX8_layTails_76 : decode cX8_layTails 76 = .ok (.iaload, 1) := by decide +kernel
theorem dX8_layTails_77 : decode cX8_layTails 77 = .ok (.isub, 1) := by decide +kernel
theorem dX8_layTails_78 : decode cX8_layTails 78 = .ok (.iastore, 1) := by decide +kernel
theorem dX8_layTails_79 : decode cX8_layTails 79 = .ok (.iinc 2 (-1), 3) := by decide +kernel
theorem dX8_layTails_82 : decode cX8_layTails 82 = .ok (.goto (-75), 3) := by decide +kernel
theorem dX8_layTails_85 : decode cX8_layTails 85 = .ok (.return_, 1) := by decide +kernel
theorem dX8_toCome_0 : decode cX8_toCome 0 = .ok (.iload_n 2, 1) := by decide +kernel
theorem dX8_toCome_1 : decode cX8_toCome 1 = .ok (.iconst (-1), 1) := by decide +kernel
theorem dX8_toCome_2 : decode cX8_toCome 2 = .ok (.if_icmp .ne 7, 3) := by decide +kernel
theorem dX8_toCome_5 : decode cX8_toCome 5 = .ok (.iconst 0, 1) := by decide +kernel
theorem dX8_toCome_6 : decode cX8_toCome 6 = .ok (.goto 16, 3) := by decide +kernel
theorem dX8_toCome_9 : decode cX8_toCome 9 = .ok (.aload_n 1, 1) := by decide +kernel
theorem dX8_toCome_10 : decode cX8_toCome 10 = .ok (.getfield 60, 3) := by decide +kernel
theorem dX8_toCome_13 : decode cX8_toCome 13 = .ok (.iload_n 2, 1) := by decide +kernel
theorem dX8_toCome_14 : decode cX8_toCome 14 = .ok (.iaload, 1) := by decide +kernel
theorem dX8_toCome_15 : decode cX8_toCome 15 = .ok (.aload_n 0, 1) := by decide +kernel
theorem dX8_toCome_16 : decode cX8_toCome 16 = .ok (.getfield 24, 3) := by decide +kernel
theorem dX8_toCome_19 : decode cX8_toCome 19 = .ok (.iload_n 2, 1) := by decide +kernel
theorem dX8_toCome_20 : decode cX8_toCome 20 = .ok (.iaload, 1) := by decide +kernel
theorem dX8_toCome_21 : decode cX8_toCome 21 = .ok (.iadd, 1) := by decide +kernel
theorem dX8_toCome_22 : decode cX8_toCome 22 = .ok (.ireturn, 1) := by decide +kernel
theorem dX8_endOf_0 : decode cX8_endOf 0 = .ok (.iload_n 2, 1) := by decide +kernel
theorem dX8_endOf_1 : decode cX8_endOf 1 = .ok (.iconst (-1), 1) := by decide +kernel
theorem dX8_endOf_2 : decode cX8_endOf 2 = .ok (.if_icmp .ne 7, 3) := by decide +kernel
theorem dX8_endOf_5 : decode cX8_endOf 5 = .ok (.iconst 0, 1) := by decide +kernel
theorem dX8_endOf_6 : decode cX8_endOf 6 = .ok (.goto 16, 3) := by decide +kernel
theorem dX8_endOf_9 : decode cX8_endOf 9 = .ok (.aload_n 0, 1) := by decide +kernel
theorem dX8_endOf_10 : decode cX8_endOf 10 = .ok (.getfield 21, 3) := by decide +kernel
theorem dX8_endOf_13 : decode cX8_endOf 13 = .ok (.iload_n 2, 1) := by decide +kernel
theorem dX8_endOf_14 : decode cX8_endOf 14 = .ok (.iaload, 1) := by decide +kernel
theorem dX8_endOf_15 : decode cX8_endOf 15 = .ok (.aload_n 1, 1) := by decide +kernel
theorem dX8_endOf_16 : decode cX8_endOf 16 = .ok (.getfield 60, 3) := by decide +kernel
theorem dX8_endOf_19 : decode cX8_endOf 19 = .ok (.iload_n 2, 1) := by decide +kernel
theorem dX8_endOf_20 : decode cX8_endOf 20 = .ok (.iaload, 1) := by decide +kernel
theorem dX8_endOf_21 : decode cX8_endOf 21 = .ok (.iadd, 1) := by decide +kernel
theorem dX8_endOf_22 : decode cX8_endOf 22 = .ok (.ireturn, 1) := by decide +kernel
theorem dX8_atLeast_0 : decode cX8_atLeast 0 = .ok (.aload_n 0, 1) := by decide +kernel
theorem dX8_atLeast_1 : decode cX8_atLeast 1 = .ok (.aload_n 1, 1) := by decide +kernel
theorem dX8_atLeast_2 : decode cX8_atLeast 2 = .ok (.aload_n 1, 1) := by decide +kernel
theorem dX8_atLeast_3 : decode cX8_atLeast 3 = .ok (.iload_n 3, 1) := by decide +kernel
theorem dX8_atLeast_4 : decode cX8_atLeast 4 = .ok (.invokevirtual 80, 3) := by decide +kernel
theorem dX8_atLeast_7 : decode cX8_atLeast 7 = .ok (.invokevirtual 87, 3) := by decide +kernel
theorem dX8_atLeast_10 : decode cX8_atLeast 10 = .ok (.aload_n 0, 1) := by decide +kernel
theorem dX8_atLeast_11 : decode cX8_atLeast 11 = .ok (.aload_n 1, 1) := by decide +kernel
theorem dX8_atLeast_12 : decode cX8_atLeast 12 = .ok (.aload_n 0, 1) := by decide +kernel
theorem dX8_atLeast_13 : decode cX8_atLeast 13 = .ok (.getfield 15, 3) := by decide +kernel
theorem dX8_atLeast_16 : decode cX8_atLeast 16 = .ok (.iload_n 2, 1) := by decide +kernel
theorem dX8_atLeast_17 : decode cX8_atLeast 17 = .ok (.iaload, 1) := by decide +kernel
theorem dX8_atLeast_18 : decode cX8_atLeast 18 = .ok (.invokevirtual 87, 3) := by decide +kernel
theorem dX8_atLeast_21 : decode cX8_atLeast 21 = .ok (.invokestatic 63, 3) := by decide +kernel
theorem dX8_atLeast_24 : decode cX8_atLeast 24 = .ok (.istore 4, 2) := by decide +kernel
theorem dX8_atLeast_26 : decode cX8_atLeast 26 = .ok (.iload 4, 2) := by decide +kernel
theorem dX8_atLeast_28 : decode cX8_atLeast 28 = .ok (.aload_n 1, 1) := by decide +kernel
theorem dX8_atLeast_29 : decode cX8_atLeast 29 = .ok (.getfield 60, 3) := by decide +kernel
theorem dX8_atLeast_32 : decode cX8_atLeast 32 = .ok (.iload_n 3, 1) := by decide +kernel
theorem dX8_atLeast_33 : decode cX8_atLeast 33 = .ok (.iaload, 1) := by decide +kernel
theorem dX8_atLeast_34 : decode cX8_atLeast 34 = .ok (.iadd, 1) := by decide +kernel
theorem dX8_atLeast_35 : decode cX8_atLeast 35 = .ok (.aload_n 0, 1) := by decide +kernel
theorem dX8_atLeast_36 : decode cX8_atLeast 36 = .ok (.aload_n 1, 1) := by decide +kernel
theorem dX8_atLeast_37 : decode cX8_atLeast 37 = .ok (.aload_n 1, 1) := by decide +kernel
theorem dX8_atLeast_38 : decode cX8_atLeast 38 = .ok (.iload_n 2, 1) := by decide +kernel
theorem dX8_atLeast_39 : decode cX8_atLeast 39 = .ok (.invokevirtual 80, 3) := by decide +kernel
theorem dX8_atLeast_42 : decode cX8_atLeast 42 = .ok (.invokevirtual 87, 3) := by decide +kernel
theorem dX8_atLeast_45 : decode cX8_atLeast 45 = .ok (.invokestatic 63, 3) := by decide +kernel
theorem dX8_atLeast_48 : decode cX8_atLeast 48 = .ok (.istore 5, 2) := by decide +kernel
theorem dX8_atLeast_50 : decode cX8_atLeast 50 = .ok (.aload_n 0, 1) := by decide +kernel
theorem dX8_atLeast_51 : decode cX8_atLeast 51 = .ok (.aload_n 1, 1) := by decide +kernel
theorem dX8_atLeast_52 : decode cX8_atLeast 52 = .ok (.aload_n 1, 1) := by decide +kernel
theorem dX8_atLeast_53 : decode cX8_atLeast 53 = .ok (.iload_n 2, 1) := by decide +kernel
theorem dX8_atLeast_54 : decode cX8_atLeast 54 = .ok (.invokevirtual 69, 3) := by decide +kernel
theorem dX8_atLeast_57 : decode cX8_atLeast 57 = .ok (.invokevirtual 83, 3) := by decide +kernel
theorem dX8_atLeast_60 : decode cX8_atLeast 60 = .ok (.aload_n 0, 1) := by decide +kernel
theorem dX8_atLeast_61 : decode cX8_atLeast 61 = .ok (.aload_n 1, 1) := by decide +kernel
theorem dX8_atLeast_62 : decode cX8_atLeast 62 = .ok (.aload_n 0, 1) := by decide +kernel
theorem dX8_atLeast_63 : decode cX8_atLeast 63 = .ok (.getfield 18, 3) := by decide +kernel
theorem dX8_atLeast_66 : decode cX8_atLeast 66 = .ok (.iload_n 3, 1) := by decide +kernel
theorem dX8_atLeast_67 : decode cX8_atLeast 67 = .ok (.iaload, 1) := by decide +kernel
theorem dX8_atLeast_68 : decode cX8_atLeast 68 = .ok (.invokevirtual 83, 3) := by decide +kernel
theorem dX8_atLeast_71 : decode cX8_atLeast 71 = .ok (.invokestatic 63, 3) := by decide +kernel
theorem dX8_atLeast_74 : decode cX8_atLeast 74 = .ok (.istore 6, 2) := by decide +kernel
theorem dX8_atLeast_76 : decode cX8_atLeast 76 = .ok (.aload_n 0, 1) := by decide +kernel
theorem dX8_atLeast_77 : decode cX8_atLeast 77 = .ok (.aload_n 1, 1) := by decide +kernel
theorem dX8_atLeast_78 : decode cX8_atLeast 78 = .ok (.aload_n 1, 1) := by decide +kernel
theorem dX8_atLeast_79 : decode cX8_atLeast 79 = .ok (.iload_n 3, 1) := by decide +kernel
theorem dX8_atLeast_80 : decode cX8_atLeast 80 = .ok (.invokevirtual 69, 3) := by decide +kernel
theorem dX8_atLeast_83 : decode cX8_atLeast 83 = .ok (.invokevirtual 83, 3) := by decide +kernel
theorem dX8_atLeast_86 : decode cX8_atLeast 86 = .ok (.aload_n 1, 1) := by decide +kernel
theorem dX8_atLeast_87 : decode cX8_atLeast 87 = .ok (.getfield 60, 3) := by decide +kernel
theorem dX8_atLeast_90 : decode cX8_atLeast 90 = .ok (.iload_n 2, 1) := by decide +kernel
theorem dX8_atLeast_91 : decode cX8_atLeast 91 = .ok (.iaload, 1) := by decide +kernel
theorem dX8_atLeast_92 : decode cX8_atLeast 92 = .ok (.iload 6, 2) := by decide +kernel
theorem dX8_atLeast_94 : decode cX8_atLeast 94 = .ok (.iadd, 1) := by decide +kernel
theorem dX8_atLeast_95 : decode cX8_atLeast 95 = .ok (.invokestatic 63, 3) := by decide +kernel
theorem dX8_atLeast_98 : decode cX8_atLeast 98 = .ok (.istore 7, 2) := by decide +kernel
theorem dX8_atLeast_100 : decode cX8_atLeast 100 = .ok (.iload 5, 2) := by decide +kernel
theorem dX8_atLeast_102 : decode cX8_atLeast 102 = .ok (.aload_n 1, 1) := by decide +kernel
theorem dX8_atLeast_103 : decode cX8_atLeast 103 = .ok (.getfield 60, 3) := by decide +kernel
theorem dX8_atLeast_106 : decode cX8_atLeast 106 = .ok (.iload_n 2, 1) := by decide +kernel
theorem dX8_atLeast_107 : decode cX8_atLeast 107 = .ok (.iaload, 1) := by decide +kernel
theorem dX8_atLeast_108 : decode cX8_atLeast 108 = .ok (.iadd, 1) := by decide +kernel
theorem dX8_atLeast_109 : decode cX8_atLeast 109 = .ok (.iload 6, 2) := by decide +kernel
theorem dX8_atLeast_111 : decode cX8_atLeast 111 = .ok (.iadd, 1) := by decide +kernel
theorem dX8_atLeast_112 : decode cX8_atLeast 112 = .ok (.iload 4, 2) := by decide +kernel
theorem dX8_atLeast_114 : decode cX8_atLeast 114 = .ok (.aload_n 1, 1) := by decide +kernel
theorem dX8_atLeast_115 : decode cX8_atLeast 115 = .ok (.getfield 60, 3) := by decide +kernel
theorem dX8_atLeast_118 : decode cX8_atLeast 118 = .ok (.iload_n 3, 1) := by decide +kernel
theorem dX8_atLeast_119 : decode cX8_atLeast 119 = .ok (.iaload, 1) := by decide +kernel
theorem dX8_atLeast_120 : decode cX8_atLeast 120 = .ok (.iadd, 1) := by decide +kernel
theorem dX8_atLeast_121 : decode cX8_atLeast 121 = .ok (.iload 7, 2) := by decide +kernel
theorem dX8_atLeast_123 : decode cX8_atLeast 123 = .ok (.iadd, 1) := by decide +kernel
theorem dX8_atLeast_124 : decode cX8_atLeast 124 = .ok (.invokestatic 63, 3) := by decide +kernel
theorem dX8_atLeast_127 : decode cX8_atLeast 127 = .ok (.ireturn, 1) := by decide +kernel
theorem dX9_init_0 : decode cX9_init 0 = .ok (.aload_n 0, 1) := by decide +kernel
theorem dX9_init_1 : decode cX9_init 1 = .ok (.invokespecial 1, 3) := by decide +kernel
theorem dX9_init_4 : decode cX9_init 4 = .ok (.aload_n 0, 1) := by decide +kernel
theorem dX9_init_5 : decode cX9_init 5 = .ok (.new 7, 3) := by decide +kernel
theorem dX9_init_8 : decode cX9_init 8 = .ok (.dup, 1) := by decide +kernel
theorem dX9_init_9 : decode cX9_init 9 = .ok (.invokespecial 9, 3) := by decide +kernel
theorem dX9_init_12 : decode cX9_init 12 = .ok (.putfield 10, 3) := by decide +kernel
theorem dX9_init_15 : decode cX9_init 15 = .ok (.aload_n 0, 1) := by decide +kernel
theorem dX9_init_16 : decode cX9_init 16 = .ok (.new 16, 3) := by decide +kernel
theorem dX9_init_19 : decode cX9_init 19 = .ok (.dup, 1) := by decide +kernel
theorem dX9_init_20 : decode cX9_init 20 = .ok (.invokespecial 18, 3) := by decide +kernel
theorem dX9_init_23 : decode cX9_init 23 = .ok (.putfield 19, 3) := by decide +kernel
theorem dX9_init_26 : decode cX9_init 26 = .ok (.aload_n 0, 1) := by decide +kernel
theorem dX9_init_27 : decode cX9_init 27 = .ok (.new 16, 3) := by decide +kernel
theorem dX9_init_30 : decode cX9_init 30 = .ok (.dup, 1) := by decide +kernel
theorem dX9_init_31 : decode cX9_init 31 = .ok (.invokespecial 18, 3) := by decide +kernel
theorem dX9_init_34 : decode cX9_init 34 = .ok (.putfield 23, 3) := by decide +kernel
theorem dX9_init_37 : decode cX9_init 37 = .ok (.aload_n 0, 1) := by decide +kernel
theorem dX9_init_38 : decode cX9_init 38 = .ok (.bipush 24, 2) := by decide +kernel
theorem dX9_init_40 : decode cX9_init 40 = .ok (.newarray .int, 2) := by decide +kernel
theorem dX9_init_42 : decode cX9_init 42 = .ok (.putfield 26, 3) := by decide +kernel
theorem dX9_init_45 : decode cX9_init 45 = .ok (.aload_n 0, 1) := by decide +kernel
theorem dX9_init_46 : decode cX9_init 46 = .ok (.new 30, 3) := by decide +kernel
theorem dX9_init_49 : decode cX9_init 49 = .ok (.dup, 1) := by decide +kernel
theorem dX9_init_50 : decode cX9_init 50 = .ok (.invokespecial 32, 3) := by decide +kernel
theorem dX9_init_53 : decode cX9_init 53 = .ok (.putfield 33, 3) := by decide +kernel
theorem dX9_init_56 : decode cX9_init 56 = .ok (.aload_n 0, 1) := by decide +kernel
theorem dX9_init_57 : decode cX9_init 57 = .ok (.new 30, 3) := by decide +kernel
theorem dX9_init_60 : decode cX9_init 60 = .ok (.dup, 1) := by decide +kernel
theorem dX9_init_61 : decode cX9_init 61 = .ok (.invokespecial 32, 3) := by decide +kernel
theorem dX9_init_64 : decode cX9_init 64 = .ok (.putfield 37, 3) := by decide +kernel
theorem dX9_init_67 : decode cX9_init 67 = .ok (.aload_n 0, 1) := by decide +kernel
theorem dX9_init_68 : decode cX9_init 68 = .ok (.new 40, 3) := by decide +kernel
theorem dX9_init_71 : decode cX9_init 71 = .ok (.dup, 1) := by decide +kernel
theorem dX9_init_72 : decode cX9_init 72 = .ok (.invokespecial 42, 3) := by decide +kernel
theorem dX9_init_75 : decode cX9_init 75 = .ok (.putfield 43, 3) := by decide +kernel
theorem dX9_init_78 : decode cX9_init 78 = .ok (.aload_n 0, 1) := by decide +kernel
theorem dX9_init_79 : decode cX9_init 79 = .ok (.new 47, 3) := by decide +kernel
theorem dX9_init_82 : decode cX9_init 82 = .ok (.dup, 1) := by decide +kernel
theorem dX9_init_83 : decode cX9_init 83 = .ok (.invokespecial 49, 3) := by decide +kernel
theorem dX9_init_86 : decode cX9_init 86 = .ok (.putfield 50, 3) := by decide +kernel
theorem dX9_init_89 : decode cX9_init 89 = .ok (.aload_n 0, 1) := by decide +kernel
theorem dX9_init_90 : decode cX9_init 90 = .ok (.new 54, 3) := by decide +kernel
theorem dX9_init_93 : decode cX9_init 93 = .ok (.dup, 1) := by decide +kernel
theorem dX9_init_94 : decode cX9_init 94 = .ok (.invokespecial 56, 3) := by decide +kernel
theorem dX9_init_97 : decode cX9_init 97 = .ok (.putfield 57, 3) := by decide +kernel
theorem dX9_init_100 : decode cX9_init 100 = .ok (.aload_n 0, 1) := by decide +kernel
theorem dX9_init_101 : decode cX9_init 101 = .ok (.new 61, 3) := by decide +kernel
theorem dX9_init_104 : decode cX9_init 104 = .ok (.dup, 1) := by decide +kernel
theorem dX9_init_105 : decode cX9_init 105 = .ok (.invokespecial 63, 3) := by decide +kernel
theorem dX9_init_108 : decode cX9_init 108 = .ok (.putfield 64, 3) := by decide +kernel
theorem dX9_init_111 : decode cX9_init 111 = .ok (.aload_n 0, 1) := by decide +kernel
theorem dX9_init_112 : decode cX9_init 112 = .ok (.new 68, 3) := by decide +kernel
theorem dX9_init_115 : decode cX9_init 115 = .ok (.dup, 1) := by decide +kernel
theorem dX9_init_116 : decode cX9_init 116 = .ok (.invokespecial 70, 3) := by decide +kernel
theorem dX9_init_119 : decode cX9_init 119 = .ok (.putfield 71, 3) := by decide +kernel
theorem dX9_init_122 : decode cX9_init 122 = .ok (.aload_n 0, 1) := by decide +kernel
theorem dX9_init_123 : decode cX9_init 123 = .ok (.new 75, 3) := by decide +kernel
theorem dX9_init_126 : decode cX9_init 126 = .ok (.dup, 1) := by decide +kernel
theorem dX9_init_127 : decode cX9_init 127 = .ok (.invokespecial 77, 3) := by decide +kernel
theorem dX9_init_130 : decode cX9_init 130 = .ok (.putfield 78, 3) := by decide +kernel
theorem dX9_init_133 : decode cX9_init 133 = .ok (.aload_n 0, 1) := by decide +kernel
theorem dX9_init_134 : decode cX9_init 134 = .ok (.new 16, 3) := by decide +kernel
theorem dX9_init_137 : decode cX9_init 137 = .ok (.dup, 1) := by decide +kernel
theorem dX9_init_138 : decode cX9_init 138 = .ok (.invokespecial 18, 3) := by decide +kernel
theorem dX9_init_141 : decode cX9_init 141 = .ok (.putfield 82, 3) := by decide +kernel
theorem dX9_init_144 : decode cX9_init 144 = .ok (.aload_n 0, 1) := by decide +kernel
theorem dX9_init_145 : decode cX9_init 145 = .ok (.bipush 24, 2) := by decide +kernel
theorem dX9_init_147 : decode cX9_init 147 = .ok (.newarray .int, 2) := by decide +kernel
theorem dX9_init_149 : decode cX9_init 149 = .ok (.putfield 85, 3) := by decide +kernel
theorem dX9_init_152 : decode cX9_init 152 = .ok (.aload_n 0, 1) := by decide +kernel
theorem dX9_init_153 : decode cX9_init 153 = .ok (.bipush 24, 2) := by decide +kernel
theorem dX9_init_155 : decode cX9_init 155 = .ok (.newarray .int, 2) := by decide +kernel
theorem dX9_init_157 : decode cX9_init 157 = .ok (.putfield 88, 3) := by decide +kernel
theorem dX9_init_160 : decode cX9_init 160 = .ok (.aload_n 0, 1) := by decide +kernel
theorem dX9_init_161 : decode cX9_init 161 = .ok (.iconst (-1), 1) := by decide +kernel
theorem dX9_init_162 : decode cX9_init 162 = .ok (.putfield 91, 3) := by decide +kernel
theorem dX9_init_165 : decode cX9_init 165 = .ok (.aload_n 0, 1) := by decide +kernel
theorem dX9_init_166 : decode cX9_init 166 = .ok (.iconst 0, 1) := by decide +kernel
theorem dX9_init_167 : decode cX9_init 167 = .ok (.putfield 95, 3) := by decide +kernel
theorem dX9_init_170 : decode cX9_init 170 = .ok (.return_, 1) := by decide +kernel
theorem dX9_feed_0 : decode cX9_feed 0 = .ok (.iload_n 1, 1) := by decide +kernel
theorem dX9_feed_1 : decode cX9_feed 1 = .ok (.bipush 32, 2) := by decide +kernel
theorem dX9_feed_3 : decode cX9_feed 3 = .ok (.if_icmp .lt 9, 3) := by decide +kernel
theorem dX9_feed_6 : decode cX9_feed 6 = .ok (.iload_n 1, 1) := by decide +kernel
theorem dX9_feed_7 : decode cX9_feed 7 = .ok (.bipush 126, 2) := by decide +kernel
theorem dX9_feed_9 : decode cX9_feed 9 = .ok (.if_icmp .le 5, 3) := by decide +kernel
theorem dX9_feed_12 : decode cX9_feed 12 = .ok (.iconst (-1), 1) := by decide +kernel
theorem dX9_feed_13 : decode cX9_feed 13 = .ok (.ireturn, 1) := by decide +kernel
theorem dX9_feed_14 : decode cX9_feed 14 = .ok (.aload_n 0, 1) := by decide +kernel
theorem dX9_feed_15 : decode cX9_feed 15 = .ok (.getfield 10, 3) := by decide +kernel
theorem dX9_feed_18 : decode cX9_feed 18 = .ok (.getfield 98, 3) := by decide +kernel
theorem dX9_feed_21 : decode cX9_feed 21 = .ok (.sipush 140, 3) := by decide +kernel
theorem dX9_feed_24 : decode cX9_feed 24 = .ok (.if_icmp .lt 6, 3) := by decide +kernel
theorem dX9_feed_27 : decode cX9_feed 27 = .ok (.bipush (-3), 2) := by decide +kernel
theorem dX9_feed_29 : decode cX9_feed 29 = .ok (.ireturn, 1) := by decide +kernel
theorem dX9_feed_30 : decode cX9_feed 30 = .ok (.aload_n 0, 1) := by decide +kernel
theorem dX9_feed_31 : decode cX9_feed 31 = .ok (.getfield 10, 3) := by decide +kernel
theorem dX9_feed_34 : decode cX9_feed 34 = .ok (.iload_n 1, 1) := by decide +kernel
theorem dX9_feed_35 : decode cX9_feed 35 = .ok (.invokevirtual 101, 3) := by decide +kernel
theorem dX9_feed_38 : decode cX9_feed 38 = .ok (.aload_n 0, 1) := by decide +kernel
theorem dX9_feed_39 : decode cX9_feed 39 = .ok (.getfield 10, 3) := by decide +kernel
theorem dX9_feed_42 : decode cX9_feed 42 = .ok (.getfield 98, 3) := by decide +kernel
theorem dX9_feed_45 : decode cX9_feed 45 = .ok (.ireturn, 1) := by decide +kernel
theorem dX9_shop_0 : decode cX9_shop 0 = .ok (.aload_n 0, 1) := by decide +kernel
theorem dX9_shop_1 : decode cX9_shop 1 = .ok (.getfield 10, 3) := by decide +kernel
theorem dX9_shop_4 : decode cX9_shop 4 = .ok (.aload_n 0, 1) := by decide +kernel
theorem dX9_shop_5 : decode cX9_shop 5 = .ok (.getfield 23, 3) := by decide +kernel
theorem dX9_shop_8 : decode cX9_shop 8 = .ok (.invokevirtual 105, 3) := by decide +kernel
theorem dX9_shop_11 : decode cX9_shop 11 = .ok (.istore_n 1, 1) := by decide +kernel
theorem dX9_shop_12 : decode cX9_shop 12 = .ok (.aload_n 0, 1) := by decide +kernel
theorem dX9_shop_13 : decode cX9_shop 13 = .ok (.getfield 10, 3) := by decide +kernel
theorem dX9_shop_16 : decode cX9_shop 16 = .ok (.iconst 0, 1) := by decide +kernel
theorem dX9_shop_17 : decode cX9_shop 17 = .ok (.putfield 98, 3) := by decide +kernel
theorem dX9_shop_20 : decode cX9_shop 20 = .ok (.iload_n 1, 1) := by decide +kernel
theorem dX9_shop_21 : decode cX9_shop 21 = .ok (.iconst (-1), 1) := by decide +kernel
theorem dX9_shop_22 : decode cX9_shop 22 = .ok (.if_icmp .eq 8, 3) := by decide +kernel
theorem dX9_shop_25 : decode cX9_shop 25 = .ok (.bipush (-100), 2) := by decide +kernel
theorem dX9_shop_27 : decode cX9_shop 27 = .ok (.iload_n 1, 1) := by decide +kernel
theorem dX9_shop_28 : decode cX9_shop 28 = .ok (.isub, 1) := by decide +kernel
theorem dX9_shop_29 : decode cX9_shop 29 = .ok (.ireturn, 1) := by decide +kernel
theorem dX9_shop_30 : decode cX9_shop 30 = .ok (.aload_n 0, 1) := by decide +kernel
theorem dX9_shop_31 : decode cX9_shop 31 = .ok (.getfield 19, 3) := by decide +kernel
theorem dX9_shop_34 : decode cX9_shop 34 = .ok (.aload_n 0, 1) := by decide +kernel
theorem dX9_shop_35 : decode cX9_shop 35 = .ok (.getfield 23, 3) := by decide +kernel
theorem dX9_shop_38 : decode cX9_shop 38 = .ok (.invokevirtual 109, 3) := by decide +kernel
theorem dX9_shop_41 : decode cX9_shop 41 = .ok (.aload_n 0, 1) := by decide +kernel
theorem dX9_shop_42 : decode cX9_shop 42 = .ok (.getfield 19, 3) := by decide +kernel
theorem dX9_shop_45 : decode cX9_shop 45 = .ok (.aload_n 0, 1) := by decide +kernel
theorem dX9_shop_46 : decode cX9_shop 46 = .ok (.getfield 26, 3) := by decide +kernel
theorem dX9_shop_49 : decode cX9_shop 49 = .ok (.invokevirtual 113, 3) := by decide +kernel
theorem dX9_shop_52 : decode cX9_shop 52 = .ok (.aload_n 0, 1) := by decide +kernel
theorem dX9_shop_53 : decode cX9_shop 53 = .ok (.invokevirtual 117, 3) := by decide +kernel
theorem dX9_shop_56 : decode cX9_shop 56 = .ok (.aload_n 0, 1) := by decide +kernel
theorem dX9_shop_57 : decode cX9_shop 57 = .ok (.getfield 19, 3) := by decide +kernel
theorem dX9_shop_60 : decode cX9_shop 60 = .ok (.getfield 120, 3) := by decide +kernel
theorem dX9_shop_63 : decode cX9_shop 63 = .ok (.ireturn, 1) := by decide +kernel
theorem dX9_task_0 : decode cX9_task 0 = .ok (.aload_n 0, 1) := by decide +kernel
theorem dX9_task_1 : decode cX9_task 1 = .ok (.iload_n 1, 1) := by decide +kernel
theorem dX9_task_2 : decode cX9_task 2 = .ok (.invokevirtual 123, 3) := by decide +kernel
theorem dX9_task_5 : decode cX9_task 5 = .ok (.ifCond .ne 12, 3) := by decide +kernel
theorem dX9_task_8 : decode cX9_task 8 = .ok (.iload_n 2, 1) := by decide +kernel
theorem dX9_task_9 : decode cX9_task 9 = .ok (.ifCond .lt 8, 3) := by decide +kernel
theorem dX9_task_12 : decode cX9_task 12 = .ok (.iload_n 2, 1) := by decide +kernel
theorem dX9_task_13 : decode cX9_task 13 = .ok (.iconst 4, 1) := by decide +kernel
theorem dX9_task_14 : decode cX9_task 14 = .ok (.if_icmp .le 5, 3) := by decide +kernel
theorem dX9_task_17 : decode cX9_task 17 = .ok (.iconst (-1), 1) := by decide +kernel
theorem dX9_task_18 : decode cX9_task 18 = .ok (.ireturn, 1) := by decide +kernel
theorem dX9_task_19 : decode cX9_task 19 = .ok (.iload_n 2, 1) := by decide +kernel
theorem dX9_task_20 : decode cX9_task 20 = .ok (.tableswitch 72 0 3 #[32, 42, 52, 62], 32) := by decide +kernel
theorem dX9_task_52 : decode cX9_task 52 = .ok (.aload_n 0, 1) := by decide +kernel
theorem dX9_task_53 : decode cX9_task 53 = .ok (.getfield 19, 3) := by decide +kernel
theorem dX9_task_56 : decode cX9_task 56 = .ok (.getfield 127, 3) := by decide +kernel
theorem dX9_task_59 : decode cX9_task 59 = .ok (.iload_n 1, 1) := by decide +kernel
theorem dX9_task_60 : decode cX9_task 60 = .ok (.iaload, 1) := by decide +kernel
theorem dX9_task_61 : decode cX9_task 61 = .ok (.ireturn, 1) := by decide +kernel
theorem dX9_task_62 : decode cX9_task 62 = .ok (.aload_n 0, 1) := by decide +kernel
theorem dX9_task_63 : decode cX9_task 63 = .ok (.getfield 19, 3) := by decide +kernel
theorem dX9_task_66 : decode cX9_task 66 = .ok (.getfield 130, 3) := by decide +kernel
theorem dX9_task_69 : decode cX9_task 69 = .ok (.iload_n 1, 1) := by decide +kernel
theorem dX9_task_70 : decode cX9_task 70 = .ok (.iaload, 1) := by decide +kernel
theorem dX9_task_71 : decode cX9_task 71 = .ok (.ireturn, 1) := by decide +kernel
theorem dX9_task_72 : decode cX9_task 72 = .ok (.aload_n 0, 1) := by decide +kernel
theorem dX9_task_73 : decode cX9_task 73 = .ok (.getfield 19, 3) := by decide +kernel
theorem dX9_task_76 : decode cX9_task 76 = .ok (.getfield 133, 3) := by decide +kernel
theorem dX9_task_79 : decode cX9_task 79 = .ok (.iload_n 1, 1) := by decide +kernel
theorem dX9_task_80 : decode cX9_task 80 = .ok (.iaload, 1) := by decide +kernel
theorem dX9_task_81 : decode cX9_task 81 = .ok (.ireturn, 1) := by decide +kernel
theorem dX9_task_82 : decode cX9_task 82 = .ok (.aload_n 0, 1) := by decide +kernel
theorem dX9_task_83 : decode cX9_task 83 = .ok (.getfield 19, 3) := by decide +kernel
theorem dX9_task_86 : decode cX9_task 86 = .ok (.getfield 136, 3) := by decide +kernel
theorem dX9_task_89 : decode cX9_task 89 = .ok (.iload_n 1, 1) := by decide +kernel
theorem dX9_task_90 : decode cX9_task 90 = .ok (.iaload, 1) := by decide +kernel
theorem dX9_task_91 : decode cX9_task 91 = .ok (.ireturn, 1) := by decide +kernel
theorem dX9_task_92 : decode cX9_task 92 = .ok (.aload_n 0, 1) := by decide +kernel
theorem dX9_task_93 : decode cX9_task 93 = .ok (.getfield 33, 3) := by decide +kernel
theorem dX9_task_96 : decode cX9_task 96 = .ok (.getfield 139, 3) := by decide +kernel
theorem dX9_task_99 : decode cX9_task 99 = .ok (.iload_n 1, 1) := by decide +kernel
theorem dX9_task_100 : decode cX9_task 100 = .ok (.iaload, 1) := by decide +kernel
theorem dX9_task_101 : decode cX9_task 101 = .ok (.ireturn, 1) := by decide +kernel
theorem dX9_order_0 : decode cX9_order 0 = .ok (.iload_n 1, 1) := by decide +kernel
theorem dX9_order_1 : decode cX9_order 1 = .ok (.invokestatic 142, 3) := by decide +kernel
theorem dX9_order_4 : decode cX9_order 4 = .ok (.ifCond .ne 8, 3) := by decide +kernel
theorem dX9_order_7 : decode cX9_order 7 = .ok (.iload_n 2, 1) := by decide +kernel
theorem dX9_order_8 : decode cX9_order 8 = .ok (.iconst (-1), 1) := by decide +kernel
theorem dX9_order_9 : decode cX9_order 9 = .ok (.if_icmp .ge 5, 3) := by decide +kernel
theorem dX9_order_12 : decode cX9_order 12 = .ok (.iconst (-1), 1) := by decide +kernel
theorem dX9_order_13 : decode cX9_order 13 = .ok (.ireturn, 1) := by decide +kernel
theorem dX9_order_14 : decode cX9_order 14 = .ok (.aload_n 0, 1) := by decide +kernel
theorem dX9_order_15 : decode cX9_order 15 = .ok (.invokevirtual 145, 3) := by decide +kernel
theorem dX9_order_18 : decode cX9_order 18 = .ok (.ifCond .eq 6, 3) := by decide +kernel
theorem dX9_order_21 : decode cX9_order 21 = .ok (.bipush (-5), 2) := by decide +kernel
theorem dX9_order_23 : decode cX9_order 23 = .ok (.ireturn, 1) := by decide +kernel
theorem dX9_order_24 : decode cX9_order 24 = .ok (.aload_n 0, 1) := by decide +kernel
theorem dX9_order_25 : decode cX9_order 25 = .ok (.getfield 19, 3) := by decide +kernel
theorem dX9_order_28 : decode cX9_order 28 = .ok (.iload_n 1, 1) := by decide +kernel
theorem dX9_order_29 : decode cX9_order 29 = .ok (.invokevirtual 149, 3) := by decide +kernel
theorem dX9_order_32 : decode cX9_order 32 = .ok (.istore_n 3, 1) := by decide +kernel
theorem dX9_order_33 : decode cX9_order 33 = .ok (.iload_n 2, 1) := by decide +kernel
theorem dX9_order_34 : decode cX9_order 34 = .ok (.iconst (-1), 1) := by decide +kernel
theorem dX9_order_35 : decode cX9_order 35 = .ok (.if_icmp .ne 5, 3) := by decide +kernel
theorem dX9_order_38 : decode cX9_order 38 = .ok (.iload_n 3, 1) := by decide +kernel
theorem dX9_order_39 : decode cX9_order 39 = .ok (.ireturn, 1) := by decide +kernel
theorem dX9_order_40 : decode cX9_order 40 = .ok (.iload_n 2, 1) := by decide +kernel
theorem dX9_order_41 : decode cX9_order 41 = .ok (.iload_n 3, 1) := by decide +kernel
theorem dX9_order_42 : decode cX9_order 42 = .ok (.if_icmp .ge 22, 3) := by decide +kernel
theorem dX9_order_45 : decode cX9_order 45 = .ok (.aload_n 0, 1) := by decide +kernel
theorem dX9_order_46 : decode cX9_order 46 = .ok (.getfield 26, 3) := by decide +kernel
theorem dX9_order_49 : decode cX9_order 49 = .ok (.aload_n 0, 1) := by decide +kernel
theorem dX9_order_50 : decode cX9_order 50 = .ok (.getfield 19, 3) := by decide +kernel
theorem dX9_order_53 : decode cX9_order 53 = .ok (.getfield 153, 3) := by decide +kernel
theorem dX9_order_56 : decode cX9_order 56 = .ok (.iload_n 1, 1) := by decide +kernel
theorem dX9_order_57 : decode cX9_order 57 = .ok (.iaload, 1) := by decide +kernel
theorem dX9_order_58 : decode cX9_order 58 = .ok (.iload_n 2, 1) := by decide +kernel
theorem dX9_order_59 : decode cX9_order 59 = .ok (.iadd, 1) := by decide +kernel
theorem dX9_order_60 : decode cX9_order 60 = .ok (.iaload, 1) := by decide +kernel
theorem dX9_order_61 : decode cX9_order 61 = .ok (.goto 5, 3) := by decide +kernel
theorem dX9_order_64 : decode cX9_order 64 = .ok (.bipush (-2), 2) := by decide +kernel
theorem dX9_order_66 : decode cX9_order 66 = .ok (.ireturn, 1) := by decide +kernel
theorem dX9_turn_0 : decode cX9_turn 0 = .ok (.iload_n 1, 1) := by decide +kernel
theorem dX9_turn_1 : decode cX9_turn 1 = .ok (.invokestatic 142, 3) := by decide +kernel
theorem dX9_turn_4 : decode cX9_turn 4 = .ok (.ifCond .ne 21, 3) := by decide +kernel
theorem dX9_turn_7 : decode cX9_turn 7 = .ok (.iload_n 2, 1) := by decide +kernel
theorem dX9_turn_8 : decode cX9_turn 8 = .ok (.ifCond .lt 17, 3) := by decide +kernel
theorem dX9_turn_11 : decode cX9_turn 11 = .ok (.iload_n 2, 1) := by decide +kernel
theorem dX9_turn_12 : decode cX9_turn 12 = .ok (.aload_n 0, 1) := by decide +kernel
theorem dX9_turn_13 : decode cX9_turn 13 = .ok (.getfield 19, 3) := by decide +kernel
theorem dX9_turn_16 : decode cX9_turn 16 = .ok (.iload_n 1, 1) := by decide +kernel
theorem dX9_turn_17 : decode cX9_turn 17 = .ok (.invokevirtual 149, 3) := by decide +kernel
theorem dX9_turn_20 : decode cX9_turn 20 = .ok (.iconst 1, 1) := by decide +kernel
theorem dX9_turn_21 : decode cX9_turn 21 = .ok (.isub, 1) := by decide +kernel
theorem dX9_turn_22 : decode cX9_turn 22 = .ok (.if_icmp .lt 5, 3) := by decide +kernel
theorem dX9_turn_25 : decode cX9_turn 25 = .ok (.iconst (-1), 1) := by decide +kernel
theorem dX9_turn_26 : decode cX9_turn 26 = .ok (.ireturn, 1) := by decide +kernel
theorem dX9_turn_27 : decode cX9_turn 27 = .ok (.aload_n 0, 1) := by decide +kernel
theorem dX9_turn_28 : decode cX9_turn 28 = .ok (.aload_n 0, 1) := by decide +kernel
theorem dX9_turn_29 : decode cX9_turn 29 = .ok (.getfield 19, 3) := by decide +kernel
theorem dX9_turn_32 : decode cX9_turn 32 = .ok (.getfield 153, 3) := by decide +kernel
theorem dX9_turn_35 : decode cX9_turn 35 = .ok (.iload_n 1, 1) := by decide +kernel
theorem dX9_turn_36 : decode cX9_turn 36 = .ok (.iaload, 1) := by decide +kernel
theorem dX9_turn_37 : decode cX9_turn 37 = .ok (.iload_n 2, 1) := by decide +kernel
theorem dX9_turn_38 : decode cX9_turn 38 = .ok (.iadd, 1) := by decide +kernel
theorem dX9_turn_39 : decode cX9_turn 39 = .ok (.invokevirtual 156, 3) := by decide +kernel
theorem dX9_turn_42 : decode cX9_turn 42 = .ok (.aload_n 0, 1) := by decide +kernel
theorem dX9_turn_43 : decode cX9_turn 43 = .ok (.invokevirtual 159, 3) := by decide +kernel
theorem dX9_turn_46 : decode cX9_turn 46 = .ok (.aload_n 0, 1) := by decide +kernel
theorem dX9_turn_47 : decode cX9_turn 47 = .ok (.invokevirtual 162, 3) := by decide +kernel
theorem dX9_turn_50 : decode cX9_turn 50 = .ok (.ireturn, 1) := by decide +kernel
theorem dX9_span_0 : decode cX9_span 0 = .ok (.aload_n 0, 1) := by decide +kernel
theorem dX9_span_1 : decode cX9_span 1 = .ok (.invokevirtual 166, 3) := by decide +kernel
theorem dX9_span_4 : decode cX9_span 4 = .ok (.istore_n 1, 1) := by decide +kernel
theorem dX9_span_5 : decode cX9_span 5 = .ok (.iload_n 1, 1) := by decide +kernel
theorem dX9_span_6 : decode cX9_span 6 = .ok (.ifCond .eq 7, 3) := by decide +kernel
theorem dX9_span_9 : decode cX9_span 9 = .ok (.iload_n 1, 1) := by decide +kernel
theorem dX9_span_10 : decode cX9_span 10 = .ok (.goto 10, 3) := by decide +kernel
theorem dX9_span_13 : decode cX9_span 13 = .ok (.aload_n 0, 1) := by decide +kernel
theorem dX9_span_14 : decode cX9_span 14 = .ok (.getfield 33, 3) := by decide +kernel
theorem dX9_span_17 : decode cX9_span 17 = .ok (.getfield 169, 3) := by decide +kernel
theorem dX9_span_20 : decode cX9_span 20 = .ok (.ireturn, 1) := by decide +kernel
theorem dX9_of_0 : decode cX9_of 0 = .ok (.aload_n 0, 1) := by decide +kernel
theorem dX9_of_1 : decode cX9_of 1 = .ok (.iload_n 1, 1) := by decide +kernel
theorem dX9_of_2 : decode cX9_of 2 = .ok (.invokevirtual 123, 3) := by decide +kernel
theorem dX9_of_5 : decode cX9_of 5 = .ok (.ifCond .ne 12, 3) := by decide +kernel
theorem dX9_of_8 : decode cX9_of 8 = .ok (.iload_n 2, 1) := by decide +kernel
theorem dX9_of_9 : decode cX9_of 9 = .ok (.ifCond .lt 8, 3) := by decide +kernel
theorem dX9_of_12 : decode cX9_of 12 = .ok (.iload_n 2, 1) := by decide +kernel
theorem dX9_of_13 : decode cX9_of 13 = .ok (.iconst 3, 1) := by decide +kernel
theorem dX9_of_14 : decode cX9_of 14 = .ok (.if_icmp .le 5, 3) := by decide +kernel
theorem dX9_of_17 : decode cX9_of 17 = .ok (.iconst (-1), 1) := by decide +kernel
theorem dX9_of_18 : decode cX9_of 18 = .ok (.ireturn, 1) := by decide +kernel
theorem dX9_of_19 : decode cX9_of 19 = .ok (.aload_n 0, 1) := by decide +kernel
theorem dX9_of_20 : decode cX9_of 20 = .ok (.invokevirtual 166, 3) := by decide +kernel
theorem dX9_of_23 : decode cX9_of 23 = .ok (.istore_n 3, 1) := by decide +kernel
theorem dX9_of_24 : decode cX9_of 24 = .ok (.iload_n 3, 1) := by decide +kernel
theorem dX9_of_25 : decode cX9_of 25 = .ok (.ifCond .eq 5, 3) := by decide +kernel
theorem dX9_of_28 : decode cX9_of 28 = .ok (.iload_n 3, 1) := by decide +kernel
theorem dX9_of_29 : decode cX9_of 29 = .ok (.ireturn, 1) := by decide +kernel
theorem dX9_of_30 : decode cX9_of 30 = .ok (.iload_n 2, 1) := by decide +kernel
theorem dX9_of_31 : decode cX9_of 31 = .ok (.tableswitch 55 0 2 #[25, 35, 45], 25) := by decide +kernel
theorem dX9_of_56 : decode cX9_of 56 = .ok (.aload_n 0, 1) := by decide +kernel
theorem dX9_of_57 : decode cX9_of 57 = .ok (.getfield 33, 3) := by decide +kernel
theorem dX9_of_60 : decode cX9_of 60 = .ok (.getfield 172, 3) := by decide +kernel
theorem dX9_of_63 : decode cX9_of 63 = .ok (.iload_n 1, 1) := by decide +kernel
theorem dX9_of_64 : decode cX9_of 64 = .ok (.iaload, 1) := by decide +kernel
theorem dX9_of_65 : decode cX9_of 65 = .ok (.ireturn, 1) := by decide +kernel
theorem dX9_of_66 : decode cX9_of 66 = .ok (.aload_n 0, 1) := by decide +kernel
theorem dX9_of_67 : decode cX9_of 67 = .ok (.getfield 33, 3) := by decide +kernel
theorem dX9_of_70 : decode cX9_of 70 = .ok (.getfield 175, 3) := by decide +kernel
theorem dX9_of_73 : decode cX9_of 73 = .ok (.iload_n 1, 1) := by decide +kernel
theorem dX9_of_74 : decode cX9_of 74 = .ok (.iaload, 1) := by decide +kernel
theorem dX9_of_75 : decode cX9_of 75 = .ok (.ireturn, 1) := by decide +kernel
theorem dX9_of_76 : decode cX9_of 76 = .ok (.aload_n 0, 1) := by decide +kernel
theorem dX9_of_77 : decode cX9_of 77 = .ok (.getfield 33, 3) := by decide +kernel
theorem dX9_of_80 : decode cX9_of 80 = .ok (.getfield 178, 3) := by decide +kernel
theorem dX9_of_83 : decode cX9_of 83 = .ok (.iload_n 1, 1) := by decide +kernel
theorem dX9_of_84 : decode cX9_of 84 = .ok (.iaload, 1) := by decide +kernel
theorem dX9_of_85 : decode cX9_of 85 = .ok (.ireturn, 1) := by decide +kernel
theorem dX9_of_86 : decode cX9_of 86 = .ok (.aload_n 0, 1) := by decide +kernel
theorem dX9_of_87 : decode cX9_of 87 = .ok (.getfield 33, 3) := by decide +kernel
theorem dX9_of_90 : decode cX9_of 90 = .ok (.getfield 178, 3) := by decide +kernel
theorem dX9_of_93 : decode cX9_of 93 = .ok (.iload_n 1, 1) := by decide +kernel
theorem dX9_of_94 : decode cX9_of 94 = .ok (.iaload, 1) := by decide +kernel
theorem dX9_of_95 : decode cX9_of 95 = .ok (.ifCond .ne 7, 3) := by decide +kernel
theorem dX9_of_98 : decode cX9_of 98 = .ok (.iconst 1, 1) := by decide +kernel
theorem dX9_of_99 : decode cX9_of 99 = .ok (.goto 4, 3) := by decide +kernel
theorem dX9_of_102 : decode cX9_of 102 = .ok (.iconst 0, 1) := by decide +kernel
theorem dX9_of_103 : decode cX9_of 103 = .ok (.ireturn, 1) := by decide +kernel
theorem dX9_way_0 : decode cX9_way 0 = .ok (.iload_n 1, 1) := by decide +kernel
theorem dX9_way_1 : decode cX9_way 1 = .ok (.iconst (-1), 1) := by decide +kernel
theorem dX9_way_2 : decode cX9_way 2 = .ok (.if_icmp .ge 5, 3) := by decide +kernel
theorem dX9_way_5 : decode cX9_way 5 = .ok (.iconst (-1), 1) := by decide +kernel
theorem dX9_way_6 : decode cX9_way 6 = .ok (.ireturn, 1) := by decide +kernel
theorem dX9_way_7 : decode cX9_way 7 = .ok (.aload_n 0, 1) := by decide +kernel
theorem dX9_way_8 : decode cX9_way 8 = .ok (.invokevirtual 166, 3) := by decide +kernel
theorem dX9_way_11 : decode cX9_way 11 = .ok (.istore_n 2, 1) := by decide +kernel
theorem dX9_way_12 : decode cX9_way 12 = .ok (.iload_n 2, 1) := by decide +kernel
theorem dX9_way_13 : decode cX9_way 13 = .ok (.ifCond .eq 5, 3) := by decide +kernel
theorem dX9_way_16 : decode cX9_way 16 = .ok (.iload_n 2, 1) := by decide +kernel
theorem dX9_way_17 : decode cX9_way 17 = .ok (.ireturn, 1) := by decide +kernel
theorem dX9_way_18 : decode cX9_way 18 = .ok (.iload_n 1, 1) := by decide +kernel
theorem dX9_way_19 : decode cX9_way 19 = .ok (.iconst (-1), 1) := by decide +kernel
theorem dX9_way_20 : decode cX9_way 20 = .ok (.if_icmp .ne 11, 3) := by decide +kernel
theorem dX9_way_23 : decode cX9_way 23 = .ok (.aload_n 0, 1) := by decide +kernel
theorem dX9_way_24 : decode cX9_way 24 = .ok (.getfield 43, 3) := by decide +kernel
theorem dX9_way_27 : decode cX9_way 27 = .ok (.getfield 181, 3) := by decide +kernel
theorem dX9_way_30 : decode cX9_way 30 = .ok (.ireturn, 1) := by decide +kernel
theorem dX9_way_31 : decode cX9_way 31 = .ok (.iload_n 1, 1) := by decide +kernel
theorem dX9_way_32 : decode cX9_way 32 = .ok (.aload_n 0, 1) := by decide +kernel
theorem dX9_way_33 : decode cX9_way 33 = .ok (.getfield 43, 3) := by decide +kernel
theorem dX9_way_36 : decode cX9_way 36 = .ok (.getfield 181, 3) := by decide +kernel
theorem dX9_way_39 : decode cX9_way 39 = .ok (.if_icmp .ge 15, 3) := by decide +kernel
theorem dX9_way_42 : decode cX9_way 42 = .ok (.aload_n 0, 1) := by decide +kernel
theorem dX9_way_43 : decode cX9_way 43 = .ok (.getfield 43, 3) := by decide +kernel
theorem dX9_way_46 : decode cX9_way 46 = .ok (.getfield 182, 3) := by decide +kernel
theorem dX9_way_49 : decode cX9_way 49 = .ok (.iload_n 1, 1) := by decide +kernel
theorem dX9_way_50 : decode cX9_way 50 = .ok (.iaload, 1) := by decide +kernel
theorem dX9_way_51 : decode cX9_way 51 = .ok (.goto 5, 3) := by decide +kernel
theorem dX9_way_54 : decode cX9_way 54 = .ok (.bipush (-2), 2) := by decide +kernel
theorem dX9_way_56 : decode cX9_way 56 = .ok (.ireturn, 1) := by decide +kernel
theorem dX9_block_0 : decode cX9_block 0 = .ok (.iload_n 1, 1) := by decide +kernel
theorem dX9_block_1 : decode cX9_block 1 = .ok (.iconst (-1), 1) := by decide +kernel
theorem dX9_block_2 : decode cX9_block 2 = .ok (.if_icmp .ge 5, 3) := by decide +kernel
theorem dX9_block_5 : decode cX9_block 5 = .ok (.iconst (-1), 1) := by decide +kernel
theorem dX9_block_6 : decode cX9_block 6 = .ok (.ireturn, 1) := by decide +kernel
theorem dX9_block_7 : decode cX9_block 7 = .ok (.aload_n 0, 1) := by decide +kernel
theorem dX9_block_8 : decode cX9_block 8 = .ok (.invokevirtual 166, 3) := by decide +kernel
theorem dX9_block_11 : decode cX9_block 11 = .ok (.istore_n 2, 1) := by decide +kernel
theorem dX9_block_12 : decode cX9_block 12 = .ok (.iload_n 2, 1) := by decide +kernel
theorem dX9_block_13 : decode cX9_block 13 = .ok (.ifCond .eq 5, 3) := by decide +kernel
theorem dX9_block_16 : decode cX9_block 16 = .ok (.iload_n 2, 1) := by decide +kernel
theorem dX9_block_17 : decode cX9_block 17 = .ok (.ireturn, 1) := by decide +kernel
theorem dX9_block_18 : decode cX9_block 18 = .ok (.iload_n 1, 1) := by decide +kernel
theorem dX9_block_19 : decode cX9_block 19 = .ok (.iconst (-1), 1) := by decide +kernel
theorem dX9_block_20 : decode cX9_block 20 = .ok (.if_icmp .ne 11, 3) := by decide +kernel
theorem dX9_block_23 : decode cX9_block 23 = .ok (.aload_n 0, 1) := by decide +kernel
theorem dX9_block_24 : decode cX9_block 24 = .ok (.getfield 43, 3) := by decide +kernel
theorem dX9_block_27 : decode cX9_block 27 = .ok (.getfield 184, 3) := by decide +kernel
theorem dX9_block_30 : decode cX9_block 30 = .ok (.ireturn, 1) := by decide +kernel
theorem dX9_block_31 : decode cX9_block 31 = .ok (.iload_n 1, 1) := by decide +kernel
theorem dX9_block_32 : decode cX9_block 32 = .ok (.aload_n 0, 1) := by decide +kernel
theorem dX9_block_33 : decode cX9_block 33 = .ok (.getfield 43, 3) := by decide +kernel
theorem dX9_block_36 : decode cX9_block 36 = .ok (.getfield 184, 3) := by decide +kernel
theorem dX9_block_39 : decode cX9_block 39 = .ok (.if_icmp .ge 27, 3) := by decide +kernel
theorem dX9_block_42 : decode cX9_block 42 = .ok (.aload_n 0, 1) := by decide +kernel
theorem dX9_block_43 : decode cX9_block 43 = .ok (.getfield 43, 3) := by decide +kernel
theorem dX9_block_46 : decode cX9_block 46 = .ok (.getfield 187, 3) := by decide +kernel
theorem dX9_block_49 : decode cX9_block 49 = .ok (.iload_n 1, 1) := by decide +kernel
theorem dX9_block_50 : decode cX9_block 50 = .ok (.iconst 1, 1) := by decide +kernel
theorem dX9_block_51 : decode cX9_block 51 = .ok (.iadd, 1) := by decide +kernel
theorem dX9_block_52 : decode cX9_block 52 = .ok (.iaload, 1) := by decide +kernel
theorem dX9_block_53 : decode cX9_block 53 = .ok (.aload_n 0, 1) := by decide +kernel
theorem dX9_block_54 : decode cX9_block 54 = .ok (.getfield 43, 3) := by decide +kernel
theorem dX9_block_57 : decode cX9_block 57 = .ok (.getfield 187, 3) := by decide +kernel
theorem dX9_block_60 : decode cX9_block 60 = .ok (.iload_n 1, 1) := by decide +kernel
theorem dX9_block_61 : decode cX9_block 61 = .ok (.iaload, 1) := by decide +kernel
theorem dX9_block_62 : decode cX9_block 62 = .ok (.isub, 1) := by decide +kernel
theorem dX9_block_63 : decode cX9_block 63 = .ok (.goto 5, 3) := by decide +kernel
theorem dX9_block_66 : decode cX9_block 66 = .ok (.bipush (-2), 2) := by decide +kernel
theorem dX9_block_68 : decode cX9_block 68 = .ok (.ireturn, 1) := by decide +kernel
theorem dX9_move_0 : decode cX9_move 0 = .ok (.iload_n 1, 1) := by decide +kernel
theorem dX9_move_1 : decode cX9_move 1 = .ok (.iconst (-1), 1) := by decide +kernel
theorem dX9_move_2 : decode cX9_move 2 = .ok (.if_icmp .ge 5, 3) := by decide +kernel
theorem dX9_move_5 : decode cX9_move 5 = .ok (.iconst (-1), 1) := by decide +kernel
theorem dX9_move_6 : decode cX9_move 6 = .ok (.ireturn, 1) := by decide +kernel
theorem dX9_move_7 : decode cX9_move 7 = .ok (.aload_n 0, 1) := by decide +kernel
theorem dX9_move_8 : decode cX9_move 8 = .ok (.invokevirtual 166, 3) := by decide +kernel
theorem dX9_move_11 : decode cX9_move 11 = .ok (.istore_n 2, 1) := by decide +kernel
theorem dX9_move_12 : decode cX9_move 12 = .ok (.iload_n 2, 1) := by decide +kernel
theorem dX9_move_13 : decode cX9_move 13 = .ok (.ifCond .eq 5, 3) := by decide +kernel
theorem dX9_move_16 : decode cX9_move 16 = .ok (.iload_n 2, 1) := by decide +kernel
theorem dX9_move_17 : decode cX9_move 17 = .ok (.ireturn, 1) := by decide +kernel
theorem dX9_move_18 : decode cX9_move 18 = .ok (.iload_n 1, 1) := by decide +kernel
theorem dX9_move_19 : decode cX9_move 19 = .ok (.iconst (-1), 1) := by decide +kernel
theorem dX9_move_20 : decode cX9_move 20 = .ok (.if_icmp .ne 11, 3) := by decide +kernel
theorem dX9_move_23 : decode cX9_move 23 = .ok (.aload_n 0, 1) := by decide +kernel
theorem dX9_move_24 : decode cX9_move 24 = .ok (.getfield 43, 3) := by decide +kernel
theorem dX9_move_27 : decode cX9_move 27 = .ok (.getfield 190, 3) := by decide +kernel
theorem dX9_move_30 : decode cX9_move 30 = .ok (.ireturn, 1) := by decide +kernel
theorem dX9_move_31 : decode cX9_move 31 = .ok (.iload_n 1, 1) := by decide +kernel
theorem dX9_move_32 : decode cX9_move 32 = .ok (.aload_n 0, 1) := by decide +kernel
theorem dX9_move_33 : decode cX9_move 33 = .ok (.getfield 43, 3) := by decide +kernel
theorem dX9_move_36 : decode cX9_move 36 = .ok (.getfield 190, 3) := by decide +kernel
theorem dX9_move_39 : decode cX9_move 39 = .ok (.if_icmp .ge 25, 3) := by decide +kernel
theorem dX9_move_42 : decode cX9_move 42 = .ok (.aload_n 0, 1) := by decide +kernel
theorem dX9_move_43 : decode cX9_move 43 = .ok (.getfield 43, 3) := by decide +kernel
theorem dX9_move_46 : decode cX9_move 46 = .ok (.iload_n 1, 1) := by decide +kernel
theorem dX9_move_47 : decode cX9_move 47 = .ok (.invokevirtual 193, 3) := by decide +kernel
theorem dX9_move_50 : decode cX9_move 50 = .ok (.aload_n 0, 1) := by decide +kernel
theorem dX9_move_51 : decode cX9_move 51 = .ok (.getfield 43, 3) := by decide +kernel
theorem dX9_move_54 : decode cX9_move 54 = .ok (.iload_n 1, 1) := by decide +kernel
theorem dX9_move_55 : decode cX9_move 55 = .ok (.invokevirtual 196, 3) := by decide +kernel
theorem dX9_move_58 : decode cX9_move 58 = .ok (.invokestatic 199, 3) := by decide +kernel
theorem dX9_move_61 : decode cX9_move 61 = .ok (.goto 5, 3) := by decide +kernel
theorem dX9_move_64 : decode cX9_move 64 = .ok (.bipush (-2), 2) := by decide +kernel
theorem dX9_move_66 : decode cX9_move 66 = .ok (.ireturn, 1) := by decide +kernel
theorem dX9_brings_0 : decode cX9_brings 0 = .ok (.iload_n 1, 1) := by decide +kernel
theorem dX9_brings_1 : decode cX9_brings 1 = .ok (.ifCond .lt 12, 3) := by decide +kernel
theorem dX9_brings_4 : decode cX9_brings 4 = .ok (.iload_n 2, 1) := by decide +kernel
theorem dX9_brings_5 : decode cX9_brings 5 = .ok (.ifCond .lt 8, 3) := by decide +kernel
theorem dX9_brings_8 : decode cX9_brings 8 = .ok (.iload_n 2, 1) := by decide +kernel
theorem dX9_brings_9 : decode cX9_brings 9 = .ok (.iconst 2, 1) := by decide +kernel
theorem dX9_brings_10 : decode cX9_brings 10 = .ok (.if_icmp .le 5, 3) := by decide +kernel
theorem dX9_brings_13 : decode cX9_brings 13 = .ok (.iconst (-1), 1) := by decide +kernel
theorem dX9_brings_14 : decode cX9_brings 14 = .ok (.ireturn, 1) := by decide +kernel
theorem dX9_brings_15 : decode cX9_brings 15 = .ok (.aload_n 0, 1) := by decide +kernel
theorem dX9_brings_16 : decode cX9_brings 16 = .ok (.invokevirtual 166, 3) := by decide +kernel
theorem dX9_brings_19 : decode cX9_brings 19 = .ok (.istore_n 3, 1) := by decide +kernel
theorem dX9_brings_20 : decode cX9_brings 20 = .ok (.iload_n 3, 1) := by decide +kernel
theorem dX9_brings_21 : decode cX9_brings 21 = .ok (.ifCond .eq 5, 3) := by decide +kernel
theorem dX9_brings_24 : decode cX9_brings 24 = .ok (.iload_n 3, 1) := by decide +kernel
theorem dX9_brings_25 : decode cX9_brings 25 = .ok (.ireturn, 1) := by decide +kernel
theorem dX9_brings_26 : decode cX9_brings 26 = .ok (.iload_n 1, 1) := by decide +kernel
theorem dX9_brings_27 : decode cX9_brings 27 = .ok (.aload_n 0, 1) := by decide +kernel
theorem dX9_brings_28 : decode cX9_brings 28 = .ok (.getfield 43, 3) := by decide +kernel
theorem dX9_brings_31 : decode cX9_brings 31 = .ok (.getfield 190, 3) := by decide +kernel
theorem dX9_brings_34 : decode cX9_brings 34 = .ok (.if_icmp .lt 6, 3) := by decide +kernel
theorem dX9_brings_37 : decode cX9_brings 37 = .ok (.bipush (-2), 2) := by decide +kernel
theorem dX9_brings_39 : decode cX9_brings 39 = .ok (.ireturn, 1) := by decide +kernel
theorem dX9_brings_40 : decode cX9_brings 40 = .ok (.iload_n 2, 1) := by decide +kernel
theorem dX9_brings_41 : decode cX9_brings 41 = .ok (.ifCond .ne 31, 3) := by decide +kernel
theorem dX9_brings_44 : decode cX9_brings 44 = .ok (.aload_n 0, 1) := by decide +kernel
theorem dX9_brings_45 : decode cX9_brings 45 = .ok (.getfield 33, 3) := by decide +kernel
theorem dX9_brings_48 : decode cX9_brings 48 = .ok (.aload_n 0, 1) := by decide +kernel
theorem dX9_brings_49 : decode cX9_brings 49 = .ok (.getfield 19, 3) := by decide +kernel
theorem dX9_brings_52 : decode cX9_brings 52 = .ok (.aload_n 0, 1) := by decide +kernel
theorem dX9_brings_53 : decode cX9_brings 53 = .ok (.getfield 43, 3) := by decide +kernel
theorem dX9_brings_56 : decode cX9_brings 56 = .ok (.iload_n 1, 1) := by decide +kernel
theorem dX9_brings_57 : decode cX9_brings 57 = .ok (.invokevirtual 193, 3) := by decide +kernel
theorem dX9_brings_60 : decode cX9_brings 60 = .ok (.aload_n 0, 1) := by decide +kernel
theorem dX9_brings_61 : decode cX9_brings 61 = .ok (.getfield 43, 3) := by decide +kernel
theorem dX9_brings_64 : decode cX9_brings 64 = .ok (.iload_n 1, 1) := by decide +kernel
theorem dX9_brings_65 : decode cX9_brings 65 = .ok (.invokevirtual 196, 3) := by decide +kernel
theorem dX9_brings_68 : decode cX9_brings 68 = .ok (.invokevirtual 203, 3) := by decide +kernel
theorem dX9_brings_71 : decode cX9_brings 71 = .ok (.ireturn, 1) := by decide +kernel
theorem dX9_brings_72 : decode cX9_brings 72 = .ok (.iload_n 2, 1) := by decide +kernel
theorem dX9_brings_73 : decode cX9_brings 73 = .ok (.iconst 1, 1) := by decide +kernel
theorem dX9_brings_74 : decode cX9_brings 74 = .ok (.if_icmp .ne 9, 3) := by decide +kernel
theorem dX9_brings_77 : decode cX9_brings 77 = .ok (.aload_n 0, 1) := by decide +kernel
theorem dX9_brings_78 : decode cX9_brings 78 = .ok (.iload_n 1, 1) := by decide +kernel
theorem dX9_brings_79 : decode cX9_brings 79 = .ok (.invokevirtual 207, 3) := by decide +kernel
theorem dX9_brings_82 : decode cX9_brings 82 = .ok (.ireturn, 1) := by decide +kernel
theorem dX9_brings_83 : decode cX9_brings 83 = .ok (.aload_n 0, 1) := by decide +kernel
theorem dX9_brings_84 : decode cX9_brings 84 = .ok (.iload_n 1, 1) := by decide +kernel
theorem dX9_brings_85 : decode cX9_brings 85 = .ok (.invokevirtual 210, 3) := by decide +kernel
theorem dX9_brings_88 : decode cX9_brings 88 = .ok (.iconst (-1), 1) := by decide +kernel
theorem dX9_brings_89 : decode cX9_brings 89 = .ok (.if_icmp .eq 7, 3) := by decide +kernel
theorem dX9_brings_92 : decode cX9_brings 92 = .ok (.iconst 1, 1) := by decide +kernel
theorem dX9_brings_93 : decode cX9_brings 93 = .ok (.goto 4, 3) := by decide +kernel
theorem dX9_brings_96 : decode cX9_brings 96 = .ok (.iconst 0, 1) := by decide +kernel
theorem dX9_brings_97 : decode cX9_brings 97 = .ok (.ireturn, 1) := by decide +kernel
theorem dX9_does_0 : decode cX9_does 0 = .ok (.iload_n 1, 1) := by decide +kernel
theorem dX9_does_1 : decode cX9_does 1 = .ok (.ifCond .ge 5, 3) := by decide +kernel
theorem dX9_does_4 : decode cX9_does 4 = .ok (.iconst (-1), 1) := by decide +kernel
theorem dX9_does_5 : decode cX9_does 5 = .ok (.ireturn, 1) := by decide +kernel
theorem dX9_does_6 : decode cX9_does 6 = .ok (.aload_n 0, 1) := by decide +kernel
theorem dX9_does_7 : decode cX9_does 7 = .ok (.invokevirtual 166, 3) := by decide +kernel
theorem dX9_does_10 : decode cX9_does 10 = .ok (.istore_n 2, 1) := by decide +kernel
theorem dX9_does_11 : decode cX9_does 11 = .ok (.iload_n 2, 1) := by decide +kernel
theorem dX9_does_12 : decode cX9_does 12 = .ok (.ifCond .eq 5, 3) := by decide +kernel
theorem dX9_does_15 : decode cX9_does 15 = .ok (.iload_n 2, 1) := by decide +kernel
theorem dX9_does_16 : decode cX9_does 16 = .ok (.ireturn, 1) := by decide +kernel
theorem dX9_does_17 : decode cX9_does 17 = .ok (.iload_n 1, 1) := by decide +kernel
theorem dX9_does_18 : decode cX9_does 18 = .ok (.aload_n 0, 1) := by decide +kernel
theorem dX9_does_19 : decode cX9_does 19 = .ok (.getfield 43, 3) := by decide +kernel
theorem dX9_does_22 : decode cX9_does 22 = .ok (.getfield 190, 3) := by decide +kernel
theorem dX9_does_25 : decode cX9_does 25 = .ok (.if_icmp .lt 6, 3) := by decide +kernel
theorem dX9_does_28 : decode cX9_does 28 = .ok (.bipush (-2), 2) := by decide +kernel
theorem dX9_does_30 : decode cX9_does 30 = .ok (.ireturn, 1) := by decide +kernel
theorem dX9_does_31 : decode cX9_does 31 = .ok (.aload_n 0, 1) := by decide +kernel
theorem dX9_does_32 : decode cX9_does 32 = .ok (.aload_n 0, 1) := by decide +kernel
theorem dX9_does_33 : decode cX9_does 33 = .ok (.aload_n 0, 1) := by decide +kernel
theorem dX9_does_34 : decode cX9_does 34 = .ok (.getfield 43, 3) := by decide +kernel
theorem dX9_does_37 : decode cX9_does 37 = .ok (.iload_n 1, 1) := by decide +kernel
theorem dX9_does_38 : decode cX9_does 38 = .ok (.invokevirtual 193, 3) := by decide +kernel
theorem dX9_does_41 : decode cX9_does 41 = .ok (.invokevirtual 213, 3) := by decide +kernel
theorem dX9_does_44 : decode cX9_does 44 = .ok (.invokevirtual 156, 3) := by decide +kernel
theorem dX9_does_47 : decode cX9_does 47 = .ok (.aload_n 0, 1) := by decide +kernel
theorem dX9_does_48 : decode cX9_does 48 = .ok (.invokevirtual 159, 3) := by decide +kernel
theorem dX9_does_51 : decode cX9_does 51 = .ok (.aload_n 0, 1) := by decide +kernel
theorem dX9_does_52 : decode cX9_does 52 = .ok (.invokevirtual 162, 3) := by decide +kernel
theorem dX9_does_55 : decode cX9_does 55 = .ok (.ireturn, 1) := by decide +kernel
theorem dX9_tabu_0 : decode cX9_tabu 0 = .ok (.iload_n 1, 1) := by decide +kernel
theorem dX9_tabu_1 : decode cX9_tabu 1 = .ok (.ifCond .lt 9, 3) := by decide +kernel
theorem dX9_tabu_4 : decode cX9_tabu 4 = .ok (.iload_n 1, 1) := by decide +kernel
theorem dX9_tabu_5 : decode cX9_tabu 5 = .ok (.bipush 9, 2) := by decide +kernel
theorem dX9_tabu_7 : decode cX9_tabu 7 = .ok (.if_icmp .le 5, 3) := by decide +kernel
theorem dX9_tabu_10 : decode cX9_tabu 10 = .ok (.iconst (-1), 1) := by decide +kernel
theorem dX9_tabu_11 : decode cX9_tabu 11 = .ok (.ireturn, 1) := by decide +kernel
theorem dX9_tabu_12 : decode cX9_tabu 12 = .ok (.aload_n 0, 1) := by decide +kernel
theorem dX9_tabu_13 : decode cX9_tabu 13 = .ok (.getfield 50, 3) := by decide +kernel
theorem dX9_tabu_16 : decode cX9_tabu 16 = .ok (.getfield 216, 3) := by decide +kernel
theorem dX9_tabu_19 : decode cX9_tabu 19 = .ok (.istore_n 2, 1) := by decide +kernel
theorem dX9_tabu_20 : decode cX9_tabu 20 = .ok (.aload_n 0, 1) := by decide +kernel
theorem dX9_tabu_21 : decode cX9_tabu 21 = .ok (.getfield 50, 3) := by decide +kernel
theorem dX9_tabu_24 : decode cX9_tabu 24 = .ok (.iload_n 1, 1) := by decide +kernel
theorem dX9_tabu_25 : decode cX9_tabu 25 = .ok (.putfield 216, 3) := by decide +kernel
theorem dX9_tabu_28 : decode cX9_tabu 28 = .ok (.aload_n 0, 1) := by decide +kernel
theorem dX9_tabu_29 : decode cX9_tabu 29 = .ok (.invokevirtual 219, 3) := by decide +kernel
theorem dX9_tabu_32 : decode cX9_tabu 32 = .ok (.iload_n 2, 1) := by decide +kernel
theorem dX9_tabu_33 : decode cX9_tabu 33 = .ok (.ireturn, 1) := by decide +kernel
theorem dX9_step_0 : decode cX9_step 0 = .ok (.iload_n 1, 1) := by decide +kernel
theorem dX9_step_1 : decode cX9_step 1 = .ok (.iconst 1, 1) := by decide +kernel
theorem dX9_step_2 : decode cX9_step 2 = .ok (.if_icmp .lt 9, 3) := by decide +kernel
theorem dX9_step_5 : decode cX9_step 5 = .ok (.iload_n 1, 1) := by decide +kernel
theorem dX9_step_6 : decode cX9_step 6 = .ok (.bipush 30, 2) := by decide +kernel
theorem dX9_step_8 : decode cX9_step 8 = .ok (.if_icmp .le 5, 3) := by decide +kernel
theorem dX9_step_11 : decode cX9_step 11 = .ok (.iconst (-1), 1) := by decide +kernel
theorem dX9_step_12 : decode cX9_step 12 = .ok (.ireturn, 1) := by decide +kernel
theorem dX9_step_13 : decode cX9_step 13 = .ok (.aload_n 0, 1) := by decide +kernel
theorem dX9_step_14 : decode cX9_step 14 = .ok (.invokevirtual 166, 3) := by decide +kernel
theorem dX9_step_17 : decode cX9_step 17 = .ok (.istore_n 2, 1) := by decide +kernel
theorem dX9_step_18 : decode cX9_step 18 = .ok (.iload_n 2, 1) := by decide +kernel
theorem dX9_step_19 : decode cX9_step 19 = .ok (.ifCond .eq 5, 3) := by decide +kernel
theorem dX9_step_22 : decode cX9_step 22 = .ok (.iload_n 2, 1) := by decide +kernel
theorem dX9_step_23 : decode cX9_step 23 = .ok (.ireturn, 1) := by decide +kernel
theorem dX9_step_24 : decode cX9_step 24 = .ok (.iconst 0, 1) := by decide +kernel
theorem dX9_step_25 : decode cX9_step 25 = .ok (.istore_n 3, 1) := by decide +kernel
theorem dX9_step_26 : decode cX9_step 26 = .ok (.iload_n 3, 1) := by decide +kernel
theorem dX9_step_27 : decode cX9_step 27 = .ok (.iload_n 1, 1) := by decide +kernel
theorem dX9_step_28 : decode cX9_step 28 = .ok (.if_icmp .ge 16, 3) := by decide +kernel
theorem dX9_step_31 : decode cX9_step 31 = .ok (.aload_n 0, 1) := by decide +kernel
theorem dX9_step_32 : decode cX9_step 32 = .ok (.invokevirtual 222, 3) := by decide +kernel
theorem dX9_step_35 : decode cX9_step 35 = .ok (.ifCond .eq 9, 3) := by decide +kernel
theorem dX9_step_38 : decode cX9_step 38 = .ok (.iinc 3 1, 3) := by decide +kernel
theorem dX9_step_41 : decode cX9_step 41 = .ok (.goto (-15), 3) := by decide +kernel
theorem dX9_step_44 : decode cX9_step 44 = .ok (.aload_n 0, 1) := by decide +kernel
theorem dX9_step_45 : decode cX9_step 45 = .ok (.dup, 1) := by decide +kernel
theorem dX9_step_46 : decode cX9_step 46 = .ok (.getfield 95, 3) := by decide +kernel
theorem dX9_step_49 : decode cX9_step 49 = .ok (.iload_n 3, 1) := by decide +kernel
theorem dX9_step_50 : decode cX9_step 50 = .ok (.iadd, 1) := by decide +kernel
theorem dX9_step_51 : decode cX9_step 51 = .ok (.putfield 95, 3) := by decide +kernel
theorem dX9_step_54 : decode cX9_step 54 = .ok (.iload_n 3, 1) := by decide +kernel
theorem dX9_step_55 : decode cX9_step 55 = .ok (.ireturn, 1) := by decide +kernel
theorem dX9_kept_0 : decode cX9_kept 0 = .ok (.iload_n 1, 1) := by decide +kernel
theorem dX9_kept_1 : decode cX9_kept 1 = .ok (.iconst (-1), 1) := by decide +kernel
theorem dX9_kept_2 : decode cX9_kept 2 = .ok (.if_icmp .ge 5, 3) := by decide +kernel
theorem dX9_kept_5 : decode cX9_kept 5 = .ok (.iconst (-1), 1) := by decide +kernel
theorem dX9_kept_6 : decode cX9_kept 6 = .ok (.ireturn, 1) := by decide +kernel
theorem dX9_kept_7 : decode cX9_kept 7 = .ok (.iload_n 1, 1) := by decide +kernel
theorem dX9_kept_8 : decode cX9_kept 8 = .ok (.iconst (-1), 1) := by decide +kernel
theorem dX9_kept_9 : decode cX9_kept 9 = .ok (.if_icmp .ne 11, 3) := by decide +kernel
theorem dX9_kept_12 : decode cX9_kept 12 = .ok (.aload_n 0, 1) := by decide +kernel
theorem dX9_kept_13 : decode cX9_kept 13 = .ok (.getfield 50, 3) := by decide +kernel
theorem dX9_kept_16 : decode cX9_kept 16 = .ok (.getfield 225, 3) := by decide +kernel
theorem dX9_kept_19 : decode cX9_kept 19 = .ok (.ireturn, 1) := by decide +kernel
theorem dX9_kept_20 : decode cX9_kept 20 = .ok (.iload_n 1, 1) := by decide +kernel
theorem dX9_kept_21 : decode cX9_kept 21 = .ok (.aload_n 0, 1) := by decide +kernel
theorem dX9_kept_22 : decode cX9_kept 22 = .ok (.getfield 50, 3) := by decide +kernel
theorem dX9_kept_25 : decode cX9_kept 25 = .ok (.getfield 225, 3) := by decide +kernel
theorem dX9_kept_28 : decode cX9_kept 28 = .ok (.if_icmp .ge 15, 3) := by decide +kernel
theorem dX9_kept_31 : decode cX9_kept 31 = .ok (.aload_n 0, 1) := by decide +kernel
theorem dX9_kept_32 : decode cX9_kept 32 = .ok (.getfield 50, 3) := by decide +kernel
theorem dX9_kept_35 : decode cX9_kept 35 = .ok (.getfield 228, 3) := by decide +kernel
theorem dX9_kept_38 : decode cX9_kept 38 = .ok (.iload_n 1, 1) := by decide +kernel
theorem dX9_kept_39 : decode cX9_kept 39 = .ok (.iaload, 1) := by decide +kernel
theorem dX9_kept_40 : decode cX9_kept 40 = .ok (.goto 5, 3) := by decide +kernel
theorem dX9_kept_43 : decode cX9_kept 43 = .ok (.bipush (-2), 2) := by decide +kernel
theorem dX9_kept_45 : decode cX9_kept 45 = .ok (.ireturn, 1) := by decide +kernel
theorem dX9_best_0 : decode cX9_best 0 = .ok (.iload_n 1, 1) := by decide +kernel
theorem dX9_best_1 : decode cX9_best 1 = .ok (.ifCond .lt 8, 3) := by decide +kernel
theorem dX9_best_4 : decode cX9_best 4 = .ok (.iload_n 1, 1) := by decide +kernel
theorem dX9_best_5 : decode cX9_best 5 = .ok (.iconst 1, 1) := by decide +kernel
theorem dX9_best_6 : decode cX9_best 6 = .ok (.if_icmp .le 5, 3) := by decide +kernel
theorem dX9_best_9 : decode cX9_best 9 = .ok (.iconst (-1), 1) := by decide +kernel
theorem dX9_best_10 : decode cX9_best 10 = .ok (.ireturn, 1) := by decide +kernel
theorem dX9_best_11 : decode cX9_best 11 = .ok (.aload_n 0, 1) := by decide +kernel
theorem dX9_best_12 : decode cX9_best 12 = .ok (.invokevirtual 145, 3) := by decide +kernel
theorem dX9_best_15 : decode cX9_best 15 = .ok (.ifCond .eq 6, 3) := by decide +kernel
theorem dX9_best_18 : decode cX9_best 18 = .ok (.bipush (-5), 2) := by decide +kernel
theorem dX9_best_20 : decode cX9_best 20 = .ok (.ireturn, 1) := by decide +kernel
theorem dX9_best_21 : decode cX9_best 21 = .ok (.aload_n 0, 1) := by decide +kernel
theorem dX9_best_22 : decode cX9_best 22 = .ok (.getfield 91, 3) := by decide +kernel
theorem dX9_best_25 : decode cX9_best 25 = .ok (.iconst (-1), 1) := by decide +kernel
theorem dX9_best_26 : decode cX9_best 26 = .ok (.if_icmp .ne 6, 3) := by decide +kernel
theorem dX9_best_29 : decode cX9_best 29 = .ok (.bipush (-2), 2) := by decide +kernel
theorem dX9_best_31 : decode cX9_best 31 = .ok (.ireturn, 1) := by decide +kernel
theorem dX9_best_32 : decode cX9_best 32 = .ok (.iload_n 1, 1) := by decide +kernel
theorem dX9_best_33 : decode cX9_best 33 = .ok (.ifCond .ne 8, 3) := by decide +kernel
theorem dX9_best_36 : decode cX9_best 36 = .ok (.aload_n 0, 1) := by decide +kernel
theorem dX9_best_37 : decode cX9_best 37 = .ok (.getfield 91, 3) := by decide +kernel
theorem dX9_best_40 : decode cX9_best 40 = .ok (.ireturn, 1) := by decide +kernel
theorem dX9_best_41 : decode cX9_best 41 = .ok (.aload_n 0, 1) := by decide +kernel
theorem dX9_best_42 : decode cX9_best 42 = .ok (.getfield 88, 3) := by decide +kernel
theorem dX9_best_45 : decode cX9_best 45 = .ok (.aload_n 0, 1) := by decide +kernel
theorem dX9_best_46 : decode cX9_best 46 = .ok (.getfield 26, 3) := by decide +kernel
theorem dX9_best_49 : decode cX9_best 49 = .ok (.invokestatic 231, 3) := by decide +kernel
theorem dX9_best_52 : decode cX9_best 52 = .ok (.aload_n 0, 1) := by decide +kernel
theorem dX9_best_53 : decode cX9_best 53 = .ok (.invokevirtual 159, 3) := by decide +kernel
theorem dX9_best_56 : decode cX9_best 56 = .ok (.aload_n 0, 1) := by decide +kernel
theorem dX9_best_57 : decode cX9_best 57 = .ok (.invokevirtual 162, 3) := by decide +kernel
theorem dX9_best_60 : decode cX9_best 60 = .ok (.ireturn, 1) := by decide +kernel
theorem dX9_dispatch_0 : decode cX9_dispatch 0 = .ok (.aload_n 0, 1) := by decide +kernel
theorem dX9_dispatch_1 : decode cX9_dispatch 1 = .ok (.iload_n 1, 1) := by decide +kernel
theorem dX9_dispatch_2 : decode cX9_dispatch 2 = .ok (.invokevirtual 235, 3) := by decide +kernel
theorem dX9_dispatch_5 : decode cX9_dispatch 5 = .ok (.istore_n 2, 1) := by decide +kernel
theorem dX9_dispatch_6 : decode cX9_dispatch 6 = .ok (.iload_n 2, 1) := by decide +kernel
theorem dX9_dispatch_7 : decode cX9_dispatch 7 = .ok (.ifCond .ge 5, 3) := by decide +kernel
theorem dX9_dispatch_10 : decode cX9_dispatch 10 = .ok (.iload_n 2, 1) := by decide +kernel
theorem dX9_dispatch_11 : decode cX9_dispatch 11 = .ok (.ireturn, 1) := by decide +kernel
theorem dX9_dispatch_12 : decode cX9_dispatch 12 = .ok (.aload_n 0, 1) := by decide +kernel
theorem dX9_dispatch_13 : decode cX9_dispatch 13 = .ok (.getfield 64, 3) := by decide +kernel
theorem dX9_dispatch_16 : decode cX9_dispatch 16 = .ok (.getfield 238, 3) := by decide +kernel
theorem dX9_dispatch_19 : decode cX9_dispatch 19 = .ok (.aload_n 0, 1) := by decide +kernel
theorem dX9_dispatch_20 : decode cX9_dispatch 20 = .ok (.getfield 26, 3) := by decide +kernel
theorem dX9_dispatch_23 : decode cX9_dispatch 23 = .ok (.invokestatic 231, 3) := by decide +kernel
theorem dX9_dispatch_26 : decode cX9_dispatch 26 = .ok (.aload_n 0, 1) := by decide +kernel
theorem dX9_dispatch_27 : decode cX9_dispatch 27 = .ok (.invokevirtual 159, 3) := by decide +kernel
theorem dX9_dispatch_30 : decode cX9_dispatch 30 = .ok (.aload_n 0, 1) := by decide +kernel
theorem dX9_dispatch_31 : decode cX9_dispatch 31 = .ok (.invokevirtual 162, 3) := by decide +kernel
theorem dX9_dispatch_34 : decode cX9_dispatch 34 = .ok (.ireturn, 1) := by decide +kernel
theorem dX9_would_0 : decode cX9_would 0 = .ok (.iload_n 1, 1) := by decide +kernel
theorem dX9_would_1 : decode cX9_would 1 = .ok (.ifCond .lt 8, 3) := by decide +kernel
theorem dX9_would_4 : decode cX9_would 4 = .ok (.iload_n 1, 1) := by decide +kernel
theorem dX9_would_5 : decode cX9_would 5 = .ok (.iconst 4, 1) := by decide +kernel
theorem dX9_would_6 : decode cX9_would 6 = .ok (.if_icmp .lt 5, 3) := by decide +kernel
theorem dX9_would_9 : decode cX9_would 9 = .ok (.iconst (-1), 1) := by decide +kernel
theorem dX9_would_10 : decode cX9_would 10 = .ok (.ireturn, 1) := by decide +kernel
theorem dX9_would_11 : decode cX9_would 11 = .ok (.aload_n 0, 1) := by decide +kernel
theorem dX9_would_12 : decode cX9_would 12 = .ok (.invokevirtual 145, 3) := by decide +kernel
theorem dX9_would_15 : decode cX9_would 15 = .ok (.ifCond .eq 6, 3) := by decide +kernel
theorem dX9_would_18 : decode cX9_would 18 = .ok (.bipush (-5), 2) := by decide +kernel
theorem dX9_would_20 : decode cX9_would 20 = .ok (.ireturn, 1) := by decide +kernel
theorem dX9_would_21 : decode cX9_would 21 = .ok (.aload_n 0, 1) := by decide +kernel
theorem dX9_would_22 : decode cX9_would 22 = .ok (.getfield 64, 3) := by decide +kernel
theorem dX9_would_25 : decode cX9_would 25 = .ok (.aload_n 0, 1) := by decide +kernel
theorem dX9_would_26 : decode cX9_would 26 = .ok (.getfield 19, 3) := by decide +kernel
theorem dX9_would_29 : decode cX9_would 29 = .ok (.iload_n 1, 1) := by decide +kernel
theorem dX9_would_30 : decode cX9_would 30 = .ok (.invokevirtual 239, 3) := by decide +kernel
theorem dX9_would_33 : decode cX9_would 33 = .ok (.aload_n 0, 1) := by decide +kernel
theorem dX9_would_34 : decode cX9_would 34 = .ok (.getfield 64, 3) := by decide +kernel
theorem dX9_would_37 : decode cX9_would 37 = .ok (.getfield 243, 3) := by decide +kernel
theorem dX9_would_40 : decode cX9_would 40 = .ok (.ireturn, 1) := by decide +kernel
theorem dX9_machine_0 : decode cX9_machine 0 = .ok (.iload_n 1, 1) := by decide +kernel
theorem dX9_machine_1 : decode cX9_machine 1 = .ok (.invokestatic 142, 3) := by decide +kernel
theorem dX9_machine_4 : decode cX9_machine 4 = .ok (.ifCond .ne 12, 3) := by decide +kernel
theorem dX9_machine_7 : decode cX9_machine 7 = .ok (.iload_n 2, 1) := by decide +kernel
theorem dX9_machine_8 : decode cX9_machine 8 = .ok (.ifCond .lt 8, 3) := by decide +kernel
theorem dX9_machine_11 : decode cX9_machine 11 = .ok (.iload_n 2, 1) := by decide +kernel
theorem dX9_machine_12 : decode cX9_machine 12 = .ok (.iconst 1, 1) := by decide +kernel
theorem dX9_machine_13 : decode cX9_machine 13 = .ok (.if_icmp .le 5, 3) := by decide +kernel
theorem dX9_machine_16 : decode cX9_machine 16 = .ok (.iconst (-1), 1) := by decide +kernel
theorem dX9_machine_17 : decode cX9_machine 17 = .ok (.ireturn, 1) := by decide +kernel
theorem dX9_machine_18 : decode cX9_machine 18 = .ok (.aload_n 0, 1) := by decide +kernel
theorem dX9_machine_19 : decode cX9_machine 19 = .ok (.invokevirtual 145, 3) := by decide +kernel
theorem dX9_machine_22 : decode cX9_machine 22 = .ok (.ifCond .eq 6, 3) := by decide +kernel
theorem dX9_machine_25 : decode cX9_machine 25 = .ok (.bipush (-5), 2) := by decide +kernel
theorem dX9_machine_27 : decode cX9_machine 27 = .ok (.ireturn, 1) := by decide +kernel
theorem dX9_machine_28 : decode cX9_machine 28 = .ok (.aload_n 0, 1) := by decide +kernel
theorem dX9_machine_29 : decode cX9_machine 29 = .ok (.getfield 19, 3) := by decide +kernel
theorem dX9_machine_32 : decode cX9_machine 32 = .ok (.iload_n 1, 1) := by decide +kernel
theorem dX9_machine_33 : decode cX9_machine 33 = .ok (.invokevirtual 149, 3) := by decide +kernel
theorem dX9_machine_36 : decode cX9_machine 36 = .ok (.ifCond .ne 6, 3) := by decide +kernel
theorem dX9_machine_39 : decode cX9_machine 39 = .ok (.bipush (-2), 2) := by decide +kernel
theorem dX9_machine_41 : decode cX9_machine 41 = .ok (.ireturn, 1) := by decide +kernel
theorem dX9_machine_42 : decode cX9_machine 42 = .ok (.iload_n 2, 1) := by decide +kernel
theorem dX9_machine_43 : decode cX9_machine 43 = .ok (.ifCond .ne 18, 3) := by decide +kernel
theorem dX9_machine_46 : decode cX9_machine 46 = .ok (.aload_n 0, 1) := by decide +kernel
theorem dX9_machine_47 : decode cX9_machine 47 = .ok (.getfield 71, 3) := by decide +kernel
theorem dX9_machine_50 : decode cX9_machine 50 = .ok (.aload_n 0, 1) := by decide +kernel
theorem dX9_machine_51 : decode cX9_machine 51 = .ok (.getfield 19, 3) := by decide +kernel
theorem dX9_machine_54 : decode cX9_machine 54 = .ok (.iload_n 1, 1) := by decide +kernel
theorem dX9_machine_55 : decode cX9_machine 55 = .ok (.invokevirtual 244, 3) := by decide +kernel
theorem dX9_machine_58 : decode cX9_machine 58 = .ok (.goto 15, 3) := by decide +kernel
theorem dX9_machine_61 : decode cX9_machine 61 = .ok (.aload_n 0, 1) := by decide +kernel
theorem dX9_machine_62 : decode cX9_machine 62 = .ok (.getfield 71, 3) := by decide +kernel
theorem dX9_machine_65 : decode cX9_machine 65 = .ok (.aload_n 0, 1) := by decide +kernel
theorem dX9_machine_66 : decode cX9_machine 66 = .ok (.getfield 19, 3) := by decide +kernel
theorem dX9_machine_69 : decode cX9_machine 69 = .ok (.iload_n 1, 1) := by decide +kernel
theorem dX9_machine_70 : decode cX9_machine 70 = .ok (.invokevirtual 248, 3) := by decide +kernel
theorem dX9_machine_73 : decode cX9_machine 73 = .ok (.ireturn, 1) := by decide +kernel
theorem dX9_bound_0 : decode cX9_bound 0 = .ok (.aload_n 0, 1) := by decide +kernel
theorem dX9_bound_1 : decode cX9_bound 1 = .ok (.invokevirtual 145, 3) := by decide +kernel
theorem dX9_bound_4 : decode cX9_bound 4 = .ok (.ifCond .eq 6, 3) := by decide +kernel
theorem dX9_bound_7 : decode cX9_bound 7 = .ok (.bipush (-5), 2) := by decide +kernel
theorem dX9_bound_9 : decode cX9_bound 9 = .ok (.ireturn, 1) := by decide +kernel
theorem dX9_bound_10 : decode cX9_bound 10 = .ok (.aload_n 0, 1) := by decide +kernel
theorem dX9_bound_11 : decode cX9_bound 11 = .ok (.getfield 19, 3) := by decide +kernel
theorem dX9_bound_14 : decode cX9_bound 14 = .ok (.invokevirtual 251, 3) := by decide +kernel
theorem dX9_bound_17 : decode cX9_bound 17 = .ok (.istore_n 1, 1) := by decide +kernel
theorem dX9_bound_18 : decode cX9_bound 18 = .ok (.iconst 0, 1) := by decide +kernel
theorem dX9_bound_19 : decode cX9_bound 19 = .ok (.istore_n 2, 1) := by decide +kernel
theorem dX9_bound_20 : decode cX9_bound 20 = .ok (.iload_n 2, 1) := by decide +kernel
theorem dX9_bound_21 : decode cX9_bound 21 = .ok (.iconst 5, 1) := by decide +kernel
theorem dX9_bound_22 : decode cX9_bound 22 = .ok (.if_icmp .ge 37, 3) := by decide +kernel
theorem dX9_bound_25 : decode cX9_bound 25 = .ok (.aload_n 0, 1) := by decide +kernel
theorem dX9_bound_26 : decode cX9_bound 26 = .ok (.getfield 71, 3) := by decide +kernel
theorem dX9_bound_29 : decode cX9_bound 29 = .ok (.aload_n 0, 1) := by decide +kernel
theorem dX9_bound_30 : decode cX9_bound 30 = .ok (.getfield 19, 3) := by decide +kernel
theorem dX9_bound_33 : decode cX9_bound 33 = .ok (.iload_n 2, 1) := by decide +kernel
theorem dX9_bound_34 : decode cX9_bound 34 = .ok (.invokevirtual 244, 3) := by decide +kernel
theorem dX9_bound_37 : decode cX9_bound 37 = .ok (.istore_n 3, 1) := by decide +kernel
theorem dX9_bound_38 : decode cX9_bound 38 = .ok (.iload_n 3, 1) := by decide +kernel
theorem dX9_bound_39 : decode cX9_bound 39 = .ok (.bipush (-7), 2) := by decide +kernel
theorem dX9_bound_41 : decode cX9_bound 41 = .ok (.if_icmp .ne 6, 3) := by decide +kernel
theorem dX9_bound_44 : decode cX9_bound 44 = .ok (.bipush (-7), 2) := by decide +kernel
theorem dX9_bound_46 : decode cX9_bound 46 = .ok (.ireturn, 1) := by decide +kernel
theorem dX9_bound_47 : decode cX9_bound 47 = .ok (.iload_n 1, 1) := by decide +kernel
theorem dX9_bound_48 : decode cX9_bound 48 = .ok (.iload_n 3, 1) := by decide +kernel
theorem dX9_bound_49 : decode cX9_bound 49 = .ok (.invokestatic 254, 3) := by decide +kernel
theorem dX9_bound_52 : decode cX9_bound 52 = .ok (.istore_n 1, 1) := by decide +kernel
theorem dX9_bound_53 : decode cX9_bound 53 = .ok (.iinc 2 1, 3) := by decide +kernel
theorem dX9_bound_56 : decode cX9_bound 56 = .ok (.goto (-36), 3) := by decide +kernel
theorem dX9_bound_59 : decode cX9_bound 59 = .ok (.iload_n 1, 1) := by decide +kernel
theorem dX9_bound_60 : decode cX9_bound 60 = .ok (.ireturn, 1) := by decide +kernel
theorem dX9_all_0 : decode cX9_all 0 = .ok (.iload_n 1, 1) := by decide +kernel
theorem dX9_all_1 : decode cX9_all 1 = .ok (.ifCond .lt 8, 3) := by decide +kernel
theorem dX9_all_4 : decode cX9_all 4 = .ok (.iload_n 1, 1) := by decide +kernel
theorem dX9_all_5 : decode cX9_all 5 = .ok (.iconst 1, 1) := by decide +kernel
theorem dX9_all_6 : decode cX9_all 6 = .ok (.if_icmp .le 5, 3) := by decide +kernel
theorem dX9_all_9 : decode cX9_all 9 = .ok (.iconst (-1), 1) := by decide +kernel
theorem dX9_all_10 : decode cX9_all 10 = .ok (.ireturn, 1) := by decide +kernel
theorem dX9_all_11 : decode cX9_all 11 = .ok (.aload_n 0, 1) := by decide +kernel
theorem dX9_all_12 : decode cX9_all 12 = .ok (.invokevirtual 145, 3) := by decide +kernel
theorem dX9_all_15 : decode cX9_all 15 = .ok (.ifCond .eq 6, 3) := by decide +kernel
theorem dX9_all_18 : decode cX9_all 18 = .ok (.bipush (-5), 2) := by decide +kernel
theorem dX9_all_20 : decode cX9_all 20 = .ok (.ireturn, 1) := by decide +kernel
theorem dX9_all_21 : decode cX9_all 21 = .ok (.aload_n 0, 1) := by decide +kernel
theorem dX9_all_22 : decode cX9_all 22 = .ok (.getfield 78, 3) := by decide +kernel
theorem dX9_all_25 : decode cX9_all 25 = .ok (.aload_n 0, 1) := by decide +kernel
theorem dX9_all_26 : decode cX9_all 26 = .ok (.getfield 19, 3) := by decide +kernel
theorem dX9_all_29 : decode cX9_all 29 = .ok (.aload_n 0, 1) := by decide +kernel
theorem dX9_all_30 : decode cX9_all 30 = .ok (.getfield 37, 3) := by decide +kernel
theorem dX9_all_33 : decode cX9_all 33 = .ok (.invokevirtual 259, 3) := by decide +kernel
theorem dX9_all_36 : decode cX9_all 36 = .ok (.ifCond .ne 6, 3) := by decide +kernel
theorem dX9_all_39 : decode cX9_all 39 = .ok (.bipush (-7), 2) := by decide +kernel
theorem dX9_all_41 : decode cX9_all 41 = .ok (.ireturn, 1) := by decide +kernel
theorem dX9_all_42 : decode cX9_all 42 = .ok (.iload_n 1, 1) := by decide +kernel
theorem dX9_all_43 : decode cX9_all 43 = .ok (.ifCond .ne 13, 3) := by decide +kernel
theorem dX9_all_46 : decode cX9_all 46 = .ok (.aload_n 0, 1) := by decide +kernel
theorem dX9_all_47 : decode cX9_all 47 = .ok (.getfield 78, 3) := by decide +kernel
theorem dX9_all_50 : decode cX9_all 50 = .ok (.getfield 263, 3) := by decide +kernel
theorem dX9_all_53 : decode cX9_all 53 = .ok (.goto 10, 3) := by decide +kernel
theorem dX9_all_56 : decode cX9_all 56 = .ok (.aload_n 0, 1) := by decide +kernel
theorem dX9_all_57 : decode cX9_all 57 = .ok (.getfield 78, 3) := by decide +kernel
theorem dX9_all_60 : decode cX9_all 60 = .ok (.getfield 266, 3) := by decide +kernel
theorem dX9_all_63 : decode cX9_all 63 = .ok (.ireturn, 1) := by decide +kernel
theorem dX9_chart_0 : decode cX9_chart 0 = .ok (.iload_n 1, 1) := by decide +kernel
theorem dX9_chart_1 : decode cX9_chart 1 = .ok (.iconst (-1), 1) := by decide +kernel
theorem dX9_chart_2 : decode cX9_chart 2 = .ok (.if_icmp .ge 5, 3) := by decide +kernel
theorem dX9_chart_5 : decode cX9_chart 5 = .ok (.iconst (-1), 1) := by decide +kernel
theorem dX9_chart_6 : decode cX9_chart 6 = .ok (.ireturn, 1) := by decide +kernel
theorem dX9_chart_7 : decode cX9_chart 7 = .ok (.aload_n 0, 1) := by decide +kernel
theorem dX9_chart_8 : decode cX9_chart 8 = .ok (.invokevirtual 166, 3) := by decide +kernel
theorem dX9_chart_11 : decode cX9_chart 11 = .ok (.istore_n 2, 1) := by decide +kernel
theorem dX9_chart_12 : decode cX9_chart 12 = .ok (.iload_n 2, 1) := by decide +kernel
theorem dX9_chart_13 : decode cX9_chart 13 = .ok (.ifCond .eq 5, 3) := by decide +kernel
theorem dX9_chart_16 : decode cX9_chart 16 = .ok (.iload_n 2, 1) := by decide +kernel
theorem dX9_chart_17 : decode cX9_chart 17 = .ok (.ireturn, 1) := by decide +kernel
theorem dX9_chart_18 : decode cX9_chart 18 = .ok (.aload_n 0, 1) := by decide +kernel
theorem dX9_chart_19 : decode cX9_chart 19 = .ok (.getfield 33, 3) := by decide +kernel
theorem dX9_chart_22 : decode cX9_chart 22 = .ok (.getfield 169, 3) := by decide +kernel
theorem dX9_chart_25 : decode cX9_chart 25 = .ok (.iconst 1, 1) := by decide +kernel
theorem dX9_chart_26 : decode cX9_chart 26 = .ok (.iadd, 1) := by decide +kernel
theorem dX9_chart_27 : decode cX9_chart 27 = .ok (.istore_n 3, 1) := by decide +kernel
theorem dX9_chart_28 : decode cX9_chart 28 = .ok (.iload_n 1, 1) := by decide +kernel
theorem dX9_chart_29 : decode cX9_chart 29 = .ok (.iconst (-1), 1) := by decide +kernel
theorem dX9_chart_30 : decode cX9_chart 30 = .ok (.if_icmp .ne 7, 3) := by decide +kernel
theorem dX9_chart_33 : decode cX9_chart 33 = .ok (.iconst 5, 1) := by decide +kernel
theorem dX9_chart_34 : decode cX9_chart 34 = .ok (.iload_n 3, 1) := by decide +kernel
theorem dX9_chart_35 : decode cX9_chart 35 = .ok (.imul, 1) := by decide +kernel
theorem dX9_chart_36 : decode cX9_chart 36 = .ok (.ireturn, 1) := by decide +kernel
theorem dX9_chart_37 : decode cX9_chart 37 = .ok (.iload_n 3, 1) := by decide +kernel
theorem dX9_chart_38 : decode cX9_chart 38 = .ok (.ifCond .le 23, 3) := by decide +kernel
theorem dX9_chart_41 : decode cX9_chart 41 = .ok (.iload_n 1, 1) := by decide +kernel
theorem dX9_chart_42 : decode cX9_chart 42 = .ok (.iconst 5, 1) := by decide +kernel
theorem dX9_chart_43 : decode cX9_chart 43 = .ok (.iload_n 3, 1) := by decide +kernel
theorem dX9_chart_44 : decode cX9_chart 44 = .ok (.imul, 1) := by decide +kernel
theorem dX9_chart_45 : decode cX9_chart 45 = .ok (.if_icmp .ge 16, 3) := by decide +kernel
theorem dX9_chart_48 : decode cX9_chart 48 = .ok (.aload_n 0, 1) := by decide +kernel
theorem dX9_chart_49 : decode cX9_chart 49 = .ok (.iload_n 1, 1) := by decide +kernel
theorem dX9_chart_50 : decode cX9_chart 50 = .ok (.iload_n 3, 1) := by decide +kernel
theorem dX9_chart_51 : decode cX9_chart 51 = .ok (.idiv, 1) := by decide +kernel
theorem dX9_chart_52 : decode cX9_chart 52 = .ok (.iload_n 1, 1) := by decide +kernel
theorem dX9_chart_53 : decode cX9_chart 53 = .ok (.iload_n 3, 1) := by decide +kernel
theorem dX9_chart_54 : decode cX9_chart 54 = .ok (.irem, 1) := by decide +kernel
theorem dX9_chart_55 : decode cX9_chart 55 = .ok (.invokevirtual 267, 3) := by decide +kernel
theorem dX9_chart_58 : decode cX9_chart 58 = .ok (.goto 5, 3) := by decide +kernel
theorem dX9_chart_61 : decode cX9_chart 61 = .ok (.bipush (-2), 2) := by decide +kernel
theorem dX9_chart_63 : decode cX9_chart 63 = .ok (.ireturn, 1) := by decide +kernel
theorem dX9_undo_0 : decode cX9_undo 0 = .ok (.aload_n 0, 1) := by decide +kernel
theorem dX9_undo_1 : decode cX9_undo 1 = .ok (.getfield 57, 3) := by decide +kernel
theorem dX9_undo_4 : decode cX9_undo 4 = .ok (.aload_n 0, 1) := by decide +kernel
theorem dX9_undo_5 : decode cX9_undo 5 = .ok (.getfield 26, 3) := by decide +kernel
theorem dX9_undo_8 : decode cX9_undo 8 = .ok (.invokevirtual 270, 3) := by decide +kernel
theorem dX9_undo_11 : decode cX9_undo 11 = .ok (.ifCond .ne 6, 3) := by decide +kernel
theorem dX9_undo_14 : decode cX9_undo 14 = .ok (.bipush (-5), 2) := by decide +kernel
theorem dX9_undo_16 : decode cX9_undo 16 = .ok (.ireturn, 1) := by decide +kernel
theorem dX9_undo_17 : decode cX9_undo 17 = .ok (.aload_n 0, 1) := by decide +kernel
theorem dX9_undo_18 : decode cX9_undo 18 = .ok (.invokevirtual 274, 3) := by decide +kernel
theorem dX9_undo_21 : decode cX9_undo 21 = .ok (.aload_n 0, 1) := by decide +kernel
theorem dX9_undo_22 : decode cX9_undo 22 = .ok (.getfield 57, 3) := by decide +kernel
theorem dX9_undo_25 : decode cX9_undo 25 = .ok (.getfield 277, 3) := by decide +kernel
theorem dX9_undo_28 : decode cX9_undo 28 = .ok (.ireturn, 1) := by decide +kernel
theorem dX9_redo_0 : decode cX9_redo 0 = .ok (.aload_n 0, 1) := by decide +kernel
theorem dX9_redo_1 : decode cX9_redo 1 = .ok (.getfield 57, 3) := by decide +kernel
theorem dX9_redo_4 : decode cX9_redo 4 = .ok (.aload_n 0, 1) := by decide +kernel
theorem dX9_redo_5 : decode cX9_redo 5 = .ok (.getfield 26, 3) := by decide +kernel
theorem dX9_redo_8 : decode cX9_redo 8 = .ok (.invokevirtual 280, 3) := by decide +kernel
theorem dX9_redo_11 : decode cX9_redo 11 = .ok (.ifCond .ne 6, 3) := by decide +kernel
theorem dX9_redo_14 : decode cX9_redo 14 = .ok (.bipush (-5), 2) := by decide +kernel
theorem dX9_redo_16 : decode cX9_redo 16 = .ok (.ireturn, 1) := by decide +kernel
theorem dX9_redo_17 : decode cX9_redo 17 = .ok (.aload_n 0, 1) := by decide +kernel
theorem dX9_redo_18 : decode cX9_redo 18 = .ok (.invokevirtual 274, 3) := by decide +kernel
theorem dX9_redo_21 : decode cX9_redo 21 = .ok (.aload_n 0, 1) := by decide +kernel
theorem dX9_redo_22 : decode cX9_redo 22 = .ok (.getfield 57, 3) := by decide +kernel
theorem dX9_redo_25 : decode cX9_redo 25 = .ok (.getfield 283, 3) := by decide +kernel
theorem dX9_redo_28 : decode cX9_redo 28 = .ok (.aload_n 0, 1) := by decide +kernel
theorem dX9_redo_29 : decode cX9_redo 29 = .ok (.getfield 57, 3) := by decide +kernel
theorem dX9_redo_32 : decode cX9_redo 32 = .ok (.getfield 277, 3) := by decide +kernel
theorem dX9_redo_35 : decode cX9_redo 35 = .ok (.isub, 1) := by decide +kernel
theorem dX9_redo_36 : decode cX9_redo 36 = .ok (.ireturn, 1) := by decide +kernel
theorem dX9_image_0 : decode cX9_image 0 = .ok (.aload_n 0, 1) := by decide +kernel
theorem dX9_image_1 : decode cX9_image 1 = .ok (.invokevirtual 145, 3) := by decide +kernel
theorem dX9_image_4 : decode cX9_image 4 = .ok (.ifCond .eq 6, 3) := by decide +kernel
theorem dX9_image_7 : decode cX9_image 7 = .ok (.bipush (-5), 2) := by decide +kernel
theorem dX9_image_9 : decode cX9_image 9 = .ok (.ireturn, 1) := by decide +kernel
theorem dX9_image_10 : decode cX9_image 10 = .ok (.aload_n 0, 1) := by decide +kernel
theorem dX9_image_11 : decode cX9_image 11 = .ok (.getfield 82, 3) := by decide +kernel
theorem dX9_image_14 : decode cX9_image 14 = .ok (.aload_n 0, 1) := by decide +kernel
theorem dX9_image_15 : decode cX9_image 15 = .ok (.getfield 19, 3) := by decide +kernel
theorem dX9_image_18 : decode cX9_image 18 = .ok (.invokevirtual 109, 3) := by decide +kernel
theorem dX9_image_21 : decode cX9_image 21 = .ok (.aload_n 0, 1) := by decide +kernel
theorem dX9_image_22 : decode cX9_image 22 = .ok (.getfield 26, 3) := by decide +kernel
theorem dX9_image_25 : decode cX9_image 25 = .ok (.aload_n 0, 1) := by decide +kernel
theorem dX9_image_26 : decode cX9_image 26 = .ok (.getfield 85, 3) := by decide +kernel
theorem dX9_image_29 : decode cX9_image 29 = .ok (.invokestatic 231, 3) := by decide +kernel
theorem dX9_image_32 : decode cX9_image 32 = .ok (.aload_n 0, 1) := by decide +kernel
theorem dX9_image_33 : decode cX9_image 33 = .ok (.getfield 19, 3) := by decide +kernel
theorem dX9_image_36 : decode cX9_image 36 = .ok (.getfield 120, 3) := by decide +kernel
theorem dX9_image_39 : decode cX9_image 39 = .ok (.ireturn, 1) := by decide +kernel
theorem dX9_back_0 : decode cX9_back 0 = .ok (.aload_n 0, 1) := by decide +kernel
theorem dX9_back_1 : decode cX9_back 1 = .ok (.getfield 82, 3) := by decide +kernel
theorem dX9_back_4 : decode cX9_back 4 = .ok (.getfield 120, 3) := by decide +kernel
theorem dX9_back_7 : decode cX9_back 7 = .ok (.ifCond .ne 6, 3) := by decide +kernel
theorem dX9_back_10 : decode cX9_back 10 = .ok (.bipush (-5), 2) := by decide +kernel
theorem dX9_back_12 : decode cX9_back 12 = .ok (.ireturn, 1) := by decide +kernel
theorem dX9_back_13 : decode cX9_back 13 = .ok (.aload_n 0, 1) := by decide +kernel
theorem dX9_back_14 : decode cX9_back 14 = .ok (.getfield 19, 3) := by decide +kernel
theorem dX9_back_17 : decode cX9_back 17 = .ok (.aload_n 0, 1) := by decide +kernel
theorem dX9_back_18 : decode cX9_back 18 = .ok (.getfield 82, 3) := by decide +kernel
theorem dX9_back_21 : decode cX9_back 21 = .ok (.invokevirtual 109, 3) := by decide +kernel
theorem dX9_back_24 : decode cX9_back 24 = .ok (.aload_n 0, 1) := by decide +kernel
theorem dX9_back_25 : decode cX9_back 25 = .ok (.getfield 85, 3) := by decide +kernel
theorem dX9_back_28 : decode cX9_back 28 = .ok (.aload_n 0, 1) := by decide +kernel
theorem dX9_back_29 : decode cX9_back 29 = .ok (.getfield 26, 3) := by decide +kernel
theorem dX9_back_32 : decode cX9_back 32 = .ok (.invokestatic 231, 3) := by decide +kernel
theorem dX9_back_35 : decode cX9_back 35 = .ok (.aload_n 0, 1) := by decide +kernel
theorem dX9_back_36 : decode cX9_back 36 = .ok (.invokevirtual 117, 3) := by decide +kernel
theorem dX9_back_39 : decode cX9_back 39 = .ok (.aload_n 0, 1) := by decide +kernel
theorem dX9_back_40 : decode cX9_back 40 = .ok (.getfield 19, 3) := by decide +kernel
theorem dX9_back_43 : decode cX9_back 43 = .ok (.getfield 120, 3) := by decide +kernel
theorem dX9_back_46 : decode cX9_back 46 = .ok (.ireturn, 1) := by decide +kernel
theorem dX9_count_0 : decode cX9_count 0 = .ok (.iload_n 1, 1) := by decide +kernel
theorem dX9_count_1 : decode cX9_count 1 = .ok (.tableswitch 92 0 5 #[39, 47, 55, 63, 71, 87], 39) := by decide +kernel
theorem dX9_count_40 : decode cX9_count 40 = .ok (.aload_n 0, 1) := by decide +kernel
theorem dX9_count_41 : decode cX9_count 41 = .ok (.getfield 19, 3) := by decide +kernel
theorem dX9_count_44 : decode cX9_count 44 = .ok (.getfield 286, 3) := by decide +kernel
theorem dX9_count_47 : decode cX9_count 47 = .ok (.ireturn, 1) := by decide +kernel
theorem dX9_count_48 : decode cX9_count 48 = .ok (.aload_n 0, 1) := by decide +kernel
theorem dX9_count_49 : decode cX9_count 49 = .ok (.getfield 19, 3) := by decide +kernel
theorem dX9_count_52 : decode cX9_count 52 = .ok (.getfield 120, 3) := by decide +kernel
theorem dX9_count_55 : decode cX9_count 55 = .ok (.ireturn, 1) := by decide +kernel
theorem dX9_count_56 : decode cX9_count 56 = .ok (.aload_n 0, 1) := by decide +kernel
theorem dX9_count_57 : decode cX9_count 57 = .ok (.getfield 10, 3) := by decide +kernel
theorem dX9_count_60 : decode cX9_count 60 = .ok (.getfield 98, 3) := by decide +kernel
theorem dX9_count_63 : decode cX9_count 63 = .ok (.ireturn, 1) := by decide +kernel
theorem dX9_count_64 : decode cX9_count 64 = .ok (.aload_n 0, 1) := by decide +kernel
theorem dX9_count_65 : decode cX9_count 65 = .ok (.getfield 57, 3) := by decide +kernel
theorem dX9_count_68 : decode cX9_count 68 = .ok (.getfield 277, 3) := by decide +kernel
theorem dX9_count_71 : decode cX9_count 71 = .ok (.ireturn, 1) := by decide +kernel
theorem dX9_count_72 : decode cX9_count 72 = .ok (.aload_n 0, 1) := by decide +kernel
theorem dX9_count_73 : decode cX9_count 73 = .ok (.getfield 57, 3) := by decide +kernel
theorem dX9_count_76 : decode cX9_count 76 = .ok (.getfield 283, 3) := by decide +kernel
theorem dX9_count_79 : decode cX9_count 79 = .ok (.aload_n 0, 1) := by decide +kernel
theorem dX9_count_80 : decode cX9_count 80 = .ok (.getfield 57, 3) := by decide +kernel
theorem dX9_count_83 : decode cX9_count 83 = .ok (.getfield 277, 3) := by decide +kernel
theorem dX9_count_86 : decode cX9_count 86 = .ok (.isub, 1) := by decide +kernel
theorem dX9_count_87 : decode cX9_count 87 = .ok (.ireturn, 1) := by decide +kernel
theorem dX9_count_88 : decode cX9_count 88 = .ok (.aload_n 0, 1) := by decide +kernel
theorem dX9_count_89 : decode cX9_count 89 = .ok (.getfield 95, 3) := by decide +kernel
theorem dX9_count_92 : decode cX9_count 92 = .ok (.ireturn, 1) := by decide +kernel
theorem dX9_count_93 : decode cX9_count 93 = .ok (.iconst (-1), 1) := by decide +kernel
theorem dX9_count_94 : decode cX9_count 94 = .ok (.ireturn, 1) := by decide +kernel
theorem dX9_noShop_0 : decode cX9_noShop 0 = .ok (.aload_n 0, 1) := by decide +kernel
theorem dX9_noShop_1 : decode cX9_noShop 1 = .ok (.getfield 19, 3) := by decide +kernel
theorem dX9_noShop_4 : decode cX9_noShop 4 = .ok (.getfield 120, 3) := by decide +kernel
theorem dX9_noShop_7 : decode cX9_noShop 7 = .ok (.ifCond .ne 7, 3) := by decide +kernel
theorem dX9_noShop_10 : decode cX9_noShop 10 = .ok (.iconst 1, 1) := by decide +kernel
theorem dX9_noShop_11 : decode cX9_noShop 11 = .ok (.goto 4, 3) := by decide +kernel
theorem dX9_noShop_14 : decode cX9_noShop 14 = .ok (.iconst 0, 1) := by decide +kernel
theorem dX9_noShop_15 : decode cX9_noShop 15 = .ok (.ireturn, 1) := by decide +kernel
theorem dX9_noTask_0 : decode cX9_noTask 0 = .ok (.iload_n 1, 1) := by decide +kernel
theorem dX9_noTask_1 : decode cX9_noTask 1 = .ok (.ifCond .lt 14, 3) := by decide +kernel
theorem dX9_noTask_4 : decode cX9_noTask 4 = .ok (.iload_n 1, 1) := by decide +kernel
theorem dX9_noTask_5 : decode cX9_noTask 5 = .ok (.aload_n 0, 1) := by decide +kernel
theorem dX9_noTask_6 : decode cX9_noTask 6 = .ok (.getfield 19, 3) := by decide +kernel
theorem dX9_noTask_9 : decode cX9_noTask 9 = .ok (.getfield 120, 3) := by decide +kernel
theorem dX9_noTask_12 : decode cX9_noTask 12 = .ok (.if_icmp .lt 7, 3) := by decide +kernel
theorem dX9_noTask_15 : decode cX9_noTask 15 = .ok (.iconst 1, 1) := by decide +kernel
theorem dX9_noTask_16 : decode cX9_noTask 16 = .ok (.goto 4, 3) := by decide +kernel
theorem dX9_noTask_19 : decode cX9_noTask 19 = .ok (.iconst 0, 1) := by decide +kernel
theorem dX9_noTask_20 : decode cX9_noTask 20 = .ok (.ireturn, 1) := by decide +kernel
theorem dX9_noMachine_0 : decode cX9_noMachine 0 = .ok (.iload_n 0, 1) := by decide +kernel
theorem dX9_noMachine_1 : decode cX9_noMachine 1 = .ok (.ifCond .lt 8, 3) := by decide +kernel
theorem dX9_noMachine_4 : decode cX9_noMachine 4 = .ok (.iload_n 0, 1) := by decide +kernel
theorem dX9_noMachine_5 : decode cX9_noMachine 5 = .ok (.iconst 5, 1) := by decide +kernel
theorem dX9_noMachine_6 : decode cX9_noMachine 6 = .ok (.if_icmp .lt 7, 3) := by decide +kernel
theorem dX9_noMachine_9 : decode cX9_noMachine 9 = .ok (.iconst 1, 1) := by decide +kernel
theorem dX9_noMachine_10 : decode cX9_noMachine 10 = .ok (.goto 4, 3) := by decide +kernel
theorem dX9_noMachine_13 : decode cX9_noMachine 13 = .ok (.iconst 0, 1) := by decide +kernel
theorem dX9_noMachine_14 : decode cX9_noMachine 14 = .ok (.ireturn, 1) := by decide +kernel
theorem dX9_refusedByState_0 : decode cX9_refusedByState 0 = .ok (.aload_n 0, 1) := by decide +kernel
theorem dX9_refusedByState_1 : decode cX9_refusedByState 1 = .ok (.invokevirtual 145, 3) := by decide +kernel
theorem dX9_refusedByState_4 : decode cX9_refusedByState 4 = .ok (.ifCond .eq 6, 3) := by decide +kernel
theorem dX9_refusedByState_7 : decode cX9_refusedByState 7 = .ok (.bipush (-5), 2) := by decide +kernel
theorem dX9_refusedByState_9 : decode cX9_refusedByState 9 = .ok (.ireturn, 1) := by decide +kernel
theorem dX9_refusedByState_10 : decode cX9_refusedByState 10 = .ok (.aload_n 0, 1) := by decide +kernel
theorem dX9_refusedByState_11 : decode cX9_refusedByState 11 = .ok (.getfield 33, 3) := by decide +kernel
theorem dX9_refusedByState_14 : decode cX9_refusedByState 14 = .ok (.getfield 288, 3) := by decide +kernel
theorem dX9_refusedByState_17 : decode cX9_refusedByState 17 = .ok (.ifCond .eq 8, 3) := by decide +kernel
theorem dX9_refusedByState_20 : decode cX9_refusedByState 20 = .ok (.bipush (-4), 2) := by decide +kernel
theorem dX9_refusedByState_22 : decode cX9_refusedByState 22 = .ok (.goto 4, 3) := by decide +kernel
theorem dX9_refusedByState_25 : decode cX9_refusedByState 25 = .ok (.iconst 0, 1) := by decide +kernel
theorem dX9_refusedByState_26 : decode cX9_refusedByState 26 = .ok (.ireturn, 1) := by decide +kernel
theorem dX9_spanOrRing_0 : decode cX9_spanOrRing 0 = .ok (.aload_n 0, 1) := by decide +kernel
theorem dX9_spanOrRing_1 : decode cX9_spanOrRing 1 = .ok (.getfield 33, 3) := by decide +kernel
theorem dX9_spanOrRing_4 : decode cX9_spanOrRing 4 = .ok (.getfield 288, 3) := by decide +kernel
theorem dX9_spanOrRing_7 : decode cX9_spanOrRing 7 = .ok (.ifCond .eq 8, 3) := by decide +kernel
theorem dX9_spanOrRing_10 : decode cX9_spanOrRing 10 = .ok (.bipush (-4), 2) := by decide +kernel
theorem dX9_spanOrRing_12 : decode cX9_spanOrRing 12 = .ok (.goto 10, 3) := by decide +kernel
theorem dX9_spanOrRing_15 : decode cX9_spanOrRing 15 = .ok (.aload_n 0, 1) := by decide +kernel
theorem dX9_spanOrRing_16 : decode cX9_spanOrRing 16 = .ok (.getfield 33, 3) := by decide +kernel
theorem dX9_spanOrRing_19 : decode cX9_spanOrRing 19 = .ok (.getfield 169, 3) := by decide +kernel
theorem dX9_spanOrRing_22 : decode cX9_spanOrRing 22 = .ok (.ireturn, 1) := by decide +kernel
theorem dX9_copyRow_0 : decode cX9_copyRow 0 = .ok (.aload_n 0, 1) := by decide +kernel
theorem dX9_copyRow_1 : decode cX9_copyRow 1 = .ok (.iconst 0, 1) := by decide +kernel
theorem dX9_copyRow_2 : decode cX9_copyRow 2 = .ok (.aload_n 1, 1) := by decide +kernel
theorem dX9_copyRow_3 : decode cX9_copyRow 3 = .ok (.iconst 0, 1) := by decide +kernel
theorem dX9_copyRow_4 : decode cX9_copyRow 4 = .ok (.bipush 24, 2) := by decide +kernel
theorem dX9_copyRow_6 : decode cX9_copyRow 6 = .ok (.invokestatic 292, 3) := by decide +kernel
theorem dX9_copyRow_9 : decode cX9_copyRow 9 = .ok (.return_, 1) := by decide +kernel
theorem dX9_pair_0 : decode cX9_pair 0 = .ok (.bipush 100, 2) := by decide +kernel
theorem dX9_pair_2 : decode cX9_pair 2 = .ok (.iload_n 0, 1) := by decide +kernel
theorem dX9_pair_3 : decode cX9_pair 3 = .ok (.imul, 1) := by decide +kernel
theorem dX9_pair_4 : decode cX9_pair 4 = .ok (.iload_n 1, 1) := by decide +kernel
theorem dX9_pair_5 : decode cX9_pair 5 = .ok (.iadd, 1) := by decide +kernel
theorem dX9_pair_6 : decode cX9_pair 6 = .ok (.ireturn, 1) := by decide +kernel
theorem dX9_slotOf_0 : decode cX9_slotOf 0 = .ok (.aload_n 0, 1) := by decide +kernel
theorem dX9_slotOf_1 : decode cX9_slotOf 1 = .ok (.getfield 19, 3) := by decide +kernel
theorem dX9_slotOf_4 : decode cX9_slotOf 4 = .ok (.getfield 153, 3) := by decide +kernel
theorem dX9_slotOf_7 : decode cX9_slotOf 7 = .ok (.aload_n 0, 1) := by decide +kernel
theorem dX9_slotOf_8 : decode cX9_slotOf 8 = .ok (.getfield 19, 3) := by decide +kernel
theorem dX9_slotOf_11 : decode cX9_slotOf 11 = .ok (.getfield 133, 3) := by decide +kernel
theorem dX9_slotOf_14 : decode cX9_slotOf 14 = .ok (.iload_n 1, 1) := by decide +kernel
theorem dX9_slotOf_15 : decode cX9_slotOf 15 = .ok (.iaload, 1) := by decide +kernel
theorem dX9_slotOf_16 : decode cX9_slotOf 16 = .ok (.iaload, 1) := by decide +kernel
theorem dX9_slotOf_17 : decode cX9_slotOf 17 = .ok (.aload_n 0, 1) := by decide +kernel
theorem dX9_slotOf_18 : decode cX9_slotOf 18 = .ok (.getfield 33, 3) := by decide +kernel
theorem dX9_slotOf_21 : decode cX9_slotOf 21 = .ok (.getfield 139, 3) := by decide +kernel
theorem dX9_slotOf_24 : decode cX9_slotOf 24 = .ok (.iload_n 1, 1) := by decide +kernel
theorem dX9_slotOf_25 : decode cX9_slotOf 25 = .ok (.iaload, 1) := by decide +kernel
theorem dX9_slotOf_26 : decode cX9_slotOf 26 = .ok (.iadd, 1) := by decide +kernel
theorem dX9_slotOf_27 : decode cX9_slotOf 27 = .ok (.ireturn, 1) := by decide +kernel
theorem dX9_changePlaces_0 : decode cX9_changePlaces 0 = .ok (.iload_n 1, 1) := by decide +kernel
theorem dX9_changePlaces_1 : decode cX9_changePlaces 1 = .ok (.ifCond .lt 11, 3) := by decide +kernel
theorem dX9_changePlaces_4 : decode cX9_changePlaces 4 = .ok (.iload_n 1, 1) := by decide +kernel
theorem dX9_changePlaces_5 : decode cX9_changePlaces 5 = .ok (.iconst 1, 1) := by decide +kernel
theorem dX9_changePlaces_6 : decode cX9_changePlaces 6 = .ok (.iadd, 1) := by decide +kernel
theorem dX9_changePlaces_7 : decode cX9_changePlaces 7 = .ok (.bipush 24, 2) := by decide +kernel
theorem dX9_changePlaces_9 : decode cX9_changePlaces 9 = .ok (.if_icmp .lt 4, 3) := by decide +kernel
theorem dX9_changePlaces_12 : decode cX9_changePlaces 12 = .ok (.return_, 1) := by decide +kernel
theorem dX9_changePlaces_13 : decode cX9_changePlaces 13 = .ok (.aload_n 0, 1) := by decide +kernel
theorem dX9_changePlaces_14 : decode cX9_changePlaces 14 = .ok (.getfield 26, 3) := by decide +kernel
theorem dX9_changePlaces_17 : decode cX9_changePlaces 17 = .ok (.iload_n 1, 1) := by decide +kernel
theorem dX9_changePlaces_18 : decode cX9_changePlaces 18 = .ok (.iaload, 1) := by decide +kernel
theorem dX9_changePlaces_19 : decode cX9_changePlaces 19 = .ok (.istore_n 2, 1) := by decide +kernel
theorem dX9_changePlaces_20 : decode cX9_changePlaces 20 = .ok (.aload_n 0, 1) := by decide +kernel
theorem dX9_changePlaces_21 : decode cX9_changePlaces 21 = .ok (.getfield 26, 3) := by decide +kernel
theorem dX9_changePlaces_24 : decode cX9_changePlaces 24 = .ok (.iload_n 1, 1) := by decide +kernel
theorem dX9_changePlaces_25 : decode cX9_changePlaces 25 = .ok (.aload_n 0, 1) := by decide +kernel
theorem dX9_changePlaces_26 : decode cX9_changePlaces 26 = .ok (.getfield 26, 3) := by decide +kernel
theorem dX9_changePlaces_29 : decode cX9_changePlaces 29 = .ok (.iload_n 1, 1) := by decide +kernel
theorem dX9_changePlaces_30 : decode cX9_changePlaces 30 = .ok (.iconst 1, 1) := by decide +kernel
theorem dX9_changePlaces_31 : decode cX9_changePlaces 31 = .ok (.iadd, 1) := by decide +kernel
theorem dX9_changePlaces_32 : decode cX9_changePlaces 32 = .ok (.iaload, 1) := by decide +kernel
theorem dX9_changePlaces_33 : decode cX9_changePlaces 33 = .ok (.iastore, 1) := by decide +kernel
theorem dX9_changePlaces_34 : decode cX9_changePlaces 34 = .ok (.aload_n 0, 1) := by decide +kernel
theorem dX9_changePlaces_35 : decode cX9_changePlaces 35 = .ok (.getfield 26, 3) := by decide +kernel
theorem dX9_changePlaces_38 : decode cX9_changePlaces 38 = .ok (.iload_n 1, 1) := by decide +kernel
theorem dX9_changePlaces_39 : decode cX9_changePlaces 39 = .ok (.iconst 1, 1) := by decide +kernel
theorem dX9_changePlaces_40 : decode cX9_changePlaces 40 = .ok (.iadd, 1) := by decide +kernel
theorem dX9_changePlaces_41 : decode cX9_changePlaces 41 = .ok (.iload_n 2, 1) := by decide +kernel
theorem dX9_changePlaces_42 : decode cX9_changePlaces 42 = .ok (.iastore, 1) := by decide +kernel
theorem dX9_changePlaces_43 : decode cX9_changePlaces 43 = .ok (.return_, 1) := by decide +kernel
theorem dX9_startAnew_0 : decode cX9_startAnew 0 = .ok (.aload_n 0, 1) := by decide +kernel
theorem dX9_startAnew_1 : decode cX9_startAnew 1 = .ok (.getfield 57, 3) := by decide +kernel
theorem dX9_startAnew_4 : decode cX9_startAnew 4 = .ok (.aload_n 0, 1) := by decide +kernel
theorem dX9_startAnew_5 : decode cX9_startAnew 5 = .ok (.getfield 26, 3) := by decide +kernel
theorem dX9_startAnew_8 : decode cX9_startAnew 8 = .ok (.invokevirtual 298, 3) := by decide +kernel
theorem dX9_startAnew_11 : decode cX9_startAnew 11 = .ok (.aload_n 0, 1) := by decide +kernel
theorem dX9_startAnew_12 : decode cX9_startAnew 12 = .ok (.invokevirtual 219, 3) := by decide +kernel
theorem dX9_startAnew_15 : decode cX9_startAnew 15 = .ok (.aload_n 0, 1) := by decide +kernel
theorem dX9_startAnew_16 : decode cX9_startAnew 16 = .ok (.getfield 71, 3) := by decide +kernel
theorem dX9_startAnew_19 : decode cX9_startAnew 19 = .ok (.invokevirtual 301, 3) := by decide +kernel
theorem dX9_startAnew_22 : decode cX9_startAnew 22 = .ok (.aload_n 0, 1) := by decide +kernel
theorem dX9_startAnew_23 : decode cX9_startAnew 23 = .ok (.getfield 78, 3) := by decide +kernel
theorem dX9_startAnew_26 : decode cX9_startAnew 26 = .ok (.invokevirtual 304, 3) := by decide +kernel
theorem dX9_startAnew_29 : decode cX9_startAnew 29 = .ok (.aload_n 0, 1) := by decide +kernel
theorem dX9_startAnew_30 : decode cX9_startAnew 30 = .ok (.invokevirtual 274, 3) := by decide +kernel
theorem dX9_startAnew_33 : decode cX9_startAnew 33 = .ok (.return_, 1) := by decide +kernel
theorem dX9_forgetSteps_0 : decode cX9_forgetSteps 0 = .ok (.aload_n 0, 1) := by decide +kernel
theorem dX9_forgetSteps_1 : decode cX9_forgetSteps 1 = .ok (.getfield 50, 3) := by decide +kernel
theorem dX9_forgetSteps_4 : decode cX9_forgetSteps 4 = .ok (.iconst 0, 1) := by decide +kernel
theorem dX9_forgetSteps_5 : decode cX9_forgetSteps 5 = .ok (.putfield 225, 3) := by decide +kernel
theorem dX9_forgetSteps_8 : decode cX9_forgetSteps 8 = .ok (.aload_n 0, 1) := by decide +kernel
theorem dX9_forgetSteps_9 : decode cX9_forgetSteps 9 = .ok (.iconst (-1), 1) := by decide +kernel
theorem dX9_forgetSteps_10 : decode cX9_forgetSteps 10 = .ok (.putfield 91, 3) := by decide +kernel
theorem dX9_forgetSteps_13 : decode cX9_forgetSteps 13 = .ok (.return_, 1) := by decide +kernel
theorem dX9_changed_0 : decode cX9_changed 0 = .ok (.aload_n 0, 1) := by decide +kernel
theorem dX9_changed_1 : decode cX9_changed 1 = .ok (.getfield 57, 3) := by decide +kernel
theorem dX9_changed_4 : decode cX9_changed 4 = .ok (.aload_n 0, 1) := by decide +kernel
theorem dX9_changed_5 : decode cX9_changed 5 = .ok (.getfield 26, 3) := by decide +kernel
theorem dX9_changed_8 : decode cX9_changed 8 = .ok (.invokevirtual 305, 3) := by decide +kernel
theorem dX9_changed_11 : decode cX9_changed 11 = .ok (.aload_n 0, 1) := by decide +kernel
theorem dX9_changed_12 : decode cX9_changed 12 = .ok (.invokevirtual 274, 3) := by decide +kernel
theorem dX9_changed_15 : decode cX9_changed 15 = .ok (.return_, 1) := by decide +kernel
theorem dX9_settle_0 : decode cX9_settle 0 = .ok (.aload_n 0, 1) := by decide +kernel
theorem dX9_settle_1 : decode cX9_settle 1 = .ok (.getfield 33, 3) := by decide +kernel
theorem dX9_settle_4 : decode cX9_settle 4 = .ok (.aload_n 0, 1) := by decide +kernel
theorem dX9_settle_5 : decode cX9_settle 5 = .ok (.getfield 19, 3) := by decide +kernel
theorem dX9_settle_8 : decode cX9_settle 8 = .ok (.aload_n 0, 1) := by decide +kernel
theorem dX9_settle_9 : decode cX9_settle 9 = .ok (.getfield 26, 3) := by decide +kernel
theorem dX9_settle_12 : decode cX9_settle 12 = .ok (.invokevirtual 308, 3) := by decide +kernel
theorem dX9_settle_15 : decode cX9_settle 15 = .ok (.aload_n 0, 1) := by decide +kernel
theorem dX9_settle_16 : decode cX9_settle 16 = .ok (.getfield 33, 3) := by decide +kernel
theorem dX9_settle_19 : decode cX9_settle 19 = .ok (.getfield 288, 3) := by decide +kernel
theorem dX9_settle_22 : decode cX9_settle 22 = .ok (.ifCond .ne 29, 3) := by decide +kernel
theorem dX9_settle_25 : decode cX9_settle 25 = .ok (.aload_n 0, 1) := by decide +kernel
theorem dX9_settle_26 : decode cX9_settle 26 = .ok (.getfield 33, 3) := by decide +kernel
theorem dX9_settle_29 : decode cX9_settle 29 = .ok (.aload_n 0, 1) := by decide +kernel
theorem dX9_settle_30 : decode cX9_settle 30 = .ok (.getfield 19, 3) := by decide +kernel
theorem dX9_settle_33 : decode cX9_settle 33 = .ok (.invokevirtual 311, 3) := by decide +kernel
theorem dX9_settle_36 : decode cX9_settle 36 = .ok (.aload_n 0, 1) := by decide +kernel
theorem dX9_settle_37 : decode cX9_settle 37 = .ok (.getfield 43, 3) := by decide +kernel
theorem dX9_settle_40 : decode cX9_settle 40 = .ok (.aload_n 0, 1) := by decide +kernel
theorem dX9_settle_41 : decode cX9_settle 41 = .ok (.getfield 19, 3) := by decide +kernel
theorem dX9_settle_44 : decode cX9_settle 44 = .ok (.aload_n 0, 1) := by decide +kernel
theorem dX9_settle_45 : decode cX9_settle 45 = .ok (.getfield 33, 3) := by decide +kernel
theorem dX9_settle_48 : decode cX9_settle 48 = .ok (.invokevirtual 314, 3) := by decide +kernel
theorem dX9_settle_51 : decode cX9_settle 51 = .ok (.return_, 1) := by decide +kernel
theorem dX9_spanBehind_0 : decode cX9_spanBehind 0 = .ok (.aload_n 0, 1) := by decide +kernel
theorem dX9_spanBehind_1 : decode cX9_spanBehind 1 = .ok (.aload_n 0, 1) := by decide +kernel
theorem dX9_spanBehind_2 : decode cX9_spanBehind 2 = .ok (.getfield 43, 3) := by decide +kernel
theorem dX9_spanBehind_5 : decode cX9_spanBehind 5 = .ok (.iload_n 1, 1) := by decide +kernel
theorem dX9_spanBehind_6 : decode cX9_spanBehind 6 = .ok (.invokevirtual 193, 3) := by decide +kernel
theorem dX9_spanBehind_9 : decode cX9_spanBehind 9 = .ok (.invokevirtual 213, 3) := by decide +kernel
theorem dX9_spanBehind_12 : decode cX9_spanBehind 12 = .ok (.istore_n 2, 1) := by decide +kernel
theorem dX9_spanBehind_13 : decode cX9_spanBehind 13 = .ok (.aload_n 0, 1) := by decide +kernel
theorem dX9_spanBehind_14 : decode cX9_spanBehind 14 = .ok (.iload_n 2, 1) := by decide +kernel
theorem dX9_spanBehind_15 : decode cX9_spanBehind 15 = .ok (.invokevirtual 156, 3) := by decide +kernel
theorem dX9_spanBehind_18 : decode cX9_spanBehind 18 = .ok (.aload_n 0, 1) := by decide +kernel
theorem dX9_spanBehind_19 : decode cX9_spanBehind 19 = .ok (.getfield 37, 3) := by decide +kernel
theorem dX9_spanBehind_22 : decode cX9_spanBehind 22 = .ok (.aload_n 0, 1) := by decide +kernel
theorem dX9_spanBehind_23 : decode cX9_spanBehind 23 = .ok (.getfield 19, 3) := by decide +kernel
theorem dX9_spanBehind_26 : decode cX9_spanBehind 26 = .ok (.aload_n 0, 1) := by decide +kernel
theorem dX9_spanBehind_27 : decode cX9_spanBehind 27 = .ok (.getfield 26, 3) := by decide +kernel
theorem dX9_spanBehind_30 : decode cX9_spanBehind 30 = .ok (.invokevirtual 308, 3) := by decide +kernel
theorem dX9_spanBehind_33 : decode cX9_spanBehind 33 = .ok (.aload_n 0, 1) := by decide +kernel
theorem dX9_spanBehind_34 : decode cX9_spanBehind 34 = .ok (.iload_n 2, 1) := by decide +kernel
theorem dX9_spanBehind_35 : decode cX9_spanBehind 35 = .ok (.invokevirtual 156, 3) := by decide +kernel
theorem dX9_spanBehind_38 : decode cX9_spanBehind 38 = .ok (.aload_n 0, 1) := by decide +kernel
theorem dX9_spanBehind_39 : decode cX9_spanBehind 39 = .ok (.getfield 37, 3) := by decide +kernel
theorem dX9_spanBehind_42 : decode cX9_spanBehind 42 = .ok (.getfield 169, 3) := by decide +kernel
theorem dX9_spanBehind_45 : decode cX9_spanBehind 45 = .ok (.ireturn, 1) := by decide +kernel
theorem dX9_keptSince_0 : decode cX9_keptSince 0 = .ok (.aload_n 0, 1) := by decide +kernel
theorem dX9_keptSince_1 : decode cX9_keptSince 1 = .ok (.getfield 50, 3) := by decide +kernel
theorem dX9_keptSince_4 : decode cX9_keptSince 4 = .ok (.aload_n 0, 1) := by decide +kernel
theorem dX9_keptSince_5 : decode cX9_keptSince 5 = .ok (.getfield 43, 3) := by decide +kernel
theorem dX9_keptSince_8 : decode cX9_keptSince 8 = .ok (.iload_n 1, 1) := by decide +kernel
theorem dX9_keptSince_9 : decode cX9_keptSince 9 = .ok (.invokevirtual 193, 3) := by decide +kernel
theorem dX9_keptSince_12 : decode cX9_keptSince 12 = .ok (.aload_n 0, 1) := by decide +kernel
theorem dX9_keptSince_13 : decode cX9_keptSince 13 = .ok (.getfield 43, 3) := by decide +kernel
theorem dX9_keptSince_16 : decode cX9_keptSince 16 = .ok (.iload_n 1, 1) := by decide +kernel
theorem dX9_keptSince_17 : decode cX9_keptSince 17 = .ok (.invokevirtual 196, 3) := by decide +kernel
theorem dX9_keptSince_20 : decode cX9_keptSince 20 = .ok (.invokestatic 199, 3) := by decide +kernel
theorem dX9_keptSince_23 : decode cX9_keptSince 23 = .ok (.invokevirtual 318, 3) := by decide +kernel
theorem dX9_keptSince_26 : decode cX9_keptSince 26 = .ok (.ireturn, 1) := by decide +kernel
theorem dX9_goOn_0 : decode cX9_goOn 0 = .ok (.aload_n 0, 1) := by decide +kernel
theorem dX9_goOn_1 : decode cX9_goOn 1 = .ok (.invokevirtual 320, 3) := by decide +kernel
theorem dX9_goOn_4 : decode cX9_goOn 4 = .ok (.aload_n 0, 1) := by decide +kernel
theorem dX9_goOn_5 : decode cX9_goOn 5 = .ok (.getfield 43, 3) := by decide +kernel
theorem dX9_goOn_8 : decode cX9_goOn 8 = .ok (.getfield 190, 3) := by decide +kernel
theorem dX9_goOn_11 : decode cX9_goOn 11 = .ok (.ifCond .ne 5, 3) := by decide +kernel
theorem dX9_goOn_14 : decode cX9_goOn 14 = .ok (.iconst 0, 1) := by decide +kernel
theorem dX9_goOn_15 : decode cX9_goOn 15 = .ok (.ireturn, 1) := by decide +kernel
theorem dX9_goOn_16 : decode cX9_goOn 16 = .ok (.aload_n 0, 1) := by decide +kernel
theorem dX9_goOn_17 : decode cX9_goOn 17 = .ok (.invokevirtual 323, 3) := by decide +kernel
theorem dX9_goOn_20 : decode cX9_goOn 20 = .ok (.istore_n 1, 1) := by decide +kernel
theorem dX9_goOn_21 : decode cX9_goOn 21 = .ok (.aload_n 0, 1) := by decide +kernel
theorem dX9_goOn_22 : decode cX9_goOn 22 = .ok (.getfield 43, 3) := by decide +kernel
theorem dX9_goOn_25 : decode cX9_goOn 25 = .ok (.iload_n 1, 1) := by decide +kernel
theorem dX9_goOn_26 : decode cX9_goOn 26 = .ok (.invokevirtual 193, 3) := by decide +kernel
theorem dX9_goOn_29 : decode cX9_goOn 29 = .ok (.istore_n 2, 1) := by decide +kernel
theorem dX9_goOn_30 : decode cX9_goOn 30 = .ok (.aload_n 0, 1) := by decide +kernel
theorem dX9_goOn_31 : decode cX9_goOn 31 = .ok (.getfield 43, 3) := by decide +kernel
theorem dX9_goOn_34 : decode cX9_goOn 34 = .ok (.iload_n 1, 1) := by decide +kernel
theorem dX9_goOn_35 : decode cX9_goOn 35 = .ok (.invokevirtual 196, 3) := by decide +kernel
theorem dX9_goOn_38 : decode cX9_goOn 38 = .ok (.istore_n 3, 1) := by decide +kernel
theorem dX9_goOn_39 : decode cX9_goOn 39 = .ok (.aload_n 0, 1) := by decide +kernel
theorem dX9_goOn_40 : decode cX9_goOn 40 = .ok (.aload_n 0, 1) := by decide +kernel
theorem dX9_goOn_41 : decode cX9_goOn 41 = .ok (.iload_n 2, 1) := by decide +kernel
theorem dX9_goOn_42 : decode cX9_goOn 42 = .ok (.invokevirtual 213, 3) := by decide +kernel
theorem dX9_goOn_45 : decode cX9_goOn 45 = .ok (.invokevirtual 156, 3) := by decide +kernel
theorem dX9_goOn_48 : decode cX9_goOn 48 = .ok (.aload_n 0, 1) := by decide +kernel
theorem dX9_goOn_49 : decode cX9_goOn 49 = .ok (.invokevirtual 159, 3) := by decide +kernel
theorem dX9_goOn_52 : decode cX9_goOn 52 = .ok (.aload_n 0, 1) := by decide +kernel
theorem dX9_goOn_53 : decode cX9_goOn 53 = .ok (.getfield 50, 3) := by decide +kernel
theorem dX9_goOn_56 : decode cX9_goOn 56 = .ok (.iload_n 3, 1) := by decide +kernel
theorem dX9_goOn_57 : decode cX9_goOn 57 = .ok (.iload_n 2, 1) := by decide +kernel
theorem dX9_goOn_58 : decode cX9_goOn 58 = .ok (.invokestatic 199, 3) := by decide +kernel
theorem dX9_goOn_61 : decode cX9_goOn 61 = .ok (.invokevirtual 326, 3) := by decide +kernel
theorem dX9_goOn_64 : decode cX9_goOn 64 = .ok (.aload_n 0, 1) := by decide +kernel
theorem dX9_goOn_65 : decode cX9_goOn 65 = .ok (.invokevirtual 320, 3) := by decide +kernel
theorem dX9_goOn_68 : decode cX9_goOn 68 = .ok (.iconst 1, 1) := by decide +kernel
theorem dX9_goOn_69 : decode cX9_goOn 69 = .ok (.ireturn, 1) := by decide +kernel
theorem dX9_lookForLeast_0 : decode cX9_lookForLeast 0 = .ok (.aload_n 0, 1) := by decide +kernel
theorem dX9_lookForLeast_1 : decode cX9_lookForLeast 1 = .ok (.getfield 91, 3) := by decide +kernel
theorem dX9_lookForLeast_4 : decode cX9_lookForLeast 4 = .ok (.iconst (-1), 1) := by decide +kernel
theorem dX9_lookForLeast_5 : decode cX9_lookForLeast 5 = .ok (.if_icmp .eq 17, 3) := by decide +kernel
theorem dX9_lookForLeast_8 : decode cX9_lookForLeast 8 = .ok (.aload_n 0, 1) := by decide +kernel
theorem dX9_lookForLeast_9 : decode cX9_lookForLeast 9 = .ok (.getfield 33, 3) := by decide +kernel
theorem dX9_lookForLeast_12 : decode cX9_lookForLeast 12 = .ok (.getfield 169, 3) := by decide +kernel
theorem dX9_lookForLeast_15 : decode cX9_lookForLeast 15 = .ok (.aload_n 0, 1) := by decide +kernel
theorem dX9_lookForLeast_16 : decode cX9_lookForLeast 16 = .ok (.getfield 91, 3) := by decide +kernel
theorem dX9_lookForLeast_19 : decode cX9_lookForLeast 19 = .ok (.if_icmp .ge 25, 3) := by decide +kernel
theorem dX9_lookForLeast_22 : decode cX9_lookForLeast 22 = .ok (.aload_n 0, 1) := by decide +kernel
theorem dX9_lookForLeast_23 : decode cX9_lookForLeast 23 = .ok (.aload_n 0, 1) := by decide +kernel
theorem dX9_lookForLeast_24 : decode cX9_lookForLeast 24 = .ok (.getfield 33, 3) := by decide +kernel
theorem dX9_lookForLeast_27 : decode cX9_lookForLeast 27 = .ok (.getfield 169, 3) := by decide +kernel
theorem dX9_lookForLeast_30 : decode cX9_lookForLeast 30 = .ok (.putfield 91, 3) := by decide +kernel
theorem dX9_lookForLeast_33 : decode cX9_lookForLeast 33 = .ok (.aload_n 0, 1) := by decide +kernel
theorem dX9_lookForLeast_34 : decode cX9_lookForLeast 34 = .ok (.getfield 26, 3) := by decide +kernel
theorem dX9_lookForLeast_37 : decode cX9_lookForLeast 37 = .ok (.aload_n 0, 1) := by decide +kernel
theorem dX9_lookForLeast_38 : decode cX9_lookForLeast 38 = .ok (.getfield 88, 3) := by decide +kernel
theorem dX9_lookForLeast_41 : decode cX9_lookForLeast 41 = .ok (.invokestatic 231, 3) := by decide +kernel
theorem dX9_lookForLeast_44 : decode cX9_lookForLeast 44 = .ok (.return_, 1) := by decide +kernel
theorem dX9_chosen_0 : decode cX9_chosen 0 = .ok (.iconst (-1), 1) := by decide +kernel
theorem dX9_chosen_1 : decode cX9_chosen 1 = .ok (.istore_n 1, 1) := by decide +kernel
theorem dX9_chosen_2 : decode cX9_chosen 2 = .ok (.iconst 0, 1) := by decide +kernel
theorem dX9_chosen_3 : decode cX9_chosen 3 = .ok (.istore_n 2, 1) := by decide +kernel
theorem dX9_chosen_4 : decode cX9_chosen 4 = .ok (.iconst 0, 1) := by decide +kernel
theorem dX9_chosen_5 : decode cX9_chosen 5 = .ok (.istore_n 3, 1) := by decide +kernel
theorem dX9_chosen_6 : decode cX9_chosen 6 = .ok (.bipush 9, 2) := by decide +kernel
theorem dX9_chosen_8 : decode cX9_chosen 8 = .ok (.istore 4, 2) := by decide +kernel
theorem dX9_chosen_10 : decode cX9_chosen 10 = .ok (.iconst 0, 1) := by decide +kernel
theorem dX9_chosen_11 : decode cX9_chosen 11 = .ok (.istore 5, 2) := by decide +kernel
theorem dX9_chosen_13 : decode cX9_chosen 13 = .ok (.iload 5, 2) := by decide +kernel
theorem dX9_chosen_15 : decode cX9_chosen 15 = .ok (.aload_n 0, 1) := by decide +kernel
theorem dX9_chosen_16 : decode cX9_chosen 16 = .ok (.getfield 43, 3) := by decide +kernel
theorem dX9_chosen_19 : decode cX9_chosen 19 = .ok (.getfield 190, 3) := by decide +kernel
theorem dX9_chosen_22 : decode cX9_chosen 22 = .ok (.if_icmp .ge 74, 3) := by decide +kernel
theorem dX9_chosen_25 : decode cX9_chosen 25 = .ok (.aload_n 0, 1) := by decide +kernel
theorem dX9_chosen_26 : decode cX9_chosen 26 = .ok (.iload 5, 2) := by decide +kernel
theorem dX9_chosen_28 : decode cX9_chosen 28 = .ok (.invokevirtual 207, 3) := by decide +kernel
theorem dX9_chosen_31 : decode cX9_chosen 31 = .ok (.istore 6, 2) := by decide +kernel
theorem dX9_chosen_33 : decode cX9_chosen 33 = .ok (.aload_n 0, 1) := by decide +kernel
theorem dX9_chosen_34 : decode cX9_chosen 34 = .ok (.iload 5, 2) := by decide +kernel
theorem dX9_chosen_36 : decode cX9_chosen 36 = .ok (.invokevirtual 210, 3) := by decide +kernel
theorem dX9_chosen_39 : decode cX9_chosen 39 = .ok (.istore 7, 2) := by decide +kernel
theorem dX9_chosen_41 : decode cX9_chosen 41 = .ok (.iload 7, 2) := by decide +kernel
theorem dX9_chosen_43 : decode cX9_chosen 43 = .ok (.iconst (-1), 1) := by decide +kernel
theorem dX9_chosen_44 : decode cX9_chosen 44 = .ok (.if_icmp .eq 29, 3) := by decide +kernel
theorem dX9_chosen_47 : decode cX9_chosen 47 = .ok (.iload 6, 2) := by decide +kernel
theorem dX9_chosen_49 : decode cX9_chosen 49 = .ok (.aload_n 0, 1) := by decide +kernel
theorem dX9_chosen_50 : decode cX9_chosen 50 = .ok (.getfield 91, 3) := by decide +kernel
theorem dX9_chosen_53 : decode cX9_chosen 53 = .ok (.if_icmp .lt 20, 3) := by decide +kernel
theorem dX9_chosen_56 : decode cX9_chosen 56 = .ok (.iload 7, 2) := by decide +kernel
theorem dX9_chosen_58 : decode cX9_chosen 58 = .ok (.iload 4, 2) := by decide +kernel
theorem dX9_chosen_60 : decode cX9_chosen 60 = .ok (.if_icmp .ge 30, 3) := by decide +kernel
theorem dX9_chosen_63 : decode cX9_chosen 63 = .ok (.iload 7, 2) := by decide +kernel
theorem dX9_chosen_65 : decode cX9_chosen 65 = .ok (.istore 4, 2) := by decide +kernel
theorem dX9_chosen_67 : decode cX9_chosen 67 = .ok (.iload 5, 2) := by decide +kernel
theorem dX9_chosen_69 : decode cX9_chosen 69 = .ok (.istore_n 3, 1) := by decide +kernel
theorem dX9_chosen_70 : decode cX9_chosen 70 = .ok (.goto 20, 3) := by decide +kernel
theorem dX9_chosen_73 : decode cX9_chosen 73 = .ok (.iload_n 1, 1) := by decide +kernel
theorem dX9_chosen_74 : decode cX9_chosen 74 = .ok (.iconst (-1), 1) := by decide +kernel
theorem dX9_chosen_75 : decode cX9_chosen 75 = .ok (.if_icmp .eq 9, 3) := by decide +kernel
theorem dX9_chosen_78 : decode cX9_chosen 78 = .ok (.iload 6, 2) := by decide +kernel
theorem dX9_chosen_80 : decode cX9_chosen 80 = .ok (.iload_n 2, 1) := by decide +kernel
theorem dX9_chosen_81 : decode cX9_chosen 81 = .ok (.if_icmp .ge 9, 3) := by decide +kernel
theorem dX9_chosen_84 : decode cX9_chosen 84 = .ok (.iload 5, 2) := by decide +kernel
theorem dX9_chosen_86 : decode cX9_chosen 86 = .ok (.istore_n 1, 1) := by decide +kernel
theorem dX9_chosen_87 : decode cX9_chosen 87 = .ok (.iload 6, 2) := by decide +kernel
theorem dX9_chosen_89 : decode cX9_chosen 89 = .ok (.istore_n 2, 1) := by decide +kernel
theorem dX9_chosen_90 : decode cX9_chosen 90 = .ok (.iinc 5 1, 3) := by decide +kernel
theorem dX9_chosen_93 : decode cX9_chosen 93 = .ok (.goto (-80), 3) := by decide +kernel
theorem dX9_chosen_96 : decode cX9_chosen 96 = .ok (.iload_n 1, 1) := by decide +kernel
theorem dX9_chosen_97 : decode cX9_chosen 97 = .ok (.iconst (-1), 1) := by decide +kernel
theorem dX9_chosen_98 : decode cX9_chosen 98 = .ok (.if_icmp .eq 7, 3) := by decide +kernel
theorem dX9_chosen_101 : decode cX9_chosen 101 = .ok (.iload_n 1, 1) := by decide +kernel
theorem dX9_chosen_102 : decode cX9_chosen 102 = .ok (.goto 4, 3) := by decide +kernel
theorem dX9_chosen_105 : decode cX9_chosen 105 = .ok (.iload_n 3, 1) := by decide +kernel
theorem dX9_chosen_106 : decode cX9_chosen 106 = .ok (.ireturn, 1) := by decide +kernel
theorem dX9_chartByte_0 : decode cX9_chartByte 0 = .ok (.iload_n 2, 1) := by decide +kernel
theorem dX9_chartByte_1 : decode cX9_chartByte 1 = .ok (.aload_n 0, 1) := by decide +kernel
theorem dX9_chartByte_2 : decode cX9_chartByte 2 = .ok (.getfield 33, 3) := by decide +kernel
theorem dX9_chartByte_5 : decode cX9_chartByte 5 = .ok (.getfield 169, 3) := by decide +kernel
theorem dX9_chartByte_8 : decode cX9_chartByte 8 = .ok (.if_icmp .ne 6, 3) := by decide +kernel
theorem dX9_chartByte_11 : decode cX9_chartByte 11 = .ok (.bipush 10, 2) := by decide +kernel
theorem dX9_chartByte_13 : decode cX9_chartByte 13 = .ok (.ireturn, 1) := by decide +kernel
theorem dX9_chartByte_14 : decode cX9_chartByte 14 = .ok (.iconst 0, 1) := by decide +kernel
theorem dX9_chartByte_15 : decode cX9_chartByte 15 = .ok (.istore_n 3, 1) := by decide +kernel
theorem dX9_chartByte_16 : decode cX9_chartByte 16 = .ok (.iload_n 3, 1) := by decide +kernel
theorem dX9_chartByte_17 : decode cX9_chartByte 17 = .ok (.aload_n 0, 1) := by decide +kernel
theorem dX9_chartByte_18 : decode cX9_chartByte 18 = .ok (.getfield 19, 3) := by decide +kernel
theorem dX9_chartByte_21 : decode cX9_chartByte 21 = .ok (.getfield 120, 3) := by decide +kernel
theorem dX9_chartByte_24 : decode cX9_chartByte 24 = .ok (.if_icmp .ge 95, 3) := by decide +kernel
theorem dX9_chartByte_27 : decode cX9_chartByte 27 = .ok (.aload_n 0, 1) := by decide +kernel
theorem dX9_chartByte_28 : decode cX9_chartByte 28 = .ok (.getfield 33, 3) := by decide +kernel
theorem dX9_chartByte_31 : decode cX9_chartByte 31 = .ok (.getfield 172, 3) := by decide +kernel
theorem dX9_chartByte_34 : decode cX9_chartByte 34 = .ok (.iload_n 3, 1) := by decide +kernel
theorem dX9_chartByte_35 : decode cX9_chartByte 35 = .ok (.iaload, 1) := by decide +kernel
theorem dX9_chartByte_36 : decode cX9_chartByte 36 = .ok (.iload_n 2, 1) := by decide +kernel
theorem dX9_chartByte_37 : decode cX9_chartByte 37 = .ok (.if_icmp .gt 7, 3) := by decide +kernel
theorem dX9_chartByte_40 : decode cX9_chartByte 40 = .ok (.iconst 1, 1) := by decide +kernel
theorem dX9_chartByte_41 : decode cX9_chartByte 41 = .ok (.goto 4, 3) := by decide +kernel
theorem dX9_chartByte_44 : decode cX9_chartByte 44 = .ok (.iconst 0, 1) := by decide +kernel
theorem dX9_chartByte_45 : decode cX9_chartByte 45 = .ok (.istore 4, 2) := by decide +kernel
theorem dX9_chartByte_47 : decode cX9_chartByte 47 = .ok (.aload_n 0, 1) := by decide +kernel
theorem dX9_chartByte_48 : decode cX9_chartByte 48 = .ok (.getfield 33, 3) := by decide +kernel
theorem dX9_chartByte_51 : decode cX9_chartByte 51 = .ok (.getfield 172, 3) := by decide +kernel
theorem dX9_chartByte_54 : decode cX9_chartByte 54 = .ok (.iload_n 3, 1) := by decide +kernel
theorem dX9_chartByte_55 : decode cX9_chartByte 55 = .ok (.iaload, 1) := by decide +kernel
theorem dX9_chartByte_56 : decode cX9_chartByte 56 = .ok (.aload_n 0, 1) := by decide +kernel
theorem dX9_chartByte_57 : decode cX9_chartByte 57 = .ok (.getfield 19, 3) := by decide +kernel
theorem dX9_chartByte_60 : decode cX9_chartByte 60 = .ok (.getfield 136, 3) := by decide +kernel
theorem dX9_chartByte_63 : decode cX9_chartByte 63 = .ok (.iload_n 3, 1) := by decide +kernel
theorem dX9_chartByte_64 : decode cX9_chartByte 64 = .ok (.iaload, 1) := by decide +kernel
theorem dX9_chartByte_65 : decode cX9_chartByte 65 = .ok (.iadd, 1) := by decide +kernel
theorem dX9_chartByte_66 : decode cX9_chartByte 66 = .ok (.iload_n 2, 1) := by decide +kernel
theorem dX9_chartByte_67 : decode cX9_chartByte 67 = .ok (.if_icmp .gt 7, 3) := by decide +kernel
theorem dX9_chartByte_70 : decode cX9_chartByte 70 = .ok (.iconst 1, 1) := by decide +kernel
theorem dX9_chartByte_71 : decode cX9_chartByte 71 = .ok (.goto 4, 3) := by decide +kernel
theorem dX9_chartByte_74 : decode cX9_chartByte 74 = .ok (.iconst 0, 1) := by decide +kernel
theorem dX9_chartByte_75 : decode cX9_chartByte 75 = .ok (.istore 5, 2) := by decide +kernel
theorem dX9_chartByte_77 : decode cX9_chartByte 77 = .ok (.aload_n 0, 1) := by decide +kernel
theorem dX9_chartByte_78 : decode cX9_chartByte 78 = .ok (.getfield 19, 3) := by decide +kernel
theorem dX9_chartByte_81 : decode cX9_chartByte 81 = .ok (.getfield 133, 3) := by decide +kernel
theorem dX9_chartByte_84 : decode cX9_chartByte 84 = .ok (.iload_n 3, 1) := by decide +kernel
theorem dX9_chartByte_85 : decode cX9_chartByte 85 = .ok (.iaload, 1) := by decide +kernel
theorem dX9_chartByte_86 : decode cX9_chartByte 86 = .ok (.iload_n 1, 1) := by decide +kernel
theorem dX9_chartByte_87 : decode cX9_chartByte 87 = .ok (.if_icmp .ne 26, 3) := by decide +kernel
theorem dX9_chartByte_90 : decode cX9_chartByte 90 = .ok (.iload 4, 2) := by decide +kernel
theorem dX9_chartByte_92 : decode cX9_chartByte 92 = .ok (.ifCond .eq 21, 3) := by decide +kernel
theorem dX9_chartByte_95 : decode cX9_chartByte 95 = .ok (.iload 5, 2) := by decide +kernel
theorem dX9_chartByte_97 : decode cX9_chartByte 97 = .ok (.ifCond .ne 16, 3) := by decide +kernel
theorem dX9_chartByte_100 : decode cX9_chartByte 100 = .ok (.bipush 48, 2) := by decide +kernel
theorem dX9_chartByte_102 : decode cX9_chartByte 102 = .ok (.aload_n 0, 1) := by decide +kernel
theorem dX9_chartByte_103 : decode cX9_chartByte 103 = .ok (.getfield 19, 3) := by decide +kernel
theorem dX9_chartByte_106 : decode cX9_chartByte 106 = .ok (.getfield 127, 3) := by decide +kernel
theorem dX9_chartByte_109 : decode cX9_chartByte 109 = .ok (.iload_n 3, 1) := by decide +kernel
theorem dX9_chartByte_110 : decode cX9_chartByte 110 = .ok (.iaload, 1) := by decide +kernel
theorem dX9_chartByte_111 : decode cX9_chartByte 111 = .ok (.iadd, 1) := by decide +kernel
theorem dX9_chartByte_112 : decode cX9_chartByte 112 = .ok (.ireturn, 1) := by decide +kernel
theorem dX9_chartByte_113 : decode cX9_chartByte 113 = .ok (.iinc 3 1, 3) := by decide +kernel
theorem dX9_chartByte_116 : decode cX9_chartByte 116 = .ok (.goto (-100), 3) := by decide +kernel
theorem dX9_chartByte_119 : decode cX9_chartByte 119 = .ok (.bipush 46, 2) := by decide +kernel
theorem dX9_chartByte_121 : decode cX9_chartByte 121 = .ok (.ireturn, 1) := by decide +kernel
theorem dX9_nextOrder_0 : decode cX9_nextOrder 0 = .ok (.iload_n 2, 1) := by decide +kernel
theorem dX9_nextOrder_1 : decode cX9_nextOrder 1 = .ok (.iconst 2, 1) := by decide +kernel
theorem dX9_nextOrder_2 : decode cX9_nextOrder 2 = .ok (.isub, 1) := by decide +kernel
theorem dX9_nextOrder_3 : decode cX9_nextOrder 3 = .ok (.istore_n 3, 1) := by decide +kernel
theorem dX9_nextOrder_4 : decode cX9_nextOrder 4 = .ok (.iload_n 3, 1) := by decide +kernel
theorem dX9_nextOrder_5 : decode cX9_nextOrder 5 = .ok (.iload_n 1, 1) := by decide +kernel
theorem dX9_nextOrder_6 : decode cX9_nextOrder 6 = .ok (.if_icmp .lt 20, 3) := by decide +kernel
theorem dX9_nextOrder_9 : decode cX9_nextOrder 9 = .ok (.aload_n 0, 1) := by decide +kernel
theorem dX9_nextOrder_10 : decode cX9_nextOrder 10 = .ok (.iload_n 3, 1) := by decide +kernel
theorem dX9_nextOrder_11 : decode cX9_nextOrder 11 = .ok (.iaload, 1) := by decide +kernel
theorem dX9_nextOrder_12 : decode cX9_nextOrder 12 = .ok (.aload_n 0, 1) := by decide +kernel
theorem dX9_nextOrder_13 : decode cX9_nextOrder 13 = .ok (.iload_n 3, 1) := by decide +kernel
theorem dX9_nextOrder_14 : decode cX9_nextOrder 14 = .ok (.iconst 1, 1) := by decide +kernel
theorem dX9_nextOrder_15 : decode cX9_nextOrder 15 = .ok (.iadd, 1) := by decide +kernel
theorem dX9_nextOrder_16 : decode cX9_nextOrder 16 = .ok (.iaload, 1) := by decide +kernel
theorem dX9_nextOrder_17 : decode cX9_nextOrder 17 = .ok (.if_icmp .le 9, 3) := by decide +kernel
theorem dX9_nextOrder_20 : decode cX9_nextOrder 20 = .ok (.iinc 3 (-1), 3) := by decide +kernel
theorem dX9_nextOrder_23 : decode cX9_nextOrder 23 = .ok (.goto (-19), 3) := by decide +kernel
theorem dX9_nextOrder_26 : decode cX9_nextOrder 26 = .ok (.iload_n 3, 1) := by decide +kernel
theorem dX9_nextOrder_27 : decode cX9_nextOrder 27 = .ok (.iload_n 1, 1) := by decide +kernel
theorem dX9_nextOrder_28 : decode cX9_nextOrder 28 = .ok (.if_icmp .lt 48, 3) := by decide +kernel
theorem dX9_nextOrder_31 : decode cX9_nextOrder 31 = .ok (.iload_n 2, 1) := by decide +kernel
theorem dX9_nextOrder_32 : decode cX9_nextOrder 32 = .ok (.iconst 1, 1) := by decide +kernel
theorem dX9_nextOrder_33 : decode cX9_nextOrder 33 = .ok (.isub, 1) := by decide +kernel
theorem dX9_nextOrder_34 : decode cX9_nextOrder 34 = .ok (.istore 4, 2) := by decide +kernel
theorem dX9_nextOrder_36 : decode cX9_nextOrder 36 = .ok (.iload 4, 2) := by decide +kernel
theorem dX9_nextOrder_38 : decode cX9_nextOrder 38 = .ok (.iload_n 3, 1) := by decide +kernel
theorem dX9_nextOrder_39 : decode cX9_nextOrder 39 = .ok (.if_icmp .le 19, 3) := by decide +kernel
theorem dX9_nextOrder_42 : decode cX9_nextOrder 42 = .ok (.aload_n 0, 1) := by decide +kernel
theorem dX9_nextOrder_43 : decode cX9_nextOrder 43 = .ok (.iload 4, 2) := by decide +kernel
theorem dX9_nextOrder_45 : decode cX9_nextOrder 45 = .ok (.iaload, 1) := by decide +kernel
theorem dX9_nextOrder_46 : decode cX9_nextOrder 46 = .ok (.aload_n 0, 1) := by decide +kernel
theorem dX9_nextOrder_47 : decode cX9_nextOrder 47 = .ok (.iload_n 3, 1) := by decide +kernel
theorem dX9_nextOrder_48 : decode cX9_nextOrder 48 = .ok (.iaload, 1) := by decide +kernel
theorem dX9_nextOrder_49 : decode cX9_nextOrder 49 = .ok (.if_icmp .ge 9, 3) := by decide +kernel
theorem dX9_nextOrder_52 : decode cX9_nextOrder 52 = .ok (.iinc 4 (-1), 3) := by decide +kernel
theorem dX9_nextOrder_55 : decode cX9_nextOrder 55 = .ok (.goto (-19), 3) := by decide +kernel
theorem dX9_nextOrder_58 : decode cX9_nextOrder 58 = .ok (.aload_n 0, 1) := by decide +kernel
theorem dX9_nextOrder_59 : decode cX9_nextOrder 59 = .ok (.iload_n 3, 1) := by decide +kernel
theorem dX9_nextOrder_60 : decode cX9_nextOrder 60 = .ok (.iaload, 1) := by decide +kernel
theorem dX9_nextOrder_61 : decode cX9_nextOrder 61 = .ok (.istore 5, 2) := by decide +kernel
theorem dX9_nextOrder_63 : decode cX9_nextOrder 63 = .ok (.aload_n 0, 1) := by decide +kernel
theorem dX9_nextOrder_64 : decode cX9_nextOrder 64 = .ok (.iload_n 3, 1) := by decide +kernel
theorem dX9_nextOrder_65 : decode cX9_nextOrder 65 = .ok (.aload_n 0, 1) := by decide +kernel
theorem dX9_nextOrder_66 : decode cX9_nextOrder 66 = .ok (.iload 4, 2) := by decide +kernel
theorem dX9_nextOrder_68 : decode cX9_nextOrder 68 = .ok (.iaload, 1) := by decide +kernel
theorem dX9_nextOrder_69 : decode cX9_nextOrder 69 = .ok (.iastore, 1) := by decide +kernel
theorem dX9_nextOrder_70 : decode cX9_nextOrder 70 = .ok (.aload_n 0, 1) := by decide +kernel
theorem dX9_nextOrder_71 : decode cX9_nextOrder 71 = .ok (.iload 4, 2) := by decide +kernel
theorem dX9_nextOrder_73 : decode cX9_nextOrder 73 = .ok (.iload 5, 2) := by decide +kernel
theorem dX9_nextOrder_75 : decode cX9_nextOrder 75 = .ok (.iastore, 1) := by decide +kernel
theorem dX9_nextOrder_76 : decode cX9_nextOrder 76 = .ok (.iload_n 3, 1) := by decide +kernel
theorem dX9_nextOrder_77 : decode cX9_nextOrder 77 = .ok (.iload_n 1, 1) := by decide +kernel
theorem dX9_nextOrder_78 : decode cX9_nextOrder 78 = .ok (.iconst 1, 1) := by decide +kernel
theorem dX9_nextOrder_79 : decode cX9_nextOrder 79 = .ok (.isub, 1) := by decide +kernel
theorem dX9_nextOrder_80 : decode cX9_nextOrder 80 = .ok (.invokestatic 254, 3) := by decide +kernel
theorem dX9_nextOrder_83 : decode cX9_nextOrder 83 = .ok (.iconst 1, 1) := by decide +kernel
theorem dX9_nextOrder_84 : decode cX9_nextOrder 84 = .ok (.iadd, 1) := by decide +kernel
theorem dX9_nextOrder_85 : decode cX9_nextOrder 85 = .ok (.istore 4, 2) := by decide +kernel
theorem dX9_nextOrder_87 : decode cX9_nextOrder 87 = .ok (.iload_n 2, 1) := by decide +kernel
theorem dX9_nextOrder_88 : decode cX9_nextOrder 88 = .ok (.iconst 1, 1) := by decide +kernel
theorem dX9_nextOrder_89 : decode cX9_nextOrder 89 = .ok (.isub, 1) := by decide +kernel
theorem dX9_nextOrder_90 : decode cX9_nextOrder 90 = .ok (.istore 5, 2) := by decide +kernel
theorem dX9_nextOrder_92 : decode cX9_nextOrder 92 = .ok (.iload 4, 2) := by decide +kernel
theorem dX9_nextOrder_94 : decode cX9_nextOrder 94 = .ok (.iload 5, 2) := by decide +kernel
theorem dX9_nextOrder_96 : decode cX9_nextOrder 96 = .ok (.if_icmp .ge 32, 3) := by decide +kernel
theorem dX9_nextOrder_99 : decode cX9_nextOrder 99 = .ok (.aload_n 0, 1) := by decide +kernel
theorem dX9_nextOrder_100 : decode cX9_nextOrder 100 = .ok (.iload 4, 2) := by decide +kernel
theorem dX9_nextOrder_102 : decode cX9_nextOrder 102 = .ok (.iaload, 1) := by decide +kernel
theorem dX9_nextOrder_103 : decode cX9_nextOrder 103 = .ok (.istore 6, 2) := by decide +kernel
theorem dX9_nextOrder_105 : decode cX9_nextOrder 105 = .ok (.aload_n 0, 1) := by decide +kernel
theorem dX9_nextOrder_106 : decode cX9_nextOrder 106 = .ok (.iload 4, 2) := by decide +kernel
theorem dX9_nextOrder_108 : decode cX9_nextOrder 108 = .ok (.aload_n 0, 1) := by decide +kernel
theorem dX9_nextOrder_109 : decode cX9_nextOrder 109 = .ok (.iload 5, 2) := by decide +kernel
theorem dX9_nextOrder_111 : decode cX9_nextOrder 111 = .ok (.iaload, 1) := by decide +kernel
theorem dX9_nextOrder_112 : decode cX9_nextOrder 112 = .ok (.iastore, 1) := by decide +kernel
theorem dX9_nextOrder_113 : decode cX9_nextOrder 113 = .ok (.aload_n 0, 1) := by decide +kernel
theorem dX9_nextOrder_114 : decode cX9_nextOrder 114 = .ok (.iload 5, 2) := by decide +kernel
theorem dX9_nextOrder_116 : decode cX9_nextOrder 116 = .ok (.iload 6, 2) := by decide +kernel
theorem dX9_nextOrder_118 : decode cX9_nextOrder 118 = .ok (.iastore, 1) := by decide +kernel
theorem dX9_nextOrder_119 : decode cX9_nextOrder 119 = .ok (.iinc 4 1, 3) := by decide +kernel
theorem dX9_nextOrder_122 : decode cX9_nextOrder 122 = .ok (.iinc 5 (-1), 3) := by decide +kernel
theorem dX9_nextOrder_125 : decode cX9_nextOrder 125 = .ok (.goto (-33), 3) := by decide +kernel
theorem dX9_nextOrder_128 : decode cX9_nextOrder 128 = .ok (.iload_n 3, 1) := by decide +kernel
theorem dX9_nextOrder_129 : decode cX9_nextOrder 129 = .ok (.iload_n 1, 1) := by decide +kernel
theorem dX9_nextOrder_130 : decode cX9_nextOrder 130 = .ok (.if_icmp .lt 7, 3) := by decide +kernel
theorem dX9_nextOrder_133 : decode cX9_nextOrder 133 = .ok (.iconst 1, 1) := by decide +kernel
theorem dX9_nextOrder_134 : decode cX9_nextOrder 134 = .ok (.goto 4, 3) := by decide +kernel
theorem dX9_nextOrder_137 : decode cX9_nextOrder 137 = .ok (.iconst 0, 1) := by decide +kernel
theorem dX9_nextOrder_138 : decode cX9_nextOrder 138 = .ok (.ireturn, 1) := by decide +kernel
theorem dX10_init_0 : decode cX10_init 0 = .ok (.aload_n 0, 1) := by decide +kernel
theorem dX10_init_1 : decode cX10_init 1 = .ok (.invokespecial 3, 3) := by decide +kernel
theorem dX10_init_4 : decode cX10_init 4 = .ok (.aload_n 0, 1) := by decide +kernel
theorem dX10_init_5 : decode cX10_init 5 = .ok (.bipush 24, 2) := by decide +kernel
theorem dX10_init_7 : decode cX10_init 7 = .ok (.newarray .int, 2) := by decide +kernel
theorem dX10_init_9 : decode cX10_init 9 = .ok (.putfield 9, 3) := by decide +kernel
theorem dX10_init_12 : decode cX10_init 12 = .ok (.aload_n 0, 1) := by decide +kernel
theorem dX10_init_13 : decode cX10_init 13 = .ok (.bipush 24, 2) := by decide +kernel
theorem dX10_init_15 : decode cX10_init 15 = .ok (.newarray .int, 2) := by decide +kernel
theorem dX10_init_17 : decode cX10_init 17 = .ok (.putfield 13, 3) := by decide +kernel
theorem dX10_init_20 : decode cX10_init 20 = .ok (.aload_n 0, 1) := by decide +kernel
theorem dX10_init_21 : decode cX10_init 21 = .ok (.bipush 24, 2) := by decide +kernel
theorem dX10_init_23 : decode cX10_init 23 = .ok (.newarray .int, 2) := by decide +kernel
theorem dX10_init_25 : decode cX10_init 25 = .ok (.putfield 16, 3) := by decide +kernel
theorem dX10_init_28 : decode cX10_init 28 = .ok (.aload_n 0, 1) := by decide +kernel
theorem dX10_init_29 : decode cX10_init 29 = .ok (.bipush 24, 2) := by decide +kernel
theorem dX10_init_31 : decode cX10_init 31 = .ok (.newarray .int, 2) := by decide +kernel
theorem dX10_init_33 : decode cX10_init 33 = .ok (.putfield 19, 3) := by decide +kernel
theorem dX10_init_36 : decode cX10_init 36 = .ok (.aload_n 0, 1) := by decide +kernel
theorem dX10_init_37 : decode cX10_init 37 = .ok (.bipush 120, 2) := by decide +kernel
theorem dX10_init_39 : decode cX10_init 39 = .ok (.newarray .int, 2) := by decide +kernel
theorem dX10_init_41 : decode cX10_init 41 = .ok (.putfield 22, 3) := by decide +kernel
theorem dX10_init_44 : decode cX10_init 44 = .ok (.aload_n 0, 1) := by decide +kernel
theorem dX10_init_45 : decode cX10_init 45 = .ok (.iconst 5, 1) := by decide +kernel
theorem dX10_init_46 : decode cX10_init 46 = .ok (.newarray .int, 2) := by decide +kernel
theorem dX10_init_48 : decode cX10_init 48 = .ok (.putfield 25, 3) := by decide +kernel
theorem dX10_init_51 : decode cX10_init 51 = .ok (.aload_n 0, 1) := by decide +kernel
theorem dX10_init_52 : decode cX10_init 52 = .ok (.sipush 140, 3) := by decide +kernel
theorem dX10_init_55 : decode cX10_init 55 = .ok (.newarray .int, 2) := by decide +kernel
theorem dX10_init_57 : decode cX10_init 57 = .ok (.putfield 28, 3) := by decide +kernel
theorem dX10_init_60 : decode cX10_init 60 = .ok (.aload_n 0, 1) := by decide +kernel
theorem dX10_init_61 : decode cX10_init 61 = .ok (.bipush 24, 2) := by decide +kernel
theorem dX10_init_63 : decode cX10_init 63 = .ok (.newarray .int, 2) := by decide +kernel
theorem dX10_init_65 : decode cX10_init 65 = .ok (.putfield 31, 3) := by decide +kernel
theorem dX10_init_68 : decode cX10_init 68 = .ok (.aload_n 0, 1) := by decide +kernel
theorem dX10_init_69 : decode cX10_init 69 = .ok (.bipush 24, 2) := by decide +kernel
theorem dX10_init_71 : decode cX10_init 71 = .ok (.newarray .int, 2) := by decide +kernel
theorem dX10_init_73 : decode cX10_init 73 = .ok (.putfield 34, 3) := by decide +kernel
theorem dX10_init_76 : decode cX10_init 76 = .ok (.aload_n 0, 1) := by decide +kernel
theorem dX10_init_77 : decode cX10_init 77 = .ok (.bipush 24, 2) := by decide +kernel
theorem dX10_init_79 : decode cX10_init 79 = .ok (.newarray .int, 2) := by decide +kernel
theorem dX10_init_81 : decode cX10_init 81 = .ok (.putfield 37, 3) := by decide +kernel
theorem dX10_init_84 : decode cX10_init 84 = .ok (.aload_n 0, 1) := by decide +kernel
theorem dX10_init_85 : decode cX10_init 85 = .ok (.sipush 2040, 3) := by decide +kernel
theorem dX10_init_88 : decode cX10_init 88 = .ok (.newarray .int, 2) := by decide +kernel
theorem dX10_init_90 : decode cX10_init 90 = .ok (.putfield 40, 3) := by decide +kernel
theorem dX10_init_93 : decode cX10_init 93 = .ok (.aload_n 0, 1) := by decide +kernel
theorem dX10_init_94 : decode cX10_init 94 = .ok (.bipush 24, 2) := by decide +kernel
theorem dX10_init_96 : decode cX10_init 96 = .ok (.newarray .int, 2) := by decide +kernel
theorem dX10_init_98 : decode cX10_init 98 = .ok (.putfield 43, 3) := by decide +kernel
theorem dX10_init_101 : decode cX10_init 101 = .ok (.aload_n 0, 1) := by decide +kernel
theorem dX10_init_102 : decode cX10_init 102 = .ok (.bipush 24, 2) := by decide +kernel
theorem dX10_init_104 : decode cX10_init 104 = .ok (.newarray .int, 2) := by decide +kernel
theorem dX10_init_106 : decode cX10_init 106 = .ok (.putfield 46, 3) := by decide +kernel
theorem dX10_init_109 : decode cX10_init 109 = .ok (.aload_n 0, 1) := by decide +kernel
theorem dX10_init_110 : decode cX10_init 110 = .ok (.bipush 24, 2) := by decide +kernel
theorem dX10_init_112 : decode cX10_init 112 = .ok (.newarray .int, 2) := by decide +kernel
theorem dX10_init_114 : decode cX10_init 114 = .ok (.putfield 49, 3) := by decide +kernel
theorem dX10_init_117 : decode cX10_init 117 = .ok (.aload_n 0, 1) := by decide +kernel
theorem dX10_init_118 : decode cX10_init 118 = .ok (.bipush 24, 2) := by decide +kernel
theorem dX10_init_120 : decode cX10_init 120 = .ok (.newarray .int, 2) := by decide +kernel
theorem dX10_init_122 : decode cX10_init 122 = .ok (.putfield 52, 3) := by decide +kernel
theorem dX10_init_125 : decode cX10_init 125 = .ok (.aload_n 0, 1) := by decide +kernel
theorem dX10_init_126 : decode cX10_init 126 = .ok (.bipush 24, 2) := by decide +kernel
theorem dX10_init_128 : decode cX10_init 128 = .ok (.newarray .int, 2) := by decide +kernel
theorem dX10_init_130 : decode cX10_init 130 = .ok (.putfield 55, 3) := by decide +kernel
theorem dX10_init_133 : decode cX10_init 133 = .ok (.aload_n 0, 1) := by decide +kernel
theorem dX10_init_134 : decode cX10_init 134 = .ok (.bipush 24, 2) := by decide +kernel
theorem dX10_init_136 : decode cX10_init 136 = .ok (.newarray .boolean, 2) := by decide +kernel
theorem dX10_init_138 : decode cX10_init 138 = .ok (.putfield 58, 3) := by decide +kernel
theorem dX10_init_141 : decode cX10_init 141 = .ok (.aload_n 0, 1) := by decide +kernel
theorem dX10_init_142 : decode cX10_init 142 = .ok (.bipush 24, 2) := by decide +kernel
theorem dX10_init_144 : decode cX10_init 144 = .ok (.newarray .int, 2) := by decide +kernel
theorem dX10_init_146 : decode cX10_init 146 = .ok (.putfield 62, 3) := by decide +kernel
theorem dX10_init_149 : decode cX10_init 149 = .ok (.aload_n 0, 1) := by decide +kernel
theorem dX10_init_150 : decode cX10_init 150 = .ok (.bipush 25, 2) := by decide +kernel
theorem dX10_init_152 : decode cX10_init 152 = .ok (.newarray .int, 2) := by decide +kernel
theorem dX10_init_154 : decode cX10_init 154 = .ok (.putfield 65, 3) := by decide +kernel
theorem dX10_init_157 : decode cX10_init 157 = .ok (.aload_n 0, 1) := by decide +kernel
theorem dX10_init_158 : decode cX10_init 158 = .ok (.bipush 48, 2) := by decide +kernel
theorem dX10_init_160 : decode cX10_init 160 = .ok (.newarray .int, 2) := by decide +kernel
theorem dX10_init_162 : decode cX10_init 162 = .ok (.putfield 68, 3) := by decide +kernel
theorem dX10_init_165 : decode cX10_init 165 = .ok (.aload_n 0, 1) := by decide +kernel
theorem dX10_init_166 : decode cX10_init 166 = .ok (.bipush 48, 2) := by decide +kernel
theorem dX10_init_168 : decode cX10_init 168 = .ok (.newarray .int, 2) := by decide +kernel
theorem dX10_init_170 : decode cX10_init 170 = .ok (.putfield 71, 3) := by decide +kernel
theorem dX10_init_173 : decode cX10_init 173 = .ok (.aload_n 0, 1) := by decide +kernel
theorem dX10_init_174 : decode cX10_init 174 = .ok (.iconst 4, 1) := by decide +kernel
theorem dX10_init_175 : decode cX10_init 175 = .ok (.putfield 74, 3) := by decide +kernel
theorem dX10_init_178 : decode cX10_init 178 = .ok (.aload_n 0, 1) := by decide +kernel
theorem dX10_init_179 : decode cX10_init 179 = .ok (.bipush 10, 2) := by decide +kernel
theorem dX10_init_181 : decode cX10_init 181 = .ok (.newarray .int, 2) := by decide +kernel
theorem dX10_init_183 : decode cX10_init 183 = .ok (.putfield 78, 3) := by decide +kernel
theorem dX10_init_186 : decode cX10_init 186 = .ok (.aload_n 0, 1) := by decide +kernel
theorem dX10_init_187 : decode cX10_init 187 = .ok (.bipush 120, 2) := by decide +kernel
theorem dX10_init_189 : decode cX10_init 189 = .ok (.newarray .int, 2) := by decide +kernel
theorem dX10_init_191 : decode cX10_init 191 = .ok (.putfield 81, 3) := by decide +kernel
theorem dX10_init_194 : decode cX10_init 194 = .ok (.aload_n 0, 1) := by decide +kernel
theorem dX10_init_195 : decode cX10_init 195 = .ok (.bipush 48, 2) := by decide +kernel
theorem dX10_init_197 : decode cX10_init 197 = .ok (.newarray .int, 2) := by decide +kernel
theorem dX10_init_199 : decode cX10_init 199 = .ok (.putfield 84, 3) := by decide +kernel
theorem dX10_init_202 : decode cX10_init 202 = .ok (.aload_n 0, 1) := by decide +kernel
theorem dX10_init_203 : decode cX10_init 203 = .ok (.bipush 6, 2) := by decide +kernel
theorem dX10_init_205 : decode cX10_init 205 = .ok (.newarray .int, 2) := by decide +kernel
theorem dX10_init_207 : decode cX10_init 207 = .ok (.putfield 87, 3) := by decide +kernel
theorem dX10_init_210 : decode cX10_init 210 = .ok (.aload_n 0, 1) := by decide +kernel
theorem dX10_init_211 : decode cX10_init 211 = .ok (.bipush 6, 2) := by decide +kernel
theorem dX10_init_213 : decode cX10_init 213 = .ok (.newarray .int, 2) := by decide +kernel
theorem dX10_init_215 : decode cX10_init 215 = .ok (.putfield 90, 3) := by decide +kernel
theorem dX10_init_218 : decode cX10_init 218 = .ok (.aload_n 0, 1) := by decide +kernel
theorem dX10_init_219 : decode cX10_init 219 = .ok (.iconst 5, 1) := by decide +kernel
theorem dX10_init_220 : decode cX10_init 220 = .ok (.newarray .int, 2) := by decide +kernel
theorem dX10_init_222 : decode cX10_init 222 = .ok (.putfield 93, 3) := by decide +kernel
theorem dX10_init_225 : decode cX10_init 225 = .ok (.aload_n 0, 1) := by decide +kernel
theorem dX10_init_226 : decode cX10_init 226 = .ok (.bipush 24, 2) := by decide +kernel
theorem dX10_init_228 : decode cX10_init 228 = .ok (.newarray .int, 2) := by decide +kernel
theorem dX10_init_230 : decode cX10_init 230 = .ok (.putfield 96, 3) := by decide +kernel
theorem dX10_init_233 : decode cX10_init 233 = .ok (.aload_n 0, 1) := by decide +kernel
theorem dX10_init_234 : decode cX10_init 234 = .ok (.bipush 24, 2) := by decide +kernel
theorem dX10_init_236 : decode cX10_init 236 = .ok (.newarray .int, 2) := by decide +kernel
theorem dX10_init_238 : decode cX10_init 238 = .ok (.putfield 99, 3) := by decide +kernel
theorem dX10_init_241 : decode cX10_init 241 = .ok (.aload_n 0, 1) := by decide +kernel
theorem dX10_init_242 : decode cX10_init 242 = .ok (.sipush 223, 3) := by decide +kernel
theorem dX10_init_245 : decode cX10_init 245 = .ok (.newarray .int, 2) := by decide +kernel
theorem dX10_init_247 : decode cX10_init 247 = .ok (.putfield 102, 3) := by decide +kernel
theorem dX10_init_250 : decode cX10_init 250 = .ok (.return_, 1) := by decide +kernel
theorem dX10_in_0 : decode cX10_in 0 = .ok (.iload_n 0, 1) := by decide +kernel
theorem dX10_in_1 : decode cX10_in 1 = .ok (.iload_n 1, 1) := by decide +kernel
theorem dX10_in_2 : decode cX10_in 2 = .ok (.if_icmp .lt 12, 3) := by decide +kernel
theorem dX10_in_5 : decode cX10_in 5 = .ok (.iload_n 0, 1) := by decide +kernel
theorem dX10_in_6 : decode cX10_in 6 = .ok (.iload_n 2, 1) := by decide +kernel
theorem dX10_in_7 : decode cX10_in 7 = .ok (.if_icmp .gt 7, 3) := by decide +kernel
theorem dX10_in_10 : decode cX10_in 10 = .ok (.iconst 1, 1) := by decide +kernel
theorem dX10_in_11 : decode cX10_in 11 = .ok (.goto 4, 3) := by decide +kernel
theorem dX10_in_14 : decode cX10_in 14 = .ok (.iconst 0, 1) := by decide +kernel
theorem dX10_in_15 : decode cX10_in 15 = .ok (.ireturn, 1) := by decide +kernel
theorem dX10_isTask_0 : decode cX10_isTask 0 = .ok (.iload_n 1, 1) := by decide +kernel
theorem dX10_isTask_1 : decode cX10_isTask 1 = .ok (.iconst 0, 1) := by decide +kernel
theorem dX10_isTask_2 : decode cX10_isTask 2 = .ok (.aload_n 0, 1) := by decide +kernel
theorem dX10_isTask_3 : decode cX10_isTask 3 = .ok (.getfield 105, 3) := by decide +kernel
theorem dX10_isTask_6 : decode cX10_isTask 6 = .ok (.iconst 1, 1) := by decide +kernel
theorem dX10_isTask_7 : decode cX10_isTask 7 = .ok (.isub, 1) := by decide +kernel
theorem dX10_isTask_8 : decode cX10_isTask 8 = .ok (.invokestatic 108, 3) := by decide +kernel
theorem dX10_isTask_11 : decode cX10_isTask 11 = .ok (.ireturn, 1) := by decide +kernel
theorem dX10_isMachine_0 : decode cX10_isMachine 0 = .ok (.iload_n 0, 1) := by decide +kernel
theorem dX10_isMachine_1 : decode cX10_isMachine 1 = .ok (.iconst 0, 1) := by decide +kernel
theorem dX10_isMachine_2 : decode cX10_isMachine 2 = .ok (.iconst 4, 1) := by decide +kernel
theorem dX10_isMachine_3 : decode cX10_isMachine 3 = .ok (.invokestatic 108, 3) := by decide +kernel
theorem dX10_isMachine_6 : decode cX10_isMachine 6 = .ok (.ireturn, 1) := by decide +kernel
theorem dX10_feed_0 : decode cX10_feed 0 = .ok (.iload_n 1, 1) := by decide +kernel
theorem dX10_feed_1 : decode cX10_feed 1 = .ok (.bipush 32, 2) := by decide +kernel
end
section
theorem dX10_feed_3 : decode cX10_feed 3 = .ok (.bipush 126, 2) := by decide +kernel
theorem dX10_feed_5 : decode cX10_feed 5 = .ok (.invokestatic 108, 3) := by decide +kernel
theorem dX10_feed_8 : decode cX10_feed 8 = .ok (.ifCond .ne 5, 3) := by decide +kernel
theorem dX10_feed_11 : decode cX10_feed 11 = .ok (.iconst (-1), 1) := by decide +kernel
theorem dX10_feed_12 : decode cX10_feed 12 = .ok (.ireturn, 1) := by decide +kernel
theorem dX10_feed_13 : decode cX10_feed 13 = .ok (.aload_n 0, 1) := by decide +kernel
theorem dX10_feed_14 : decode cX10_feed 14 = .ok (.getfield 112, 3) := by decide +kernel
theorem dX10_feed_17 : decode cX10_feed 17 = .ok (.sipush 140, 3) := by decide +kernel
theorem dX10_feed_20 : decode cX10_feed 20 = .ok (.if_icmp .ne 6, 3) := by decide +kernel
theorem dX10_feed_23 : decode cX10_feed 23 = .ok (.bipush (-3), 2) := by decide +kernel
theorem dX10_feed_25 : decode cX10_feed 25 = .ok (.ireturn, 1) := by decide +kernel
theorem dX10_feed_26 : decode cX10_feed 26 = .ok (.aload_n 0, 1) := by decide +kernel
theorem dX10_feed_27 : decode cX10_feed 27 = .ok (.getfield 28, 3) := by decide +kernel
theorem dX10_feed_30 : decode cX10_feed 30 = .ok (.aload_n 0, 1) := by decide +kernel
theorem dX10_feed_31 : decode cX10_feed 31 = .ok (.getfield 112, 3) := by decide +kernel
theorem dX10_feed_34 : decode cX10_feed 34 = .ok (.iload_n 1, 1) := by decide +kernel
theorem dX10_feed_35 : decode cX10_feed 35 = .ok (.iastore, 1) := by decide +kernel
theorem dX10_feed_36 : decode cX10_feed 36 = .ok (.aload_n 0, 1) := by decide +kernel
theorem dX10_feed_37 : decode cX10_feed 37 = .ok (.dup, 1) := by decide +kernel
theorem dX10_feed_38 : decode cX10_feed 38 = .ok (.getfield 112, 3) := by decide +kernel
theorem dX10_feed_41 : decode cX10_feed 41 = .ok (.iconst 1, 1) := by decide +kernel
theorem dX10_feed_42 : decode cX10_feed 42 = .ok (.iadd, 1) := by decide +kernel
theorem dX10_feed_43 : decode cX10_feed 43 = .ok (.putfield 112, 3) := by decide +kernel
theorem dX10_feed_46 : decode cX10_feed 46 = .ok (.aload_n 0, 1) := by decide +kernel
theorem dX10_feed_47 : decode cX10_feed 47 = .ok (.getfield 112, 3) := by decide +kernel
theorem dX10_feed_50 : decode cX10_feed 50 = .ok (.ireturn, 1) := by decide +kernel
theorem dX10_isFigure_0 : decode cX10_isFigure 0 = .ok (.aload_n 0, 1) := by decide +kernel
theorem dX10_isFigure_1 : decode cX10_isFigure 1 = .ok (.getfield 115, 3) := by decide +kernel
theorem dX10_isFigure_4 : decode cX10_isFigure 4 = .ok (.aload_n 0, 1) := by decide +kernel
theorem dX10_isFigure_5 : decode cX10_isFigure 5 = .ok (.getfield 112, 3) := by decide +kernel
theorem dX10_isFigure_8 : decode cX10_isFigure 8 = .ok (.if_icmp .ge 27, 3) := by decide +kernel
theorem dX10_isFigure_11 : decode cX10_isFigure 11 = .ok (.aload_n 0, 1) := by decide +kernel
theorem dX10_isFigure_12 : decode cX10_isFigure 12 = .ok (.getfield 28, 3) := by decide +kernel
theorem dX10_isFigure_15 : decode cX10_isFigure 15 = .ok (.aload_n 0, 1) := by decide +kernel
theorem dX10_isFigure_16 : decode cX10_isFigure 16 = .ok (.getfield 115, 3) := by decide +kernel
theorem dX10_isFigure_19 : decode cX10_isFigure 19 = .ok (.iaload, 1) := by decide +kernel
theorem dX10_isFigure_20 : decode cX10_isFigure 20 = .ok (.bipush 48, 2) := by decide +kernel
theorem dX10_isFigure_22 : decode cX10_isFigure 22 = .ok (.isub, 1) := by decide +kernel
theorem dX10_isFigure_23 : decode cX10_isFigure 23 = .ok (.iload_n 1, 1) := by decide +kernel
theorem dX10_isFigure_24 : decode cX10_isFigure 24 = .ok (.iload_n 2, 1) := by decide +kernel
theorem dX10_isFigure_25 : decode cX10_isFigure 25 = .ok (.invokestatic 108, 3) := by decide +kernel
theorem dX10_isFigure_28 : decode cX10_isFigure 28 = .ok (.ifCond .eq 7, 3) := by decide +kernel
theorem dX10_isFigure_31 : decode cX10_isFigure 31 = .ok (.iconst 1, 1) := by decide +kernel
theorem dX10_isFigure_32 : decode cX10_isFigure 32 = .ok (.goto 4, 3) := by decide +kernel
theorem dX10_isFigure_35 : decode cX10_isFigure 35 = .ok (.iconst 0, 1) := by decide +kernel
theorem dX10_isFigure_36 : decode cX10_isFigure 36 = .ok (.ireturn, 1) := by decide +kernel
theorem dX10_is_0 : decode cX10_is 0 = .ok (.aload_n 0, 1) := by decide +kernel
theorem dX10_is_1 : decode cX10_is 1 = .ok (.getfield 115, 3) := by decide +kernel
theorem dX10_is_4 : decode cX10_is 4 = .ok (.aload_n 0, 1) := by decide +kernel
theorem dX10_is_5 : decode cX10_is 5 = .ok (.getfield 112, 3) := by decide +kernel
theorem dX10_is_8 : decode cX10_is 8 = .ok (.if_icmp .ge 20, 3) := by decide +kernel
theorem dX10_is_11 : decode cX10_is 11 = .ok (.aload_n 0, 1) := by decide +kernel
theorem dX10_is_12 : decode cX10_is 12 = .ok (.getfield 28, 3) := by decide +kernel
theorem dX10_is_15 : decode cX10_is 15 = .ok (.aload_n 0, 1) := by decide +kernel
theorem dX10_is_16 : decode cX10_is 16 = .ok (.getfield 115, 3) := by decide +kernel
theorem dX10_is_19 : decode cX10_is 19 = .ok (.iaload, 1) := by decide +kernel
theorem dX10_is_20 : decode cX10_is 20 = .ok (.iload_n 1, 1) := by decide +kernel
theorem dX10_is_21 : decode cX10_is 21 = .ok (.if_icmp .ne 7, 3) := by decide +kernel
theorem dX10_is_24 : decode cX10_is 24 = .ok (.iconst 1, 1) := by decide +kernel
theorem dX10_is_25 : decode cX10_is 25 = .ok (.goto 4, 3) := by decide +kernel
theorem dX10_is_28 : decode cX10_is 28 = .ok (.iconst 0, 1) := by decide +kernel
theorem dX10_is_29 : decode cX10_is 29 = .ok (.ireturn, 1) := by decide +kernel
theorem dX10_must_0 : decode cX10_must 0 = .ok (.aload_n 0, 1) := by decide +kernel
theorem dX10_must_1 : decode cX10_must 1 = .ok (.aload_n 0, 1) := by decide +kernel
theorem dX10_must_2 : decode cX10_must 2 = .ok (.getfield 118, 3) := by decide +kernel
theorem dX10_must_5 : decode cX10_must 5 = .ok (.ifCond .eq 11, 3) := by decide +kernel
theorem dX10_must_8 : decode cX10_must 8 = .ok (.iload_n 1, 1) := by decide +kernel
theorem dX10_must_9 : decode cX10_must 9 = .ok (.ifCond .eq 7, 3) := by decide +kernel
theorem dX10_must_12 : decode cX10_must 12 = .ok (.iconst 1, 1) := by decide +kernel
theorem dX10_must_13 : decode cX10_must 13 = .ok (.goto 4, 3) := by decide +kernel
theorem dX10_must_16 : decode cX10_must 16 = .ok (.iconst 0, 1) := by decide +kernel
theorem dX10_must_17 : decode cX10_must 17 = .ok (.putfield 118, 3) := by decide +kernel
theorem dX10_must_20 : decode cX10_must 20 = .ok (.aload_n 0, 1) := by decide +kernel
theorem dX10_must_21 : decode cX10_must 21 = .ok (.dup, 1) := by decide +kernel
theorem dX10_must_22 : decode cX10_must 22 = .ok (.getfield 115, 3) := by decide +kernel
theorem dX10_must_25 : decode cX10_must 25 = .ok (.aload_n 0, 1) := by decide +kernel
theorem dX10_must_26 : decode cX10_must 26 = .ok (.getfield 118, 3) := by decide +kernel
theorem dX10_must_29 : decode cX10_must 29 = .ok (.ifCond .eq 7, 3) := by decide +kernel
theorem dX10_must_32 : decode cX10_must 32 = .ok (.iconst 1, 1) := by decide +kernel
theorem dX10_must_33 : decode cX10_must 33 = .ok (.goto 4, 3) := by decide +kernel
theorem dX10_must_36 : decode cX10_must 36 = .ok (.iconst 0, 1) := by decide +kernel
theorem dX10_must_37 : decode cX10_must 37 = .ok (.iadd, 1) := by decide +kernel
theorem dX10_must_38 : decode cX10_must 38 = .ok (.putfield 115, 3) := by decide +kernel
theorem dX10_must_41 : decode cX10_must 41 = .ok (.return_, 1) := by decide +kernel
theorem dX10_readsTask_0 : decode cX10_readsTask 0 = .ok (.aload_n 0, 1) := by decide +kernel
theorem dX10_readsTask_1 : decode cX10_readsTask 1 = .ok (.aload_n 0, 1) := by decide +kernel
theorem dX10_readsTask_2 : decode cX10_readsTask 2 = .ok (.getfield 118, 3) := by decide +kernel
theorem dX10_readsTask_5 : decode cX10_readsTask 5 = .ok (.ifCond .eq 22, 3) := by decide +kernel
theorem dX10_readsTask_8 : decode cX10_readsTask 8 = .ok (.iload_n 1, 1) := by decide +kernel
theorem dX10_readsTask_9 : decode cX10_readsTask 9 = .ok (.bipush 6, 2) := by decide +kernel
theorem dX10_readsTask_11 : decode cX10_readsTask 11 = .ok (.if_icmp .ge 16, 3) := by decide +kernel
theorem dX10_readsTask_14 : decode cX10_readsTask 14 = .ok (.aload_n 0, 1) := by decide +kernel
theorem dX10_readsTask_15 : decode cX10_readsTask 15 = .ok (.getfield 122, 3) := by decide +kernel
theorem dX10_readsTask_18 : decode cX10_readsTask 18 = .ok (.bipush 24, 2) := by decide +kernel
theorem dX10_readsTask_20 : decode cX10_readsTask 20 = .ok (.if_icmp .ge 7, 3) := by decide +kernel
theorem dX10_readsTask_23 : decode cX10_readsTask 23 = .ok (.iconst 1, 1) := by decide +kernel
theorem dX10_readsTask_24 : decode cX10_readsTask 24 = .ok (.goto 4, 3) := by decide +kernel
theorem dX10_readsTask_27 : decode cX10_readsTask 27 = .ok (.iconst 0, 1) := by decide +kernel
theorem dX10_readsTask_28 : decode cX10_readsTask 28 = .ok (.putfield 118, 3) := by decide +kernel
theorem dX10_readsTask_31 : decode cX10_readsTask 31 = .ok (.aload_n 0, 1) := by decide +kernel
theorem dX10_readsTask_32 : decode cX10_readsTask 32 = .ok (.getfield 118, 3) := by decide +kernel
theorem dX10_readsTask_35 : decode cX10_readsTask 35 = .ok (.ifCond .ne 4, 3) := by decide +kernel
theorem dX10_readsTask_38 : decode cX10_readsTask 38 = .ok (.return_, 1) := by decide +kernel
theorem dX10_readsTask_39 : decode cX10_readsTask 39 = .ok (.aload_n 0, 1) := by decide +kernel
theorem dX10_readsTask_40 : decode cX10_readsTask 40 = .ok (.aload_n 0, 1) := by decide +kernel
theorem dX10_readsTask_41 : decode cX10_readsTask 41 = .ok (.iconst 0, 1) := by decide +kernel
theorem dX10_readsTask_42 : decode cX10_readsTask 42 = .ok (.iconst 4, 1) := by decide +kernel
theorem dX10_readsTask_43 : decode cX10_readsTask 43 = .ok (.invokevirtual 125, 3) := by decide +kernel
theorem dX10_readsTask_46 : decode cX10_readsTask 46 = .ok (.invokevirtual 129, 3) := by decide +kernel
theorem dX10_readsTask_49 : decode cX10_readsTask 49 = .ok (.aload_n 0, 1) := by decide +kernel
theorem dX10_readsTask_50 : decode cX10_readsTask 50 = .ok (.aload_n 0, 1) := by decide +kernel
theorem dX10_readsTask_51 : decode cX10_readsTask 51 = .ok (.bipush 32, 2) := by decide +kernel
theorem dX10_readsTask_53 : decode cX10_readsTask 53 = .ok (.invokevirtual 133, 3) := by decide +kernel
theorem dX10_readsTask_56 : decode cX10_readsTask 56 = .ok (.invokevirtual 129, 3) := by decide +kernel
theorem dX10_readsTask_59 : decode cX10_readsTask 59 = .ok (.aload_n 0, 1) := by decide +kernel
theorem dX10_readsTask_60 : decode cX10_readsTask 60 = .ok (.aload_n 0, 1) := by decide +kernel
theorem dX10_readsTask_61 : decode cX10_readsTask 61 = .ok (.iconst 1, 1) := by decide +kernel
theorem dX10_readsTask_62 : decode cX10_readsTask 62 = .ok (.bipush 9, 2) := by decide +kernel
theorem dX10_readsTask_64 : decode cX10_readsTask 64 = .ok (.invokevirtual 125, 3) := by decide +kernel
theorem dX10_readsTask_67 : decode cX10_readsTask 67 = .ok (.invokevirtual 129, 3) := by decide +kernel
theorem dX10_readsTask_70 : decode cX10_readsTask 70 = .ok (.aload_n 0, 1) := by decide +kernel
theorem dX10_readsTask_71 : decode cX10_readsTask 71 = .ok (.getfield 118, 3) := by decide +kernel
theorem dX10_readsTask_74 : decode cX10_readsTask 74 = .ok (.ifCond .ne 4, 3) := by decide +kernel
theorem dX10_readsTask_77 : decode cX10_readsTask 77 = .ok (.return_, 1) := by decide +kernel
theorem dX10_readsTask_78 : decode cX10_readsTask 78 = .ok (.aload_n 0, 1) := by decide +kernel
theorem dX10_readsTask_79 : decode cX10_readsTask 79 = .ok (.getfield 31, 3) := by decide +kernel
theorem dX10_readsTask_82 : decode cX10_readsTask 82 = .ok (.aload_n 0, 1) := by decide +kernel
theorem dX10_readsTask_83 : decode cX10_readsTask 83 = .ok (.getfield 122, 3) := by decide +kernel
theorem dX10_readsTask_86 : decode cX10_readsTask 86 = .ok (.aload_n 0, 1) := by decide +kernel
theorem dX10_readsTask_87 : decode cX10_readsTask 87 = .ok (.getfield 137, 3) := by decide +kernel
theorem dX10_readsTask_90 : decode cX10_readsTask 90 = .ok (.iastore, 1) := by decide +kernel
theorem dX10_readsTask_91 : decode cX10_readsTask 91 = .ok (.aload_n 0, 1) := by decide +kernel
theorem dX10_readsTask_92 : decode cX10_readsTask 92 = .ok (.getfield 34, 3) := by decide +kernel
theorem dX10_readsTask_95 : decode cX10_readsTask 95 = .ok (.aload_n 0, 1) := by decide +kernel
theorem dX10_readsTask_96 : decode cX10_readsTask 96 = .ok (.getfield 122, 3) := by decide +kernel
theorem dX10_readsTask_99 : decode cX10_readsTask 99 = .ok (.aload_n 0, 1) := by decide +kernel
theorem dX10_readsTask_100 : decode cX10_readsTask 100 = .ok (.getfield 28, 3) := by decide +kernel
theorem dX10_readsTask_103 : decode cX10_readsTask 103 = .ok (.aload_n 0, 1) := by decide +kernel
theorem dX10_readsTask_104 : decode cX10_readsTask 104 = .ok (.getfield 115, 3) := by decide +kernel
theorem dX10_readsTask_107 : decode cX10_readsTask 107 = .ok (.iconst 3, 1) := by decide +kernel
theorem dX10_readsTask_108 : decode cX10_readsTask 108 = .ok (.isub, 1) := by decide +kernel
theorem dX10_readsTask_109 : decode cX10_readsTask 109 = .ok (.iaload, 1) := by decide +kernel
theorem dX10_readsTask_110 : decode cX10_readsTask 110 = .ok (.bipush 48, 2) := by decide +kernel
theorem dX10_readsTask_112 : decode cX10_readsTask 112 = .ok (.isub, 1) := by decide +kernel
theorem dX10_readsTask_113 : decode cX10_readsTask 113 = .ok (.iastore, 1) := by decide +kernel
theorem dX10_readsTask_114 : decode cX10_readsTask 114 = .ok (.aload_n 0, 1) := by decide +kernel
theorem dX10_readsTask_115 : decode cX10_readsTask 115 = .ok (.getfield 37, 3) := by decide +kernel
theorem dX10_readsTask_118 : decode cX10_readsTask 118 = .ok (.aload_n 0, 1) := by decide +kernel
theorem dX10_readsTask_119 : decode cX10_readsTask 119 = .ok (.getfield 122, 3) := by decide +kernel
theorem dX10_readsTask_122 : decode cX10_readsTask 122 = .ok (.aload_n 0, 1) := by decide +kernel
theorem dX10_readsTask_123 : decode cX10_readsTask 123 = .ok (.getfield 28, 3) := by decide +kernel
theorem dX10_readsTask_126 : decode cX10_readsTask 126 = .ok (.aload_n 0, 1) := by decide +kernel
theorem dX10_readsTask_127 : decode cX10_readsTask 127 = .ok (.getfield 115, 3) := by decide +kernel
theorem dX10_readsTask_130 : decode cX10_readsTask 130 = .ok (.iconst 1, 1) := by decide +kernel
theorem dX10_readsTask_131 : decode cX10_readsTask 131 = .ok (.isub, 1) := by decide +kernel
theorem dX10_readsTask_132 : decode cX10_readsTask 132 = .ok (.iaload, 1) := by decide +kernel
theorem dX10_readsTask_133 : decode cX10_readsTask 133 = .ok (.bipush 48, 2) := by decide +kernel
theorem dX10_readsTask_135 : decode cX10_readsTask 135 = .ok (.isub, 1) := by decide +kernel
theorem dX10_readsTask_136 : decode cX10_readsTask 136 = .ok (.iastore, 1) := by decide +kernel
theorem dX10_readsTask_137 : decode cX10_readsTask 137 = .ok (.aload_n 0, 1) := by decide +kernel
theorem dX10_readsTask_138 : decode cX10_readsTask 138 = .ok (.iconst 0, 1) := by decide +kernel
theorem dX10_readsTask_139 : decode cX10_readsTask 139 = .ok (.bipush 9, 2) := by decide +kernel
theorem dX10_readsTask_141 : decode cX10_readsTask 141 = .ok (.invokevirtual 125, 3) := by decide +kernel
theorem dX10_readsTask_144 : decode cX10_readsTask 144 = .ok (.ifCond .eq 47, 3) := by decide +kernel
theorem dX10_readsTask_147 : decode cX10_readsTask 147 = .ok (.aload_n 0, 1) := by decide +kernel
theorem dX10_readsTask_148 : decode cX10_readsTask 148 = .ok (.getfield 37, 3) := by decide +kernel
theorem dX10_readsTask_151 : decode cX10_readsTask 151 = .ok (.aload_n 0, 1) := by decide +kernel
theorem dX10_readsTask_152 : decode cX10_readsTask 152 = .ok (.getfield 122, 3) := by decide +kernel
theorem dX10_readsTask_155 : decode cX10_readsTask 155 = .ok (.bipush 10, 2) := by decide +kernel
theorem dX10_readsTask_157 : decode cX10_readsTask 157 = .ok (.aload_n 0, 1) := by decide +kernel
theorem dX10_readsTask_158 : decode cX10_readsTask 158 = .ok (.getfield 37, 3) := by decide +kernel
theorem dX10_readsTask_161 : decode cX10_readsTask 161 = .ok (.aload_n 0, 1) := by decide +kernel
theorem dX10_readsTask_162 : decode cX10_readsTask 162 = .ok (.getfield 122, 3) := by decide +kernel
theorem dX10_readsTask_165 : decode cX10_readsTask 165 = .ok (.iaload, 1) := by decide +kernel
theorem dX10_readsTask_166 : decode cX10_readsTask 166 = .ok (.imul, 1) := by decide +kernel
theorem dX10_readsTask_167 : decode cX10_readsTask 167 = .ok (.aload_n 0, 1) := by decide +kernel
theorem dX10_readsTask_168 : decode cX10_readsTask 168 = .ok (.getfield 28, 3) := by decide +kernel
theorem dX10_readsTask_171 : decode cX10_readsTask 171 = .ok (.aload_n 0, 1) := by decide +kernel
theorem dX10_readsTask_172 : decode cX10_readsTask 172 = .ok (.getfield 115, 3) := by decide +kernel
theorem dX10_readsTask_175 : decode cX10_readsTask 175 = .ok (.iaload, 1) := by decide +kernel
theorem dX10_readsTask_176 : decode cX10_readsTask 176 = .ok (.iadd, 1) := by decide +kernel
theorem dX10_readsTask_177 : decode cX10_readsTask 177 = .ok (.bipush 48, 2) := by decide +kernel
theorem dX10_readsTask_179 : decode cX10_readsTask 179 = .ok (.isub, 1) := by decide +kernel
theorem dX10_readsTask_180 : decode cX10_readsTask 180 = .ok (.iastore, 1) := by decide +kernel
theorem dX10_readsTask_181 : decode cX10_readsTask 181 = .ok (.aload_n 0, 1) := by decide +kernel
theorem dX10_readsTask_182 : decode cX10_readsTask 182 = .ok (.dup, 1) := by decide +kernel
theorem dX10_readsTask_183 : decode cX10_readsTask 183 = .ok (.getfield 115, 3) := by decide +kernel
theorem dX10_readsTask_186 : decode cX10_readsTask 186 = .ok (.iconst 1, 1) := by decide +kernel
theorem dX10_readsTask_187 : decode cX10_readsTask 187 = .ok (.iadd, 1) := by decide +kernel
theorem dX10_readsTask_188 : decode cX10_readsTask 188 = .ok (.putfield 115, 3) := by decide +kernel
theorem dX10_readsTask_191 : decode cX10_readsTask 191 = .ok (.aload_n 0, 1) := by decide +kernel
theorem dX10_readsTask_192 : decode cX10_readsTask 192 = .ok (.dup, 1) := by decide +kernel
theorem dX10_readsTask_193 : decode cX10_readsTask 193 = .ok (.getfield 122, 3) := by decide +kernel
theorem dX10_readsTask_196 : decode cX10_readsTask 196 = .ok (.iconst 1, 1) := by decide +kernel
theorem dX10_readsTask_197 : decode cX10_readsTask 197 = .ok (.iadd, 1) := by decide +kernel
theorem dX10_readsTask_198 : decode cX10_readsTask 198 = .ok (.putfield 122, 3) := by decide +kernel
theorem dX10_readsTask_201 : decode cX10_readsTask 201 = .ok (.return_, 1) := by decide +kernel
theorem dX10_readsJob_0 : decode cX10_readsJob 0 = .ok (.aload_n 0, 1) := by decide +kernel
theorem dX10_readsJob_1 : decode cX10_readsJob 1 = .ok (.aload_n 0, 1) := by decide +kernel
theorem dX10_readsJob_2 : decode cX10_readsJob 2 = .ok (.getfield 118, 3) := by decide +kernel
theorem dX10_readsJob_5 : decode cX10_readsJob 5 = .ok (.ifCond .eq 16, 3) := by decide +kernel
theorem dX10_readsJob_8 : decode cX10_readsJob 8 = .ok (.aload_n 0, 1) := by decide +kernel
theorem dX10_readsJob_9 : decode cX10_readsJob 9 = .ok (.getfield 137, 3) := by decide +kernel
theorem dX10_readsJob_12 : decode cX10_readsJob 12 = .ok (.bipush 6, 2) := by decide +kernel
theorem dX10_readsJob_14 : decode cX10_readsJob 14 = .ok (.if_icmp .ge 7, 3) := by decide +kernel
theorem dX10_readsJob_17 : decode cX10_readsJob 17 = .ok (.iconst 1, 1) := by decide +kernel
theorem dX10_readsJob_18 : decode cX10_readsJob 18 = .ok (.goto 4, 3) := by decide +kernel
theorem dX10_readsJob_21 : decode cX10_readsJob 21 = .ok (.iconst 0, 1) := by decide +kernel
theorem dX10_readsJob_22 : decode cX10_readsJob 22 = .ok (.putfield 118, 3) := by decide +kernel
theorem dX10_readsJob_25 : decode cX10_readsJob 25 = .ok (.iconst 0, 1) := by decide +kernel
theorem dX10_readsJob_26 : decode cX10_readsJob 26 = .ok (.istore_n 1, 1) := by decide +kernel
theorem dX10_readsJob_27 : decode cX10_readsJob 27 = .ok (.aload_n 0, 1) := by decide +kernel
theorem dX10_readsJob_28 : decode cX10_readsJob 28 = .ok (.getfield 118, 3) := by decide +kernel
theorem dX10_readsJob_31 : decode cX10_readsJob 31 = .ok (.istore_n 2, 1) := by decide +kernel
theorem dX10_readsJob_32 : decode cX10_readsJob 32 = .ok (.iload_n 2, 1) := by decide +kernel
theorem dX10_readsJob_33 : decode cX10_readsJob 33 = .ok (.ifCond .eq 54, 3) := by decide +kernel
theorem dX10_readsJob_36 : decode cX10_readsJob 36 = .ok (.aload_n 0, 1) := by decide +kernel
theorem dX10_readsJob_37 : decode cX10_readsJob 37 = .ok (.iload_n 1, 1) := by decide +kernel
theorem dX10_readsJob_38 : decode cX10_readsJob 38 = .ok (.invokevirtual 140, 3) := by decide +kernel
theorem dX10_readsJob_41 : decode cX10_readsJob 41 = .ok (.iinc 1 1, 3) := by decide +kernel
theorem dX10_readsJob_44 : decode cX10_readsJob 44 = .ok (.aload_n 0, 1) := by decide +kernel
theorem dX10_readsJob_45 : decode cX10_readsJob 45 = .ok (.getfield 118, 3) := by decide +kernel
theorem dX10_readsJob_48 : decode cX10_readsJob 48 = .ok (.ifCond .eq 16, 3) := by decide +kernel
theorem dX10_readsJob_51 : decode cX10_readsJob 51 = .ok (.aload_n 0, 1) := by decide +kernel
theorem dX10_readsJob_52 : decode cX10_readsJob 52 = .ok (.bipush 44, 2) := by decide +kernel
theorem dX10_readsJob_54 : decode cX10_readsJob 54 = .ok (.invokevirtual 133, 3) := by decide +kernel
theorem dX10_readsJob_57 : decode cX10_readsJob 57 = .ok (.ifCond .eq 7, 3) := by decide +kernel
theorem dX10_readsJob_60 : decode cX10_readsJob 60 = .ok (.iconst 1, 1) := by decide +kernel
theorem dX10_readsJob_61 : decode cX10_readsJob 61 = .ok (.goto 4, 3) := by decide +kernel
theorem dX10_readsJob_64 : decode cX10_readsJob 64 = .ok (.iconst 0, 1) := by decide +kernel
theorem dX10_readsJob_65 : decode cX10_readsJob 65 = .ok (.istore_n 2, 1) := by decide +kernel
theorem dX10_readsJob_66 : decode cX10_readsJob 66 = .ok (.aload_n 0, 1) := by decide +kernel
theorem dX10_readsJob_67 : decode cX10_readsJob 67 = .ok (.dup, 1) := by decide +kernel
theorem dX10_readsJob_68 : decode cX10_readsJob 68 = .ok (.getfield 115, 3) := by decide +kernel
theorem dX10_readsJob_71 : decode cX10_readsJob 71 = .ok (.iload_n 2, 1) := by decide +kernel
theorem dX10_readsJob_72 : decode cX10_readsJob 72 = .ok (.ifCond .eq 7, 3) := by decide +kernel
theorem dX10_readsJob_75 : decode cX10_readsJob 75 = .ok (.iconst 1, 1) := by decide +kernel
theorem dX10_readsJob_76 : decode cX10_readsJob 76 = .ok (.goto 4, 3) := by decide +kernel
theorem dX10_readsJob_79 : decode cX10_readsJob 79 = .ok (.iconst 0, 1) := by decide +kernel
theorem dX10_readsJob_80 : decode cX10_readsJob 80 = .ok (.iadd, 1) := by decide +kernel
theorem dX10_readsJob_81 : decode cX10_readsJob 81 = .ok (.putfield 115, 3) := by decide +kernel
theorem dX10_readsJob_84 : decode cX10_readsJob 84 = .ok (.goto (-52), 3) := by decide +kernel
theorem dX10_readsJob_87 : decode cX10_readsJob 87 = .ok (.aload_n 0, 1) := by decide +kernel
theorem dX10_readsJob_88 : decode cX10_readsJob 88 = .ok (.dup, 1) := by decide +kernel
theorem dX10_readsJob_89 : decode cX10_readsJob 89 = .ok (.getfield 137, 3) := by decide +kernel
theorem dX10_readsJob_92 : decode cX10_readsJob 92 = .ok (.iconst 1, 1) := by decide +kernel
theorem dX10_readsJob_93 : decode cX10_readsJob 93 = .ok (.iadd, 1) := by decide +kernel
theorem dX10_readsJob_94 : decode cX10_readsJob 94 = .ok (.putfield 137, 3) := by decide +kernel
theorem dX10_readsJob_97 : decode cX10_readsJob 97 = .ok (.return_, 1) := by decide +kernel
theorem dX10_readsAll_0 : decode cX10_readsAll 0 = .ok (.aload_n 0, 1) := by decide +kernel
theorem dX10_readsAll_1 : decode cX10_readsAll 1 = .ok (.iconst 0, 1) := by decide +kernel
theorem dX10_readsAll_2 : decode cX10_readsAll 2 = .ok (.putfield 115, 3) := by decide +kernel
theorem dX10_readsAll_5 : decode cX10_readsAll 5 = .ok (.aload_n 0, 1) := by decide +kernel
theorem dX10_readsAll_6 : decode cX10_readsAll 6 = .ok (.iconst 1, 1) := by decide +kernel
theorem dX10_readsAll_7 : decode cX10_readsAll 7 = .ok (.putfield 118, 3) := by decide +kernel
theorem dX10_readsAll_10 : decode cX10_readsAll 10 = .ok (.aload_n 0, 1) := by decide +kernel
theorem dX10_readsAll_11 : decode cX10_readsAll 11 = .ok (.iconst 0, 1) := by decide +kernel
theorem dX10_readsAll_12 : decode cX10_readsAll 12 = .ok (.putfield 137, 3) := by decide +kernel
theorem dX10_readsAll_15 : decode cX10_readsAll 15 = .ok (.aload_n 0, 1) := by decide +kernel
theorem dX10_readsAll_16 : decode cX10_readsAll 16 = .ok (.iconst 0, 1) := by decide +kernel
theorem dX10_readsAll_17 : decode cX10_readsAll 17 = .ok (.putfield 122, 3) := by decide +kernel
theorem dX10_readsAll_20 : decode cX10_readsAll 20 = .ok (.iconst 1, 1) := by decide +kernel
theorem dX10_readsAll_21 : decode cX10_readsAll 21 = .ok (.istore_n 1, 1) := by decide +kernel
theorem dX10_readsAll_22 : decode cX10_readsAll 22 = .ok (.iload_n 1, 1) := by decide +kernel
theorem dX10_readsAll_23 : decode cX10_readsAll 23 = .ok (.ifCond .eq 50, 3) := by decide +kernel
theorem dX10_readsAll_26 : decode cX10_readsAll 26 = .ok (.aload_n 0, 1) := by decide +kernel
theorem dX10_readsAll_27 : decode cX10_readsAll 27 = .ok (.invokevirtual 144, 3) := by decide +kernel
theorem dX10_readsAll_30 : decode cX10_readsAll 30 = .ok (.aload_n 0, 1) := by decide +kernel
theorem dX10_readsAll_31 : decode cX10_readsAll 31 = .ok (.getfield 118, 3) := by decide +kernel
theorem dX10_readsAll_34 : decode cX10_readsAll 34 = .ok (.ifCond .eq 16, 3) := by decide +kernel
theorem dX10_readsAll_37 : decode cX10_readsAll 37 = .ok (.aload_n 0, 1) := by decide +kernel
theorem dX10_readsAll_38 : decode cX10_readsAll 38 = .ok (.bipush 59, 2) := by decide +kernel
theorem dX10_readsAll_40 : decode cX10_readsAll 40 = .ok (.invokevirtual 133, 3) := by decide +kernel
theorem dX10_readsAll_43 : decode cX10_readsAll 43 = .ok (.ifCond .eq 7, 3) := by decide +kernel
theorem dX10_readsAll_46 : decode cX10_readsAll 46 = .ok (.iconst 1, 1) := by decide +kernel
theorem dX10_readsAll_47 : decode cX10_readsAll 47 = .ok (.goto 4, 3) := by decide +kernel
theorem dX10_readsAll_50 : decode cX10_readsAll 50 = .ok (.iconst 0, 1) := by decide +kernel
theorem dX10_readsAll_51 : decode cX10_readsAll 51 = .ok (.istore_n 1, 1) := by decide +kernel
theorem dX10_readsAll_52 : decode cX10_readsAll 52 = .ok (.aload_n 0, 1) := by decide +kernel
theorem dX10_readsAll_53 : decode cX10_readsAll 53 = .ok (.dup, 1) := by decide +kernel
theorem dX10_readsAll_54 : decode cX10_readsAll 54 = .ok (.getfield 115, 3) := by decide +kernel
theorem dX10_readsAll_57 : decode cX10_readsAll 57 = .ok (.iload_n 1, 1) := by decide +kernel
theorem dX10_readsAll_58 : decode cX10_readsAll 58 = .ok (.ifCond .eq 7, 3) := by decide +kernel
theorem dX10_readsAll_61 : decode cX10_readsAll 61 = .ok (.iconst 1, 1) := by decide +kernel
theorem dX10_readsAll_62 : decode cX10_readsAll 62 = .ok (.goto 4, 3) := by decide +kernel
theorem dX10_readsAll_65 : decode cX10_readsAll 65 = .ok (.iconst 0, 1) := by decide +kernel
theorem dX10_readsAll_66 : decode cX10_readsAll 66 = .ok (.iadd, 1) := by decide +kernel
theorem dX10_readsAll_67 : decode cX10_readsAll 67 = .ok (.putfield 115, 3) := by decide +kernel
theorem dX10_readsAll_70 : decode cX10_readsAll 70 = .ok (.goto (-48), 3) := by decide +kernel
theorem dX10_readsAll_73 : decode cX10_readsAll 73 = .ok (.aload_n 0, 1) := by decide +kernel
theorem dX10_readsAll_74 : decode cX10_readsAll 74 = .ok (.aload_n 0, 1) := by decide +kernel
theorem dX10_readsAll_75 : decode cX10_readsAll 75 = .ok (.getfield 118, 3) := by decide +kernel
theorem dX10_readsAll_78 : decode cX10_readsAll 78 = .ok (.ifCond .eq 18, 3) := by decide +kernel
theorem dX10_readsAll_81 : decode cX10_readsAll 81 = .ok (.aload_n 0, 1) := by decide +kernel
theorem dX10_readsAll_82 : decode cX10_readsAll 82 = .ok (.getfield 115, 3) := by decide +kernel
theorem dX10_readsAll_85 : decode cX10_readsAll 85 = .ok (.aload_n 0, 1) := by decide +kernel
theorem dX10_readsAll_86 : decode cX10_readsAll 86 = .ok (.getfield 112, 3) := by decide +kernel
theorem dX10_readsAll_89 : decode cX10_readsAll 89 = .ok (.if_icmp .ne 7, 3) := by decide +kernel
theorem dX10_readsAll_92 : decode cX10_readsAll 92 = .ok (.iconst 1, 1) := by decide +kernel
theorem dX10_readsAll_93 : decode cX10_readsAll 93 = .ok (.goto 4, 3) := by decide +kernel
theorem dX10_readsAll_96 : decode cX10_readsAll 96 = .ok (.iconst 0, 1) := by decide +kernel
theorem dX10_readsAll_97 : decode cX10_readsAll 97 = .ok (.putfield 118, 3) := by decide +kernel
theorem dX10_readsAll_100 : decode cX10_readsAll 100 = .ok (.return_, 1) := by decide +kernel
theorem dX10_shop_0 : decode cX10_shop 0 = .ok (.aload_n 0, 1) := by decide +kernel
theorem dX10_shop_1 : decode cX10_shop 1 = .ok (.invokevirtual 147, 3) := by decide +kernel
theorem dX10_shop_4 : decode cX10_shop 4 = .ok (.aload_n 0, 1) := by decide +kernel
theorem dX10_shop_5 : decode cX10_shop 5 = .ok (.iconst 0, 1) := by decide +kernel
theorem dX10_shop_6 : decode cX10_shop 6 = .ok (.putfield 112, 3) := by decide +kernel
theorem dX10_shop_9 : decode cX10_shop 9 = .ok (.aload_n 0, 1) := by decide +kernel
theorem dX10_shop_10 : decode cX10_shop 10 = .ok (.getfield 118, 3) := by decide +kernel
theorem dX10_shop_13 : decode cX10_shop 13 = .ok (.ifCond .ne 11, 3) := by decide +kernel
theorem dX10_shop_16 : decode cX10_shop 16 = .ok (.bipush (-100), 2) := by decide +kernel
theorem dX10_shop_18 : decode cX10_shop 18 = .ok (.aload_n 0, 1) := by decide +kernel
theorem dX10_shop_19 : decode cX10_shop 19 = .ok (.getfield 115, 3) := by decide +kernel
theorem dX10_shop_22 : decode cX10_shop 22 = .ok (.isub, 1) := by decide +kernel
theorem dX10_shop_23 : decode cX10_shop 23 = .ok (.ireturn, 1) := by decide +kernel
theorem dX10_shop_24 : decode cX10_shop 24 = .ok (.aload_n 0, 1) := by decide +kernel
theorem dX10_shop_25 : decode cX10_shop 25 = .ok (.aload_n 0, 1) := by decide +kernel
theorem dX10_shop_26 : decode cX10_shop 26 = .ok (.getfield 137, 3) := by decide +kernel
theorem dX10_shop_29 : decode cX10_shop 29 = .ok (.putfield 150, 3) := by decide +kernel
theorem dX10_shop_32 : decode cX10_shop 32 = .ok (.aload_n 0, 1) := by decide +kernel
theorem dX10_shop_33 : decode cX10_shop 33 = .ok (.aload_n 0, 1) := by decide +kernel
theorem dX10_shop_34 : decode cX10_shop 34 = .ok (.getfield 122, 3) := by decide +kernel
theorem dX10_shop_37 : decode cX10_shop 37 = .ok (.putfield 105, 3) := by decide +kernel
theorem dX10_shop_40 : decode cX10_shop 40 = .ok (.iconst 0, 1) := by decide +kernel
theorem dX10_shop_41 : decode cX10_shop 41 = .ok (.istore_n 1, 1) := by decide +kernel
theorem dX10_shop_42 : decode cX10_shop 42 = .ok (.iload_n 1, 1) := by decide +kernel
theorem dX10_shop_43 : decode cX10_shop 43 = .ok (.iconst 5, 1) := by decide +kernel
theorem dX10_shop_44 : decode cX10_shop 44 = .ok (.if_icmp .ge 16, 3) := by decide +kernel
theorem dX10_shop_47 : decode cX10_shop 47 = .ok (.aload_n 0, 1) := by decide +kernel
theorem dX10_shop_48 : decode cX10_shop 48 = .ok (.getfield 25, 3) := by decide +kernel
theorem dX10_shop_51 : decode cX10_shop 51 = .ok (.iload_n 1, 1) := by decide +kernel
theorem dX10_shop_52 : decode cX10_shop 52 = .ok (.iconst 0, 1) := by decide +kernel
theorem dX10_shop_53 : decode cX10_shop 53 = .ok (.iastore, 1) := by decide +kernel
theorem dX10_shop_54 : decode cX10_shop 54 = .ok (.iinc 1 1, 3) := by decide +kernel
theorem dX10_shop_57 : decode cX10_shop 57 = .ok (.goto (-15), 3) := by decide +kernel
theorem dX10_shop_60 : decode cX10_shop 60 = .ok (.iconst 0, 1) := by decide +kernel
theorem dX10_shop_61 : decode cX10_shop 61 = .ok (.istore_n 1, 1) := by decide +kernel
theorem dX10_shop_62 : decode cX10_shop 62 = .ok (.iload_n 1, 1) := by decide +kernel
theorem dX10_shop_63 : decode cX10_shop 63 = .ok (.aload_n 0, 1) := by decide +kernel
theorem dX10_shop_64 : decode cX10_shop 64 = .ok (.getfield 105, 3) := by decide +kernel
theorem dX10_shop_67 : decode cX10_shop 67 = .ok (.if_icmp .ge 91, 3) := by decide +kernel
theorem dX10_shop_70 : decode cX10_shop 70 = .ok (.aload_n 0, 1) := by decide +kernel
theorem dX10_shop_71 : decode cX10_shop 71 = .ok (.getfield 9, 3) := by decide +kernel
theorem dX10_shop_74 : decode cX10_shop 74 = .ok (.iload_n 1, 1) := by decide +kernel
theorem dX10_shop_75 : decode cX10_shop 75 = .ok (.aload_n 0, 1) := by decide +kernel
theorem dX10_shop_76 : decode cX10_shop 76 = .ok (.getfield 31, 3) := by decide +kernel
theorem dX10_shop_79 : decode cX10_shop 79 = .ok (.iload_n 1, 1) := by decide +kernel
theorem dX10_shop_80 : decode cX10_shop 80 = .ok (.iaload, 1) := by decide +kernel
theorem dX10_shop_81 : decode cX10_shop 81 = .ok (.iastore, 1) := by decide +kernel
theorem dX10_shop_82 : decode cX10_shop 82 = .ok (.aload_n 0, 1) := by decide +kernel
theorem dX10_shop_83 : decode cX10_shop 83 = .ok (.getfield 13, 3) := by decide +kernel
theorem dX10_shop_86 : decode cX10_shop 86 = .ok (.iload_n 1, 1) := by decide +kernel
theorem dX10_shop_87 : decode cX10_shop 87 = .ok (.iload_n 1, 1) := by decide +kernel
theorem dX10_shop_88 : decode cX10_shop 88 = .ok (.ifCond .le 33, 3) := by decide +kernel
theorem dX10_shop_91 : decode cX10_shop 91 = .ok (.aload_n 0, 1) := by decide +kernel
theorem dX10_shop_92 : decode cX10_shop 92 = .ok (.getfield 31, 3) := by decide +kernel
theorem dX10_shop_95 : decode cX10_shop 95 = .ok (.iload_n 1, 1) := by decide +kernel
theorem dX10_shop_96 : decode cX10_shop 96 = .ok (.iconst 1, 1) := by decide +kernel
theorem dX10_shop_97 : decode cX10_shop 97 = .ok (.isub, 1) := by decide +kernel
theorem dX10_shop_98 : decode cX10_shop 98 = .ok (.iaload, 1) := by decide +kernel
theorem dX10_shop_99 : decode cX10_shop 99 = .ok (.aload_n 0, 1) := by decide +kernel
theorem dX10_shop_100 : decode cX10_shop 100 = .ok (.getfield 31, 3) := by decide +kernel
theorem dX10_shop_103 : decode cX10_shop 103 = .ok (.iload_n 1, 1) := by decide +kernel
theorem dX10_shop_104 : decode cX10_shop 104 = .ok (.iaload, 1) := by decide +kernel
theorem dX10_shop_105 : decode cX10_shop 105 = .ok (.if_icmp .ne 16, 3) := by decide +kernel
theorem dX10_shop_108 : decode cX10_shop 108 = .ok (.aload_n 0, 1) := by decide +kernel
theorem dX10_shop_109 : decode cX10_shop 109 = .ok (.getfield 13, 3) := by decide +kernel
theorem dX10_shop_112 : decode cX10_shop 112 = .ok (.iload_n 1, 1) := by decide +kernel
theorem dX10_shop_113 : decode cX10_shop 113 = .ok (.iconst 1, 1) := by decide +kernel
theorem dX10_shop_114 : decode cX10_shop 114 = .ok (.isub, 1) := by decide +kernel
theorem dX10_shop_115 : decode cX10_shop 115 = .ok (.iaload, 1) := by decide +kernel
theorem dX10_shop_116 : decode cX10_shop 116 = .ok (.iconst 1, 1) := by decide +kernel
theorem dX10_shop_117 : decode cX10_shop 117 = .ok (.iadd, 1) := by decide +kernel
theorem dX10_shop_118 : decode cX10_shop 118 = .ok (.goto 4, 3) := by decide +kernel
theorem dX10_shop_121 : decode cX10_shop 121 = .ok (.iconst 0, 1) := by decide +kernel
theorem dX10_shop_122 : decode cX10_shop 122 = .ok (.iastore, 1) := by decide +kernel
theorem dX10_shop_123 : decode cX10_shop 123 = .ok (.aload_n 0, 1) := by decide +kernel
theorem dX10_shop_124 : decode cX10_shop 124 = .ok (.getfield 16, 3) := by decide +kernel
theorem dX10_shop_127 : decode cX10_shop 127 = .ok (.iload_n 1, 1) := by decide +kernel
theorem dX10_shop_128 : decode cX10_shop 128 = .ok (.aload_n 0, 1) := by decide +kernel
theorem dX10_shop_129 : decode cX10_shop 129 = .ok (.getfield 34, 3) := by decide +kernel
theorem dX10_shop_132 : decode cX10_shop 132 = .ok (.iload_n 1, 1) := by decide +kernel
theorem dX10_shop_133 : decode cX10_shop 133 = .ok (.iaload, 1) := by decide +kernel
theorem dX10_shop_134 : decode cX10_shop 134 = .ok (.iastore, 1) := by decide +kernel
theorem dX10_shop_135 : decode cX10_shop 135 = .ok (.aload_n 0, 1) := by decide +kernel
theorem dX10_shop_136 : decode cX10_shop 136 = .ok (.getfield 19, 3) := by decide +kernel
theorem dX10_shop_139 : decode cX10_shop 139 = .ok (.iload_n 1, 1) := by decide +kernel
theorem dX10_shop_140 : decode cX10_shop 140 = .ok (.aload_n 0, 1) := by decide +kernel
theorem dX10_shop_141 : decode cX10_shop 141 = .ok (.getfield 37, 3) := by decide +kernel
theorem dX10_shop_144 : decode cX10_shop 144 = .ok (.iload_n 1, 1) := by decide +kernel
theorem dX10_shop_145 : decode cX10_shop 145 = .ok (.iaload, 1) := by decide +kernel
theorem dX10_shop_146 : decode cX10_shop 146 = .ok (.iastore, 1) := by decide +kernel
theorem dX10_shop_147 : decode cX10_shop 147 = .ok (.aload_n 0, 1) := by decide +kernel
theorem dX10_shop_148 : decode cX10_shop 148 = .ok (.iload_n 1, 1) := by decide +kernel
theorem dX10_shop_149 : decode cX10_shop 149 = .ok (.invokevirtual 153, 3) := by decide +kernel
theorem dX10_shop_152 : decode cX10_shop 152 = .ok (.iinc 1 1, 3) := by decide +kernel
theorem dX10_shop_155 : decode cX10_shop 155 = .ok (.goto (-93), 3) := by decide +kernel
theorem dX10_shop_158 : decode cX10_shop 158 = .ok (.aload_n 0, 1) := by decide +kernel
theorem dX10_shop_159 : decode cX10_shop 159 = .ok (.invokevirtual 156, 3) := by decide +kernel
theorem dX10_shop_162 : decode cX10_shop 162 = .ok (.aload_n 0, 1) := by decide +kernel
theorem dX10_shop_163 : decode cX10_shop 163 = .ok (.getfield 105, 3) := by decide +kernel
theorem dX10_shop_166 : decode cX10_shop 166 = .ok (.ireturn, 1) := by decide +kernel
theorem dX10_puts_0 : decode cX10_puts 0 = .ok (.aload_n 0, 1) := by decide +kernel
theorem dX10_puts_1 : decode cX10_puts 1 = .ok (.getfield 16, 3) := by decide +kernel
theorem dX10_puts_4 : decode cX10_puts 4 = .ok (.iload_n 1, 1) := by decide +kernel
theorem dX10_puts_5 : decode cX10_puts 5 = .ok (.iaload, 1) := by decide +kernel
theorem dX10_puts_6 : decode cX10_puts 6 = .ok (.istore_n 2, 1) := by decide +kernel
theorem dX10_puts_7 : decode cX10_puts 7 = .ok (.aload_n 0, 1) := by decide +kernel
theorem dX10_puts_8 : decode cX10_puts 8 = .ok (.getfield 22, 3) := by decide +kernel
theorem dX10_puts_11 : decode cX10_puts 11 = .ok (.bipush 24, 2) := by decide +kernel
theorem dX10_puts_13 : decode cX10_puts 13 = .ok (.iload_n 2, 1) := by decide +kernel
theorem dX10_puts_14 : decode cX10_puts 14 = .ok (.imul, 1) := by decide +kernel
theorem dX10_puts_15 : decode cX10_puts 15 = .ok (.aload_n 0, 1) := by decide +kernel
theorem dX10_puts_16 : decode cX10_puts 16 = .ok (.getfield 25, 3) := by decide +kernel
theorem dX10_puts_19 : decode cX10_puts 19 = .ok (.iload_n 2, 1) := by decide +kernel
theorem dX10_puts_20 : decode cX10_puts 20 = .ok (.iaload, 1) := by decide +kernel
theorem dX10_puts_21 : decode cX10_puts 21 = .ok (.iadd, 1) := by decide +kernel
theorem dX10_puts_22 : decode cX10_puts 22 = .ok (.iload_n 1, 1) := by decide +kernel
theorem dX10_puts_23 : decode cX10_puts 23 = .ok (.iastore, 1) := by decide +kernel
theorem dX10_puts_24 : decode cX10_puts 24 = .ok (.aload_n 0, 1) := by decide +kernel
theorem dX10_puts_25 : decode cX10_puts 25 = .ok (.getfield 25, 3) := by decide +kernel
theorem dX10_puts_28 : decode cX10_puts 28 = .ok (.iload_n 2, 1) := by decide +kernel
theorem dX10_puts_29 : decode cX10_puts 29 = .ok (.dup2, 1) := by decide +kernel
theorem dX10_puts_30 : decode cX10_puts 30 = .ok (.iaload, 1) := by decide +kernel
theorem dX10_puts_31 : decode cX10_puts 31 = .ok (.iconst 1, 1) := by decide +kernel
theorem dX10_puts_32 : decode cX10_puts 32 = .ok (.iadd, 1) := by decide +kernel
theorem dX10_puts_33 : decode cX10_puts 33 = .ok (.iastore, 1) := by decide +kernel
theorem dX10_puts_34 : decode cX10_puts 34 = .ok (.return_, 1) := by decide +kernel
theorem dX10_lays_0 : decode cX10_lays 0 = .ok (.iconst 0, 1) := by decide +kernel
theorem dX10_lays_1 : decode cX10_lays 1 = .ok (.istore_n 1, 1) := by decide +kernel
theorem dX10_lays_2 : decode cX10_lays 2 = .ok (.iload_n 1, 1) := by decide +kernel
theorem dX10_lays_3 : decode cX10_lays 3 = .ok (.bipush 120, 2) := by decide +kernel
theorem dX10_lays_5 : decode cX10_lays 5 = .ok (.if_icmp .ge 29, 3) := by decide +kernel
theorem dX10_lays_8 : decode cX10_lays 8 = .ok (.aload_n 0, 1) := by decide +kernel
theorem dX10_lays_9 : decode cX10_lays 9 = .ok (.getfield 40, 3) := by decide +kernel
theorem dX10_lays_12 : decode cX10_lays 12 = .ok (.bipush 120, 2) := by decide +kernel
theorem dX10_lays_14 : decode cX10_lays 14 = .ok (.aload_n 0, 1) := by decide +kernel
theorem dX10_lays_15 : decode cX10_lays 15 = .ok (.getfield 159, 3) := by decide +kernel
theorem dX10_lays_18 : decode cX10_lays 18 = .ok (.imul, 1) := by decide +kernel
theorem dX10_lays_19 : decode cX10_lays 19 = .ok (.iload_n 1, 1) := by decide +kernel
theorem dX10_lays_20 : decode cX10_lays 20 = .ok (.iadd, 1) := by decide +kernel
theorem dX10_lays_21 : decode cX10_lays 21 = .ok (.aload_n 0, 1) := by decide +kernel
theorem dX10_lays_22 : decode cX10_lays 22 = .ok (.getfield 22, 3) := by decide +kernel
theorem dX10_lays_25 : decode cX10_lays 25 = .ok (.iload_n 1, 1) := by decide +kernel
theorem dX10_lays_26 : decode cX10_lays 26 = .ok (.iaload, 1) := by decide +kernel
theorem dX10_lays_27 : decode cX10_lays 27 = .ok (.iastore, 1) := by decide +kernel
theorem dX10_lays_28 : decode cX10_lays 28 = .ok (.iinc 1 1, 3) := by decide +kernel
theorem dX10_lays_31 : decode cX10_lays 31 = .ok (.goto (-29), 3) := by decide +kernel
theorem dX10_lays_34 : decode cX10_lays 34 = .ok (.return_, 1) := by decide +kernel
theorem dX10_fetches_0 : decode cX10_fetches 0 = .ok (.iconst 0, 1) := by decide +kernel
theorem dX10_fetches_1 : decode cX10_fetches 1 = .ok (.istore_n 1, 1) := by decide +kernel
theorem dX10_fetches_2 : decode cX10_fetches 2 = .ok (.iload_n 1, 1) := by decide +kernel
theorem dX10_fetches_3 : decode cX10_fetches 3 = .ok (.bipush 120, 2) := by decide +kernel
theorem dX10_fetches_5 : decode cX10_fetches 5 = .ok (.if_icmp .ge 29, 3) := by decide +kernel
theorem dX10_fetches_8 : decode cX10_fetches 8 = .ok (.aload_n 0, 1) := by decide +kernel
theorem dX10_fetches_9 : decode cX10_fetches 9 = .ok (.getfield 22, 3) := by decide +kernel
theorem dX10_fetches_12 : decode cX10_fetches 12 = .ok (.iload_n 1, 1) := by decide +kernel
theorem dX10_fetches_13 : decode cX10_fetches 13 = .ok (.aload_n 0, 1) := by decide +kernel
theorem dX10_fetches_14 : decode cX10_fetches 14 = .ok (.getfield 40, 3) := by decide +kernel
theorem dX10_fetches_17 : decode cX10_fetches 17 = .ok (.bipush 120, 2) := by decide +kernel
theorem dX10_fetches_19 : decode cX10_fetches 19 = .ok (.aload_n 0, 1) := by decide +kernel
theorem dX10_fetches_20 : decode cX10_fetches 20 = .ok (.getfield 159, 3) := by decide +kernel
theorem dX10_fetches_23 : decode cX10_fetches 23 = .ok (.imul, 1) := by decide +kernel
theorem dX10_fetches_24 : decode cX10_fetches 24 = .ok (.iload_n 1, 1) := by decide +kernel
theorem dX10_fetches_25 : decode cX10_fetches 25 = .ok (.iadd, 1) := by decide +kernel
theorem dX10_fetches_26 : decode cX10_fetches 26 = .ok (.iaload, 1) := by decide +kernel
theorem dX10_fetches_27 : decode cX10_fetches 27 = .ok (.iastore, 1) := by decide +kernel
theorem dX10_fetches_28 : decode cX10_fetches 28 = .ok (.iinc 1 1, 3) := by decide +kernel
theorem dX10_fetches_31 : decode cX10_fetches 31 = .ok (.goto (-29), 3) := by decide +kernel
theorem dX10_fetches_34 : decode cX10_fetches 34 = .ok (.return_, 1) := by decide +kernel
theorem dX10_changed_0 : decode cX10_changed 0 = .ok (.aload_n 0, 1) := by decide +kernel
theorem dX10_changed_1 : decode cX10_changed 1 = .ok (.getfield 159, 3) := by decide +kernel
theorem dX10_changed_4 : decode cX10_changed 4 = .ok (.bipush 16, 2) := by decide +kernel
theorem dX10_changed_6 : decode cX10_changed 6 = .ok (.if_icmp .ne 43, 3) := by decide +kernel
theorem dX10_changed_9 : decode cX10_changed 9 = .ok (.iconst 0, 1) := by decide +kernel
theorem dX10_changed_10 : decode cX10_changed 10 = .ok (.istore_n 1, 1) := by decide +kernel
theorem dX10_changed_11 : decode cX10_changed 11 = .ok (.iload_n 1, 1) := by decide +kernel
theorem dX10_changed_12 : decode cX10_changed 12 = .ok (.sipush 1920, 3) := by decide +kernel
theorem dX10_changed_15 : decode cX10_changed 15 = .ok (.if_icmp .ge 24, 3) := by decide +kernel
theorem dX10_changed_18 : decode cX10_changed 18 = .ok (.aload_n 0, 1) := by decide +kernel
theorem dX10_changed_19 : decode cX10_changed 19 = .ok (.getfield 40, 3) := by decide +kernel
theorem dX10_changed_22 : decode cX10_changed 22 = .ok (.iload_n 1, 1) := by decide +kernel
theorem dX10_changed_23 : decode cX10_changed 23 = .ok (.aload_n 0, 1) := by decide +kernel
theorem dX10_changed_24 : decode cX10_changed 24 = .ok (.getfield 40, 3) := by decide +kernel
theorem dX10_changed_27 : decode cX10_changed 27 = .ok (.iload_n 1, 1) := by decide +kernel
theorem dX10_changed_28 : decode cX10_changed 28 = .ok (.bipush 120, 2) := by decide +kernel
theorem dX10_changed_30 : decode cX10_changed 30 = .ok (.iadd, 1) := by decide +kernel
theorem dX10_changed_31 : decode cX10_changed 31 = .ok (.iaload, 1) := by decide +kernel
theorem dX10_changed_32 : decode cX10_changed 32 = .ok (.iastore, 1) := by decide +kernel
theorem dX10_changed_33 : decode cX10_changed 33 = .ok (.iinc 1 1, 3) := by decide +kernel
theorem dX10_changed_36 : decode cX10_changed 36 = .ok (.goto (-25), 3) := by decide +kernel
theorem dX10_changed_39 : decode cX10_changed 39 = .ok (.aload_n 0, 1) := by decide +kernel
theorem dX10_changed_40 : decode cX10_changed 40 = .ok (.dup, 1) := by decide +kernel
theorem dX10_changed_41 : decode cX10_changed 41 = .ok (.getfield 159, 3) := by decide +kernel
theorem dX10_changed_44 : decode cX10_changed 44 = .ok (.iconst 1, 1) := by decide +kernel
theorem dX10_changed_45 : decode cX10_changed 45 = .ok (.isub, 1) := by decide +kernel
theorem dX10_changed_46 : decode cX10_changed 46 = .ok (.putfield 159, 3) := by decide +kernel
theorem dX10_changed_49 : decode cX10_changed 49 = .ok (.aload_n 0, 1) := by decide +kernel
theorem dX10_changed_50 : decode cX10_changed 50 = .ok (.dup, 1) := by decide +kernel
theorem dX10_changed_51 : decode cX10_changed 51 = .ok (.getfield 159, 3) := by decide +kernel
theorem dX10_changed_54 : decode cX10_changed 54 = .ok (.iconst 1, 1) := by decide +kernel
theorem dX10_changed_55 : decode cX10_changed 55 = .ok (.iadd, 1) := by decide +kernel
theorem dX10_changed_56 : decode cX10_changed 56 = .ok (.putfield 159, 3) := by decide +kernel
theorem dX10_changed_59 : decode cX10_changed 59 = .ok (.aload_n 0, 1) := by decide +kernel
theorem dX10_changed_60 : decode cX10_changed 60 = .ok (.iconst 0, 1) := by decide +kernel
theorem dX10_changed_61 : decode cX10_changed 61 = .ok (.putfield 162, 3) := by decide +kernel
theorem dX10_changed_64 : decode cX10_changed 64 = .ok (.aload_n 0, 1) := by decide +kernel
theorem dX10_changed_65 : decode cX10_changed 65 = .ok (.invokevirtual 165, 3) := by decide +kernel
theorem dX10_changed_68 : decode cX10_changed 68 = .ok (.return_, 1) := by decide +kernel
theorem dX10_undo_0 : decode cX10_undo 0 = .ok (.aload_n 0, 1) := by decide +kernel
theorem dX10_undo_1 : decode cX10_undo 1 = .ok (.getfield 159, 3) := by decide +kernel
theorem dX10_undo_4 : decode cX10_undo 4 = .ok (.ifCond .ne 6, 3) := by decide +kernel
theorem dX10_undo_7 : decode cX10_undo 7 = .ok (.bipush (-5), 2) := by decide +kernel
theorem dX10_undo_9 : decode cX10_undo 9 = .ok (.ireturn, 1) := by decide +kernel
theorem dX10_undo_10 : decode cX10_undo 10 = .ok (.aload_n 0, 1) := by decide +kernel
theorem dX10_undo_11 : decode cX10_undo 11 = .ok (.dup, 1) := by decide +kernel
theorem dX10_undo_12 : decode cX10_undo 12 = .ok (.getfield 159, 3) := by decide +kernel
theorem dX10_undo_15 : decode cX10_undo 15 = .ok (.iconst 1, 1) := by decide +kernel
theorem dX10_undo_16 : decode cX10_undo 16 = .ok (.isub, 1) := by decide +kernel
theorem dX10_undo_17 : decode cX10_undo 17 = .ok (.putfield 159, 3) := by decide +kernel
theorem dX10_undo_20 : decode cX10_undo 20 = .ok (.aload_n 0, 1) := by decide +kernel
theorem dX10_undo_21 : decode cX10_undo 21 = .ok (.dup, 1) := by decide +kernel
theorem dX10_undo_22 : decode cX10_undo 22 = .ok (.getfield 162, 3) := by decide +kernel
theorem dX10_undo_25 : decode cX10_undo 25 = .ok (.iconst 1, 1) := by decide +kernel
theorem dX10_undo_26 : decode cX10_undo 26 = .ok (.iadd, 1) := by decide +kernel
theorem dX10_undo_27 : decode cX10_undo 27 = .ok (.putfield 162, 3) := by decide +kernel
theorem dX10_undo_30 : decode cX10_undo 30 = .ok (.aload_n 0, 1) := by decide +kernel
theorem dX10_undo_31 : decode cX10_undo 31 = .ok (.invokevirtual 168, 3) := by decide +kernel
theorem dX10_undo_34 : decode cX10_undo 34 = .ok (.aload_n 0, 1) := by decide +kernel
theorem dX10_undo_35 : decode cX10_undo 35 = .ok (.getfield 159, 3) := by decide +kernel
theorem dX10_undo_38 : decode cX10_undo 38 = .ok (.ireturn, 1) := by decide +kernel
theorem dX10_redo_0 : decode cX10_redo 0 = .ok (.aload_n 0, 1) := by decide +kernel
theorem dX10_redo_1 : decode cX10_redo 1 = .ok (.getfield 162, 3) := by decide +kernel
theorem dX10_redo_4 : decode cX10_redo 4 = .ok (.ifCond .ne 6, 3) := by decide +kernel
theorem dX10_redo_7 : decode cX10_redo 7 = .ok (.bipush (-5), 2) := by decide +kernel
theorem dX10_redo_9 : decode cX10_redo 9 = .ok (.ireturn, 1) := by decide +kernel
theorem dX10_redo_10 : decode cX10_redo 10 = .ok (.aload_n 0, 1) := by decide +kernel
theorem dX10_redo_11 : decode cX10_redo 11 = .ok (.dup, 1) := by decide +kernel
theorem dX10_redo_12 : decode cX10_redo 12 = .ok (.getfield 159, 3) := by decide +kernel
theorem dX10_redo_15 : decode cX10_redo 15 = .ok (.iconst 1, 1) := by decide +kernel
theorem dX10_redo_16 : decode cX10_redo 16 = .ok (.iadd, 1) := by decide +kernel
theorem dX10_redo_17 : decode cX10_redo 17 = .ok (.putfield 159, 3) := by decide +kernel
theorem dX10_redo_20 : decode cX10_redo 20 = .ok (.aload_n 0, 1) := by decide +kernel
theorem dX10_redo_21 : decode cX10_redo 21 = .ok (.dup, 1) := by decide +kernel
theorem dX10_redo_22 : decode cX10_redo 22 = .ok (.getfield 162, 3) := by decide +kernel
theorem dX10_redo_25 : decode cX10_redo 25 = .ok (.iconst 1, 1) := by decide +kernel
theorem dX10_redo_26 : decode cX10_redo 26 = .ok (.isub, 1) := by decide +kernel
theorem dX10_redo_27 : decode cX10_redo 27 = .ok (.putfield 162, 3) := by decide +kernel
theorem dX10_redo_30 : decode cX10_redo 30 = .ok (.aload_n 0, 1) := by decide +kernel
theorem dX10_redo_31 : decode cX10_redo 31 = .ok (.invokevirtual 168, 3) := by decide +kernel
theorem dX10_redo_34 : decode cX10_redo 34 = .ok (.aload_n 0, 1) := by decide +kernel
theorem dX10_redo_35 : decode cX10_redo 35 = .ok (.getfield 162, 3) := by decide +kernel
theorem dX10_redo_38 : decode cX10_redo 38 = .ok (.ireturn, 1) := by decide +kernel
theorem dX10_begins_0 : decode cX10_begins 0 = .ok (.aload_n 0, 1) := by decide +kernel
theorem dX10_begins_1 : decode cX10_begins 1 = .ok (.iconst 0, 1) := by decide +kernel
theorem dX10_begins_2 : decode cX10_begins 2 = .ok (.putfield 159, 3) := by decide +kernel
theorem dX10_begins_5 : decode cX10_begins 5 = .ok (.aload_n 0, 1) := by decide +kernel
theorem dX10_begins_6 : decode cX10_begins 6 = .ok (.iconst 0, 1) := by decide +kernel
theorem dX10_begins_7 : decode cX10_begins 7 = .ok (.putfield 162, 3) := by decide +kernel
theorem dX10_begins_10 : decode cX10_begins 10 = .ok (.aload_n 0, 1) := by decide +kernel
theorem dX10_begins_11 : decode cX10_begins 11 = .ok (.invokevirtual 165, 3) := by decide +kernel
theorem dX10_begins_14 : decode cX10_begins 14 = .ok (.aload_n 0, 1) := by decide +kernel
theorem dX10_begins_15 : decode cX10_begins 15 = .ok (.invokevirtual 171, 3) := by decide +kernel
theorem dX10_begins_18 : decode cX10_begins 18 = .ok (.return_, 1) := by decide +kernel
theorem dX10_placeOf_0 : decode cX10_placeOf 0 = .ok (.bipush 24, 2) := by decide +kernel
theorem dX10_placeOf_2 : decode cX10_placeOf 2 = .ok (.aload_n 0, 1) := by decide +kernel
theorem dX10_placeOf_3 : decode cX10_placeOf 3 = .ok (.getfield 16, 3) := by decide +kernel
theorem dX10_placeOf_6 : decode cX10_placeOf 6 = .ok (.iload_n 1, 1) := by decide +kernel
theorem dX10_placeOf_7 : decode cX10_placeOf 7 = .ok (.iaload, 1) := by decide +kernel
theorem dX10_placeOf_8 : decode cX10_placeOf 8 = .ok (.imul, 1) := by decide +kernel
theorem dX10_placeOf_9 : decode cX10_placeOf 9 = .ok (.istore_n 2, 1) := by decide +kernel
theorem dX10_placeOf_10 : decode cX10_placeOf 10 = .ok (.aload_n 0, 1) := by decide +kernel
theorem dX10_placeOf_11 : decode cX10_placeOf 11 = .ok (.getfield 22, 3) := by decide +kernel
theorem dX10_placeOf_14 : decode cX10_placeOf 14 = .ok (.iload_n 2, 1) := by decide +kernel
theorem dX10_placeOf_15 : decode cX10_placeOf 15 = .ok (.iaload, 1) := by decide +kernel
theorem dX10_placeOf_16 : decode cX10_placeOf 16 = .ok (.iload_n 1, 1) := by decide +kernel
theorem dX10_placeOf_17 : decode cX10_placeOf 17 = .ok (.if_icmp .eq 9, 3) := by decide +kernel
theorem dX10_placeOf_20 : decode cX10_placeOf 20 = .ok (.iinc 2 1, 3) := by decide +kernel
theorem dX10_placeOf_23 : decode cX10_placeOf 23 = .ok (.goto (-13), 3) := by decide +kernel
theorem dX10_placeOf_26 : decode cX10_placeOf 26 = .ok (.iload_n 2, 1) := by decide +kernel
theorem dX10_placeOf_27 : decode cX10_placeOf 27 = .ok (.bipush 24, 2) := by decide +kernel
theorem dX10_placeOf_29 : decode cX10_placeOf 29 = .ok (.aload_n 0, 1) := by decide +kernel
theorem dX10_placeOf_30 : decode cX10_placeOf 30 = .ok (.getfield 16, 3) := by decide +kernel
theorem dX10_placeOf_33 : decode cX10_placeOf 33 = .ok (.iload_n 1, 1) := by decide +kernel
theorem dX10_placeOf_34 : decode cX10_placeOf 34 = .ok (.iaload, 1) := by decide +kernel
theorem dX10_placeOf_35 : decode cX10_placeOf 35 = .ok (.imul, 1) := by decide +kernel
theorem dX10_placeOf_36 : decode cX10_placeOf 36 = .ok (.isub, 1) := by decide +kernel
theorem dX10_placeOf_37 : decode cX10_placeOf 37 = .ok (.ireturn, 1) := by decide +kernel
theorem dX10_task_0 : decode cX10_task 0 = .ok (.aload_n 0, 1) := by decide +kernel
theorem dX10_task_1 : decode cX10_task 1 = .ok (.iload_n 1, 1) := by decide +kernel
theorem dX10_task_2 : decode cX10_task 2 = .ok (.invokevirtual 174, 3) := by decide +kernel
theorem dX10_task_5 : decode cX10_task 5 = .ok (.ifCond .eq 12, 3) := by decide +kernel
theorem dX10_task_8 : decode cX10_task 8 = .ok (.iload_n 2, 1) := by decide +kernel
theorem dX10_task_9 : decode cX10_task 9 = .ok (.iconst 0, 1) := by decide +kernel
theorem dX10_task_10 : decode cX10_task 10 = .ok (.iconst 4, 1) := by decide +kernel
theorem dX10_task_11 : decode cX10_task 11 = .ok (.invokestatic 108, 3) := by decide +kernel
theorem dX10_task_14 : decode cX10_task 14 = .ok (.ifCond .ne 5, 3) := by decide +kernel
theorem dX10_task_17 : decode cX10_task 17 = .ok (.iconst (-1), 1) := by decide +kernel
theorem dX10_task_18 : decode cX10_task 18 = .ok (.ireturn, 1) := by decide +kernel
theorem dX10_task_19 : decode cX10_task 19 = .ok (.iload_n 2, 1) := by decide +kernel
theorem dX10_task_20 : decode cX10_task 20 = .ok (.ifCond .ne 12, 3) := by decide +kernel
theorem dX10_task_23 : decode cX10_task 23 = .ok (.aload_n 0, 1) := by decide +kernel
theorem dX10_task_24 : decode cX10_task 24 = .ok (.getfield 9, 3) := by decide +kernel
theorem dX10_task_27 : decode cX10_task 27 = .ok (.iload_n 1, 1) := by decide +kernel
theorem dX10_task_28 : decode cX10_task 28 = .ok (.iaload, 1) := by decide +kernel
theorem dX10_task_29 : decode cX10_task 29 = .ok (.goto 50, 3) := by decide +kernel
theorem dX10_task_32 : decode cX10_task 32 = .ok (.iload_n 2, 1) := by decide +kernel
theorem dX10_task_33 : decode cX10_task 33 = .ok (.iconst 1, 1) := by decide +kernel
theorem dX10_task_34 : decode cX10_task 34 = .ok (.if_icmp .ne 12, 3) := by decide +kernel
theorem dX10_task_37 : decode cX10_task 37 = .ok (.aload_n 0, 1) := by decide +kernel
theorem dX10_task_38 : decode cX10_task 38 = .ok (.getfield 13, 3) := by decide +kernel
theorem dX10_task_41 : decode cX10_task 41 = .ok (.iload_n 1, 1) := by decide +kernel
theorem dX10_task_42 : decode cX10_task 42 = .ok (.iaload, 1) := by decide +kernel
theorem dX10_task_43 : decode cX10_task 43 = .ok (.goto 36, 3) := by decide +kernel
theorem dX10_task_46 : decode cX10_task 46 = .ok (.iload_n 2, 1) := by decide +kernel
theorem dX10_task_47 : decode cX10_task 47 = .ok (.iconst 2, 1) := by decide +kernel
theorem dX10_task_48 : decode cX10_task 48 = .ok (.if_icmp .ne 12, 3) := by decide +kernel
theorem dX10_task_51 : decode cX10_task 51 = .ok (.aload_n 0, 1) := by decide +kernel
theorem dX10_task_52 : decode cX10_task 52 = .ok (.getfield 16, 3) := by decide +kernel
theorem dX10_task_55 : decode cX10_task 55 = .ok (.iload_n 1, 1) := by decide +kernel
theorem dX10_task_56 : decode cX10_task 56 = .ok (.iaload, 1) := by decide +kernel
theorem dX10_task_57 : decode cX10_task 57 = .ok (.goto 22, 3) := by decide +kernel
theorem dX10_task_60 : decode cX10_task 60 = .ok (.iload_n 2, 1) := by decide +kernel
theorem dX10_task_61 : decode cX10_task 61 = .ok (.iconst 3, 1) := by decide +kernel
theorem dX10_task_62 : decode cX10_task 62 = .ok (.if_icmp .ne 12, 3) := by decide +kernel
theorem dX10_task_65 : decode cX10_task 65 = .ok (.aload_n 0, 1) := by decide +kernel
theorem dX10_task_66 : decode cX10_task 66 = .ok (.getfield 19, 3) := by decide +kernel
theorem dX10_task_69 : decode cX10_task 69 = .ok (.iload_n 1, 1) := by decide +kernel
theorem dX10_task_70 : decode cX10_task 70 = .ok (.iaload, 1) := by decide +kernel
theorem dX10_task_71 : decode cX10_task 71 = .ok (.goto 8, 3) := by decide +kernel
theorem dX10_task_74 : decode cX10_task 74 = .ok (.aload_n 0, 1) := by decide +kernel
theorem dX10_task_75 : decode cX10_task 75 = .ok (.iload_n 1, 1) := by decide +kernel
theorem dX10_task_76 : decode cX10_task 76 = .ok (.invokevirtual 177, 3) := by decide +kernel
theorem dX10_task_79 : decode cX10_task 79 = .ok (.ireturn, 1) := by decide +kernel
theorem dX10_order_0 : decode cX10_order 0 = .ok (.iload_n 1, 1) := by decide +kernel
theorem dX10_order_1 : decode cX10_order 1 = .ok (.invokestatic 181, 3) := by decide +kernel
theorem dX10_order_4 : decode cX10_order 4 = .ok (.ifCond .eq 8, 3) := by decide +kernel
theorem dX10_order_7 : decode cX10_order 7 = .ok (.iload_n 2, 1) := by decide +kernel
theorem dX10_order_8 : decode cX10_order 8 = .ok (.iconst (-1), 1) := by decide +kernel
theorem dX10_order_9 : decode cX10_order 9 = .ok (.if_icmp .ge 5, 3) := by decide +kernel
theorem dX10_order_12 : decode cX10_order 12 = .ok (.iconst (-1), 1) := by decide +kernel
theorem dX10_order_13 : decode cX10_order 13 = .ok (.ireturn, 1) := by decide +kernel
theorem dX10_order_14 : decode cX10_order 14 = .ok (.aload_n 0, 1) := by decide +kernel
theorem dX10_order_15 : decode cX10_order 15 = .ok (.getfield 105, 3) := by decide +kernel
theorem dX10_order_18 : decode cX10_order 18 = .ok (.ifCond .ne 6, 3) := by decide +kernel
theorem dX10_order_21 : decode cX10_order 21 = .ok (.bipush (-5), 2) := by decide +kernel
theorem dX10_order_23 : decode cX10_order 23 = .ok (.ireturn, 1) := by decide +kernel
theorem dX10_order_24 : decode cX10_order 24 = .ok (.iload_n 2, 1) := by decide +kernel
theorem dX10_order_25 : decode cX10_order 25 = .ok (.ifCond .ge 12, 3) := by decide +kernel
theorem dX10_order_28 : decode cX10_order 28 = .ok (.aload_n 0, 1) := by decide +kernel
theorem dX10_order_29 : decode cX10_order 29 = .ok (.getfield 25, 3) := by decide +kernel
theorem dX10_order_32 : decode cX10_order 32 = .ok (.iload_n 1, 1) := by decide +kernel
theorem dX10_order_33 : decode cX10_order 33 = .ok (.iaload, 1) := by decide +kernel
theorem dX10_order_34 : decode cX10_order 34 = .ok (.goto 29, 3) := by decide +kernel
theorem dX10_order_37 : decode cX10_order 37 = .ok (.iload_n 2, 1) := by decide +kernel
theorem dX10_order_38 : decode cX10_order 38 = .ok (.aload_n 0, 1) := by decide +kernel
theorem dX10_order_39 : decode cX10_order 39 = .ok (.getfield 25, 3) := by decide +kernel
theorem dX10_order_42 : decode cX10_order 42 = .ok (.iload_n 1, 1) := by decide +kernel
theorem dX10_order_43 : decode cX10_order 43 = .ok (.iaload, 1) := by decide +kernel
theorem dX10_order_44 : decode cX10_order 44 = .ok (.if_icmp .ge 17, 3) := by decide +kernel
theorem dX10_order_47 : decode cX10_order 47 = .ok (.aload_n 0, 1) := by decide +kernel
theorem dX10_order_48 : decode cX10_order 48 = .ok (.getfield 22, 3) := by decide +kernel
theorem dX10_order_51 : decode cX10_order 51 = .ok (.bipush 24, 2) := by decide +kernel
theorem dX10_order_53 : decode cX10_order 53 = .ok (.iload_n 1, 1) := by decide +kernel
theorem dX10_order_54 : decode cX10_order 54 = .ok (.imul, 1) := by decide +kernel
theorem dX10_order_55 : decode cX10_order 55 = .ok (.iload_n 2, 1) := by decide +kernel
theorem dX10_order_56 : decode cX10_order 56 = .ok (.iadd, 1) := by decide +kernel
theorem dX10_order_57 : decode cX10_order 57 = .ok (.iaload, 1) := by decide +kernel
theorem dX10_order_58 : decode cX10_order 58 = .ok (.goto 5, 3) := by decide +kernel
theorem dX10_order_61 : decode cX10_order 61 = .ok (.bipush (-2), 2) := by decide +kernel
theorem dX10_order_63 : decode cX10_order 63 = .ok (.ireturn, 1) := by decide +kernel
theorem dX10_swaps_0 : decode cX10_swaps 0 = .ok (.bipush 24, 2) := by decide +kernel
theorem dX10_swaps_2 : decode cX10_swaps 2 = .ok (.iload_n 1, 1) := by decide +kernel
theorem dX10_swaps_3 : decode cX10_swaps 3 = .ok (.imul, 1) := by decide +kernel
theorem dX10_swaps_4 : decode cX10_swaps 4 = .ok (.iload_n 2, 1) := by decide +kernel
theorem dX10_swaps_5 : decode cX10_swaps 5 = .ok (.iadd, 1) := by decide +kernel
theorem dX10_swaps_6 : decode cX10_swaps 6 = .ok (.istore_n 3, 1) := by decide +kernel
theorem dX10_swaps_7 : decode cX10_swaps 7 = .ok (.aload_n 0, 1) := by decide +kernel
theorem dX10_swaps_8 : decode cX10_swaps 8 = .ok (.getfield 22, 3) := by decide +kernel
theorem dX10_swaps_11 : decode cX10_swaps 11 = .ok (.iload_n 3, 1) := by decide +kernel
theorem dX10_swaps_12 : decode cX10_swaps 12 = .ok (.iaload, 1) := by decide +kernel
theorem dX10_swaps_13 : decode cX10_swaps 13 = .ok (.istore 4, 2) := by decide +kernel
theorem dX10_swaps_15 : decode cX10_swaps 15 = .ok (.aload_n 0, 1) := by decide +kernel
theorem dX10_swaps_16 : decode cX10_swaps 16 = .ok (.getfield 22, 3) := by decide +kernel
theorem dX10_swaps_19 : decode cX10_swaps 19 = .ok (.iload_n 3, 1) := by decide +kernel
theorem dX10_swaps_20 : decode cX10_swaps 20 = .ok (.aload_n 0, 1) := by decide +kernel
theorem dX10_swaps_21 : decode cX10_swaps 21 = .ok (.getfield 22, 3) := by decide +kernel
theorem dX10_swaps_24 : decode cX10_swaps 24 = .ok (.iload_n 3, 1) := by decide +kernel
theorem dX10_swaps_25 : decode cX10_swaps 25 = .ok (.iconst 1, 1) := by decide +kernel
theorem dX10_swaps_26 : decode cX10_swaps 26 = .ok (.iadd, 1) := by decide +kernel
theorem dX10_swaps_27 : decode cX10_swaps 27 = .ok (.iaload, 1) := by decide +kernel
theorem dX10_swaps_28 : decode cX10_swaps 28 = .ok (.iastore, 1) := by decide +kernel
theorem dX10_swaps_29 : decode cX10_swaps 29 = .ok (.aload_n 0, 1) := by decide +kernel
theorem dX10_swaps_30 : decode cX10_swaps 30 = .ok (.getfield 22, 3) := by decide +kernel
theorem dX10_swaps_33 : decode cX10_swaps 33 = .ok (.iload_n 3, 1) := by decide +kernel
theorem dX10_swaps_34 : decode cX10_swaps 34 = .ok (.iconst 1, 1) := by decide +kernel
theorem dX10_swaps_35 : decode cX10_swaps 35 = .ok (.iadd, 1) := by decide +kernel
theorem dX10_swaps_36 : decode cX10_swaps 36 = .ok (.iload 4, 2) := by decide +kernel
theorem dX10_swaps_38 : decode cX10_swaps 38 = .ok (.iastore, 1) := by decide +kernel
theorem dX10_swaps_39 : decode cX10_swaps 39 = .ok (.return_, 1) := by decide +kernel
theorem dX10_turn_0 : decode cX10_turn 0 = .ok (.iload_n 1, 1) := by decide +kernel
theorem dX10_turn_1 : decode cX10_turn 1 = .ok (.invokestatic 181, 3) := by decide +kernel
theorem dX10_turn_4 : decode cX10_turn 4 = .ok (.ifCond .eq 26, 3) := by decide +kernel
theorem dX10_turn_7 : decode cX10_turn 7 = .ok (.iload_n 2, 1) := by decide +kernel
theorem dX10_turn_8 : decode cX10_turn 8 = .ok (.ifCond .lt 22, 3) := by decide +kernel
theorem dX10_turn_11 : decode cX10_turn 11 = .ok (.aload_n 0, 1) := by decide +kernel
theorem dX10_turn_12 : decode cX10_turn 12 = .ok (.getfield 105, 3) := by decide +kernel
theorem dX10_turn_15 : decode cX10_turn 15 = .ok (.ifCond .eq 15, 3) := by decide +kernel
theorem dX10_turn_18 : decode cX10_turn 18 = .ok (.iload_n 2, 1) := by decide +kernel
theorem dX10_turn_19 : decode cX10_turn 19 = .ok (.aload_n 0, 1) := by decide +kernel
theorem dX10_turn_20 : decode cX10_turn 20 = .ok (.getfield 25, 3) := by decide +kernel
theorem dX10_turn_23 : decode cX10_turn 23 = .ok (.iload_n 1, 1) := by decide +kernel
theorem dX10_turn_24 : decode cX10_turn 24 = .ok (.iaload, 1) := by decide +kernel
theorem dX10_turn_25 : decode cX10_turn 25 = .ok (.iconst 1, 1) := by decide +kernel
theorem dX10_turn_26 : decode cX10_turn 26 = .ok (.isub, 1) := by decide +kernel
theorem dX10_turn_27 : decode cX10_turn 27 = .ok (.if_icmp .lt 5, 3) := by decide +kernel
theorem dX10_turn_30 : decode cX10_turn 30 = .ok (.iconst (-1), 1) := by decide +kernel
theorem dX10_turn_31 : decode cX10_turn 31 = .ok (.ireturn, 1) := by decide +kernel
theorem dX10_turn_32 : decode cX10_turn 32 = .ok (.aload_n 0, 1) := by decide +kernel
theorem dX10_turn_33 : decode cX10_turn 33 = .ok (.iload_n 1, 1) := by decide +kernel
theorem dX10_turn_34 : decode cX10_turn 34 = .ok (.iload_n 2, 1) := by decide +kernel
theorem dX10_turn_35 : decode cX10_turn 35 = .ok (.invokevirtual 184, 3) := by decide +kernel
theorem dX10_turn_38 : decode cX10_turn 38 = .ok (.aload_n 0, 1) := by decide +kernel
theorem dX10_turn_39 : decode cX10_turn 39 = .ok (.invokevirtual 188, 3) := by decide +kernel
theorem dX10_turn_42 : decode cX10_turn 42 = .ok (.aload_n 0, 1) := by decide +kernel
theorem dX10_turn_43 : decode cX10_turn 43 = .ok (.invokevirtual 191, 3) := by decide +kernel
theorem dX10_turn_46 : decode cX10_turn 46 = .ok (.ifCond .eq 10, 3) := by decide +kernel
theorem dX10_turn_49 : decode cX10_turn 49 = .ok (.aload_n 0, 1) := by decide +kernel
theorem dX10_turn_50 : decode cX10_turn 50 = .ok (.getfield 195, 3) := by decide +kernel
theorem dX10_turn_53 : decode cX10_turn 53 = .ok (.goto 5, 3) := by decide +kernel
theorem dX10_turn_56 : decode cX10_turn 56 = .ok (.bipush (-4), 2) := by decide +kernel
theorem dX10_turn_58 : decode cX10_turn 58 = .ok (.ireturn, 1) := by decide +kernel
theorem dX10_jobAhead_0 : decode cX10_jobAhead 0 = .ok (.aload_n 0, 1) := by decide +kernel
theorem dX10_jobAhead_1 : decode cX10_jobAhead 1 = .ok (.getfield 13, 3) := by decide +kernel
theorem dX10_jobAhead_4 : decode cX10_jobAhead 4 = .ok (.iload_n 1, 1) := by decide +kernel
theorem dX10_jobAhead_5 : decode cX10_jobAhead 5 = .ok (.iaload, 1) := by decide +kernel
theorem dX10_jobAhead_6 : decode cX10_jobAhead 6 = .ok (.ifCond .le 9, 3) := by decide +kernel
theorem dX10_jobAhead_9 : decode cX10_jobAhead 9 = .ok (.iload_n 1, 1) := by decide +kernel
theorem dX10_jobAhead_10 : decode cX10_jobAhead 10 = .ok (.iconst 1, 1) := by decide +kernel
theorem dX10_jobAhead_11 : decode cX10_jobAhead 11 = .ok (.isub, 1) := by decide +kernel
theorem dX10_jobAhead_12 : decode cX10_jobAhead 12 = .ok (.goto 4, 3) := by decide +kernel
theorem dX10_jobAhead_15 : decode cX10_jobAhead 15 = .ok (.iconst (-1), 1) := by decide +kernel
theorem dX10_jobAhead_16 : decode cX10_jobAhead 16 = .ok (.ireturn, 1) := by decide +kernel
theorem dX10_jobBehind_0 : decode cX10_jobBehind 0 = .ok (.iload_n 1, 1) := by decide +kernel
theorem dX10_jobBehind_1 : decode cX10_jobBehind 1 = .ok (.iconst 1, 1) := by decide +kernel
theorem dX10_jobBehind_2 : decode cX10_jobBehind 2 = .ok (.iadd, 1) := by decide +kernel
theorem dX10_jobBehind_3 : decode cX10_jobBehind 3 = .ok (.aload_n 0, 1) := by decide +kernel
theorem dX10_jobBehind_4 : decode cX10_jobBehind 4 = .ok (.getfield 105, 3) := by decide +kernel
theorem dX10_jobBehind_7 : decode cX10_jobBehind 7 = .ok (.if_icmp .ge 26, 3) := by decide +kernel
theorem dX10_jobBehind_10 : decode cX10_jobBehind 10 = .ok (.aload_n 0, 1) := by decide +kernel
theorem dX10_jobBehind_11 : decode cX10_jobBehind 11 = .ok (.getfield 9, 3) := by decide +kernel
theorem dX10_jobBehind_14 : decode cX10_jobBehind 14 = .ok (.iload_n 1, 1) := by decide +kernel
theorem dX10_jobBehind_15 : decode cX10_jobBehind 15 = .ok (.iconst 1, 1) := by decide +kernel
theorem dX10_jobBehind_16 : decode cX10_jobBehind 16 = .ok (.iadd, 1) := by decide +kernel
theorem dX10_jobBehind_17 : decode cX10_jobBehind 17 = .ok (.iaload, 1) := by decide +kernel
theorem dX10_jobBehind_18 : decode cX10_jobBehind 18 = .ok (.aload_n 0, 1) := by decide +kernel
theorem dX10_jobBehind_19 : decode cX10_jobBehind 19 = .ok (.getfield 9, 3) := by decide +kernel
theorem dX10_jobBehind_22 : decode cX10_jobBehind 22 = .ok (.iload_n 1, 1) := by decide +kernel
theorem dX10_jobBehind_23 : decode cX10_jobBehind 23 = .ok (.iaload, 1) := by decide +kernel
theorem dX10_jobBehind_24 : decode cX10_jobBehind 24 = .ok (.if_icmp .ne 9, 3) := by decide +kernel
theorem dX10_jobBehind_27 : decode cX10_jobBehind 27 = .ok (.iload_n 1, 1) := by decide +kernel
theorem dX10_jobBehind_28 : decode cX10_jobBehind 28 = .ok (.iconst 1, 1) := by decide +kernel
theorem dX10_jobBehind_29 : decode cX10_jobBehind 29 = .ok (.iadd, 1) := by decide +kernel
theorem dX10_jobBehind_30 : decode cX10_jobBehind 30 = .ok (.goto 4, 3) := by decide +kernel
theorem dX10_jobBehind_33 : decode cX10_jobBehind 33 = .ok (.iconst (-1), 1) := by decide +kernel
theorem dX10_jobBehind_34 : decode cX10_jobBehind 34 = .ok (.ireturn, 1) := by decide +kernel
theorem dX10_endOf_0 : decode cX10_endOf 0 = .ok (.iload_n 1, 1) := by decide +kernel
theorem dX10_endOf_1 : decode cX10_endOf 1 = .ok (.ifCond .ge 7, 3) := by decide +kernel
theorem dX10_endOf_4 : decode cX10_endOf 4 = .ok (.iconst 0, 1) := by decide +kernel
theorem dX10_endOf_5 : decode cX10_endOf 5 = .ok (.goto 16, 3) := by decide +kernel
theorem dX10_endOf_8 : decode cX10_endOf 8 = .ok (.aload_n 0, 1) := by decide +kernel
theorem dX10_endOf_9 : decode cX10_endOf 9 = .ok (.getfield 49, 3) := by decide +kernel
theorem dX10_endOf_12 : decode cX10_endOf 12 = .ok (.iload_n 1, 1) := by decide +kernel
theorem dX10_endOf_13 : decode cX10_endOf 13 = .ok (.iaload, 1) := by decide +kernel
theorem dX10_endOf_14 : decode cX10_endOf 14 = .ok (.aload_n 0, 1) := by decide +kernel
theorem dX10_endOf_15 : decode cX10_endOf 15 = .ok (.getfield 19, 3) := by decide +kernel
theorem dX10_endOf_18 : decode cX10_endOf 18 = .ok (.iload_n 1, 1) := by decide +kernel
theorem dX10_endOf_19 : decode cX10_endOf 19 = .ok (.iaload, 1) := by decide +kernel
theorem dX10_endOf_20 : decode cX10_endOf 20 = .ok (.iadd, 1) := by decide +kernel
theorem dX10_endOf_21 : decode cX10_endOf 21 = .ok (.ireturn, 1) := by decide +kernel
theorem dX10_restOf_0 : decode cX10_restOf 0 = .ok (.iload_n 1, 1) := by decide +kernel
theorem dX10_restOf_1 : decode cX10_restOf 1 = .ok (.ifCond .ge 7, 3) := by decide +kernel
theorem dX10_restOf_4 : decode cX10_restOf 4 = .ok (.iconst 0, 1) := by decide +kernel
theorem dX10_restOf_5 : decode cX10_restOf 5 = .ok (.goto 16, 3) := by decide +kernel
theorem dX10_restOf_8 : decode cX10_restOf 8 = .ok (.aload_n 0, 1) := by decide +kernel
theorem dX10_restOf_9 : decode cX10_restOf 9 = .ok (.getfield 19, 3) := by decide +kernel
theorem dX10_restOf_12 : decode cX10_restOf 12 = .ok (.iload_n 1, 1) := by decide +kernel
theorem dX10_restOf_13 : decode cX10_restOf 13 = .ok (.iaload, 1) := by decide +kernel
theorem dX10_restOf_14 : decode cX10_restOf 14 = .ok (.aload_n 0, 1) := by decide +kernel
theorem dX10_restOf_15 : decode cX10_restOf 15 = .ok (.getfield 52, 3) := by decide +kernel
theorem dX10_restOf_18 : decode cX10_restOf 18 = .ok (.iload_n 1, 1) := by decide +kernel
theorem dX10_restOf_19 : decode cX10_restOf 19 = .ok (.iaload, 1) := by decide +kernel
theorem dX10_restOf_20 : decode cX10_restOf 20 = .ok (.iadd, 1) := by decide +kernel
theorem dX10_restOf_21 : decode cX10_restOf 21 = .ok (.ireturn, 1) := by decide +kernel
theorem dX10_isReady_0 : decode cX10_isReady 0 = .ok (.aload_n 0, 1) := by decide +kernel
theorem dX10_isReady_1 : decode cX10_isReady 1 = .ok (.getfield 58, 3) := by decide +kernel
theorem dX10_isReady_4 : decode cX10_isReady 4 = .ok (.iload_n 1, 1) := by decide +kernel
theorem dX10_isReady_5 : decode cX10_isReady 5 = .ok (.baload, 1) := by decide +kernel
theorem dX10_isReady_6 : decode cX10_isReady 6 = .ok (.ifCond .ne 51, 3) := by decide +kernel
theorem dX10_isReady_9 : decode cX10_isReady 9 = .ok (.aload_n 0, 1) := by decide +kernel
theorem dX10_isReady_10 : decode cX10_isReady 10 = .ok (.iload_n 1, 1) := by decide +kernel
theorem dX10_isReady_11 : decode cX10_isReady 11 = .ok (.invokevirtual 198, 3) := by decide +kernel
theorem dX10_isReady_14 : decode cX10_isReady 14 = .ok (.ifCond .lt 16, 3) := by decide +kernel
theorem dX10_isReady_17 : decode cX10_isReady 17 = .ok (.aload_n 0, 1) := by decide +kernel
theorem dX10_isReady_18 : decode cX10_isReady 18 = .ok (.getfield 58, 3) := by decide +kernel
theorem dX10_isReady_21 : decode cX10_isReady 21 = .ok (.aload_n 0, 1) := by decide +kernel
theorem dX10_isReady_22 : decode cX10_isReady 22 = .ok (.iload_n 1, 1) := by decide +kernel
theorem dX10_isReady_23 : decode cX10_isReady 23 = .ok (.invokevirtual 198, 3) := by decide +kernel
theorem dX10_isReady_26 : decode cX10_isReady 26 = .ok (.baload, 1) := by decide +kernel
theorem dX10_isReady_27 : decode cX10_isReady 27 = .ok (.ifCond .eq 30, 3) := by decide +kernel
theorem dX10_isReady_30 : decode cX10_isReady 30 = .ok (.aload_n 0, 1) := by decide +kernel
theorem dX10_isReady_31 : decode cX10_isReady 31 = .ok (.getfield 43, 3) := by decide +kernel
theorem dX10_isReady_34 : decode cX10_isReady 34 = .ok (.iload_n 1, 1) := by decide +kernel
theorem dX10_isReady_35 : decode cX10_isReady 35 = .ok (.iaload, 1) := by decide +kernel
theorem dX10_isReady_36 : decode cX10_isReady 36 = .ok (.ifCond .lt 17, 3) := by decide +kernel
theorem dX10_isReady_39 : decode cX10_isReady 39 = .ok (.aload_n 0, 1) := by decide +kernel
theorem dX10_isReady_40 : decode cX10_isReady 40 = .ok (.getfield 58, 3) := by decide +kernel
theorem dX10_isReady_43 : decode cX10_isReady 43 = .ok (.aload_n 0, 1) := by decide +kernel
theorem dX10_isReady_44 : decode cX10_isReady 44 = .ok (.getfield 43, 3) := by decide +kernel
theorem dX10_isReady_47 : decode cX10_isReady 47 = .ok (.iload_n 1, 1) := by decide +kernel
theorem dX10_isReady_48 : decode cX10_isReady 48 = .ok (.iaload, 1) := by decide +kernel
theorem dX10_isReady_49 : decode cX10_isReady 49 = .ok (.baload, 1) := by decide +kernel
theorem dX10_isReady_50 : decode cX10_isReady 50 = .ok (.ifCond .eq 7, 3) := by decide +kernel
theorem dX10_isReady_53 : decode cX10_isReady 53 = .ok (.iconst 1, 1) := by decide +kernel
theorem dX10_isReady_54 : decode cX10_isReady 54 = .ok (.goto 4, 3) := by decide +kernel
theorem dX10_isReady_57 : decode cX10_isReady 57 = .ok (.iconst 0, 1) := by decide +kernel
theorem dX10_isReady_58 : decode cX10_isReady 58 = .ok (.ireturn, 1) := by decide +kernel
theorem dX10_nextReady_0 : decode cX10_nextReady 0 = .ok (.iconst 0, 1) := by decide +kernel
theorem dX10_nextReady_1 : decode cX10_nextReady 1 = .ok (.istore_n 1, 1) := by decide +kernel
theorem dX10_nextReady_2 : decode cX10_nextReady 2 = .ok (.iload_n 1, 1) := by decide +kernel
theorem dX10_nextReady_3 : decode cX10_nextReady 3 = .ok (.aload_n 0, 1) := by decide +kernel
theorem dX10_nextReady_4 : decode cX10_nextReady 4 = .ok (.getfield 105, 3) := by decide +kernel
theorem dX10_nextReady_7 : decode cX10_nextReady 7 = .ok (.if_icmp .ge 19, 3) := by decide +kernel
theorem dX10_nextReady_10 : decode cX10_nextReady 10 = .ok (.aload_n 0, 1) := by decide +kernel
theorem dX10_nextReady_11 : decode cX10_nextReady 11 = .ok (.iload_n 1, 1) := by decide +kernel
theorem dX10_nextReady_12 : decode cX10_nextReady 12 = .ok (.invokevirtual 201, 3) := by decide +kernel
theorem dX10_nextReady_15 : decode cX10_nextReady 15 = .ok (.ifCond .eq 5, 3) := by decide +kernel
theorem dX10_nextReady_18 : decode cX10_nextReady 18 = .ok (.iload_n 1, 1) := by decide +kernel
theorem dX10_nextReady_19 : decode cX10_nextReady 19 = .ok (.ireturn, 1) := by decide +kernel
theorem dX10_nextReady_20 : decode cX10_nextReady 20 = .ok (.iinc 1 1, 3) := by decide +kernel
theorem dX10_nextReady_23 : decode cX10_nextReady 23 = .ok (.goto (-21), 3) := by decide +kernel
theorem dX10_nextReady_26 : decode cX10_nextReady 26 = .ok (.iconst (-1), 1) := by decide +kernel
theorem dX10_nextReady_27 : decode cX10_nextReady 27 = .ok (.ireturn, 1) := by decide +kernel
theorem dX10_neighbours_0 : decode cX10_neighbours 0 = .ok (.iconst 0, 1) := by decide +kernel
theorem dX10_neighbours_1 : decode cX10_neighbours 1 = .ok (.istore_n 1, 1) := by decide +kernel
theorem dX10_neighbours_2 : decode cX10_neighbours 2 = .ok (.iload_n 1, 1) := by decide +kernel
theorem dX10_neighbours_3 : decode cX10_neighbours 3 = .ok (.iconst 5, 1) := by decide +kernel
theorem dX10_neighbours_4 : decode cX10_neighbours 4 = .ok (.if_icmp .ge 101, 3) := by decide +kernel
theorem dX10_neighbours_7 : decode cX10_neighbours 7 = .ok (.iconst 0, 1) := by decide +kernel
theorem dX10_neighbours_8 : decode cX10_neighbours 8 = .ok (.istore_n 2, 1) := by decide +kernel
theorem dX10_neighbours_9 : decode cX10_neighbours 9 = .ok (.iload_n 2, 1) := by decide +kernel
theorem dX10_neighbours_10 : decode cX10_neighbours 10 = .ok (.aload_n 0, 1) := by decide +kernel
theorem dX10_neighbours_11 : decode cX10_neighbours 11 = .ok (.getfield 25, 3) := by decide +kernel
theorem dX10_neighbours_14 : decode cX10_neighbours 14 = .ok (.iload_n 1, 1) := by decide +kernel
theorem dX10_neighbours_15 : decode cX10_neighbours 15 = .ok (.iaload, 1) := by decide +kernel
theorem dX10_neighbours_16 : decode cX10_neighbours 16 = .ok (.if_icmp .ge 83, 3) := by decide +kernel
theorem dX10_neighbours_19 : decode cX10_neighbours 19 = .ok (.aload_n 0, 1) := by decide +kernel
theorem dX10_neighbours_20 : decode cX10_neighbours 20 = .ok (.getfield 22, 3) := by decide +kernel
theorem dX10_neighbours_23 : decode cX10_neighbours 23 = .ok (.bipush 24, 2) := by decide +kernel
theorem dX10_neighbours_25 : decode cX10_neighbours 25 = .ok (.iload_n 1, 1) := by decide +kernel
theorem dX10_neighbours_26 : decode cX10_neighbours 26 = .ok (.imul, 1) := by decide +kernel
theorem dX10_neighbours_27 : decode cX10_neighbours 27 = .ok (.iload_n 2, 1) := by decide +kernel
theorem dX10_neighbours_28 : decode cX10_neighbours 28 = .ok (.iadd, 1) := by decide +kernel
theorem dX10_neighbours_29 : decode cX10_neighbours 29 = .ok (.iaload, 1) := by decide +kernel
theorem dX10_neighbours_30 : decode cX10_neighbours 30 = .ok (.istore_n 3, 1) := by decide +kernel
theorem dX10_neighbours_31 : decode cX10_neighbours 31 = .ok (.aload_n 0, 1) := by decide +kernel
theorem dX10_neighbours_32 : decode cX10_neighbours 32 = .ok (.getfield 43, 3) := by decide +kernel
theorem dX10_neighbours_35 : decode cX10_neighbours 35 = .ok (.iload_n 3, 1) := by decide +kernel
theorem dX10_neighbours_36 : decode cX10_neighbours 36 = .ok (.iload_n 2, 1) := by decide +kernel
theorem dX10_neighbours_37 : decode cX10_neighbours 37 = .ok (.ifCond .le 19, 3) := by decide +kernel
theorem dX10_neighbours_40 : decode cX10_neighbours 40 = .ok (.aload_n 0, 1) := by decide +kernel
theorem dX10_neighbours_41 : decode cX10_neighbours 41 = .ok (.getfield 22, 3) := by decide +kernel
theorem dX10_neighbours_44 : decode cX10_neighbours 44 = .ok (.bipush 24, 2) := by decide +kernel
theorem dX10_neighbours_46 : decode cX10_neighbours 46 = .ok (.iload_n 1, 1) := by decide +kernel
theorem dX10_neighbours_47 : decode cX10_neighbours 47 = .ok (.imul, 1) := by decide +kernel
theorem dX10_neighbours_48 : decode cX10_neighbours 48 = .ok (.iload_n 2, 1) := by decide +kernel
theorem dX10_neighbours_49 : decode cX10_neighbours 49 = .ok (.iadd, 1) := by decide +kernel
theorem dX10_neighbours_50 : decode cX10_neighbours 50 = .ok (.iconst 1, 1) := by decide +kernel
theorem dX10_neighbours_51 : decode cX10_neighbours 51 = .ok (.isub, 1) := by decide +kernel
theorem dX10_neighbours_52 : decode cX10_neighbours 52 = .ok (.iaload, 1) := by decide +kernel
theorem dX10_neighbours_53 : decode cX10_neighbours 53 = .ok (.goto 4, 3) := by decide +kernel
theorem dX10_neighbours_56 : decode cX10_neighbours 56 = .ok (.iconst (-1), 1) := by decide +kernel
theorem dX10_neighbours_57 : decode cX10_neighbours 57 = .ok (.iastore, 1) := by decide +kernel
theorem dX10_neighbours_58 : decode cX10_neighbours 58 = .ok (.aload_n 0, 1) := by decide +kernel
theorem dX10_neighbours_59 : decode cX10_neighbours 59 = .ok (.getfield 46, 3) := by decide +kernel
theorem dX10_neighbours_62 : decode cX10_neighbours 62 = .ok (.iload_n 3, 1) := by decide +kernel
theorem dX10_neighbours_63 : decode cX10_neighbours 63 = .ok (.iload_n 2, 1) := by decide +kernel
theorem dX10_neighbours_64 : decode cX10_neighbours 64 = .ok (.iconst 1, 1) := by decide +kernel
theorem dX10_neighbours_65 : decode cX10_neighbours 65 = .ok (.iadd, 1) := by decide +kernel
theorem dX10_neighbours_66 : decode cX10_neighbours 66 = .ok (.aload_n 0, 1) := by decide +kernel
theorem dX10_neighbours_67 : decode cX10_neighbours 67 = .ok (.getfield 25, 3) := by decide +kernel
theorem dX10_neighbours_70 : decode cX10_neighbours 70 = .ok (.iload_n 1, 1) := by decide +kernel
theorem dX10_neighbours_71 : decode cX10_neighbours 71 = .ok (.iaload, 1) := by decide +kernel
theorem dX10_neighbours_72 : decode cX10_neighbours 72 = .ok (.if_icmp .ge 19, 3) := by decide +kernel
theorem dX10_neighbours_75 : decode cX10_neighbours 75 = .ok (.aload_n 0, 1) := by decide +kernel
theorem dX10_neighbours_76 : decode cX10_neighbours 76 = .ok (.getfield 22, 3) := by decide +kernel
theorem dX10_neighbours_79 : decode cX10_neighbours 79 = .ok (.bipush 24, 2) := by decide +kernel
theorem dX10_neighbours_81 : decode cX10_neighbours 81 = .ok (.iload_n 1, 1) := by decide +kernel
theorem dX10_neighbours_82 : decode cX10_neighbours 82 = .ok (.imul, 1) := by decide +kernel
theorem dX10_neighbours_83 : decode cX10_neighbours 83 = .ok (.iload_n 2, 1) := by decide +kernel
theorem dX10_neighbours_84 : decode cX10_neighbours 84 = .ok (.iadd, 1) := by decide +kernel
theorem dX10_neighbours_85 : decode cX10_neighbours 85 = .ok (.iconst 1, 1) := by decide +kernel
theorem dX10_neighbours_86 : decode cX10_neighbours 86 = .ok (.iadd, 1) := by decide +kernel
theorem dX10_neighbours_87 : decode cX10_neighbours 87 = .ok (.iaload, 1) := by decide +kernel
theorem dX10_neighbours_88 : decode cX10_neighbours 88 = .ok (.goto 4, 3) := by decide +kernel
theorem dX10_neighbours_91 : decode cX10_neighbours 91 = .ok (.iconst (-1), 1) := by decide +kernel
theorem dX10_neighbours_92 : decode cX10_neighbours 92 = .ok (.iastore, 1) := by decide +kernel
theorem dX10_neighbours_93 : decode cX10_neighbours 93 = .ok (.iinc 2 1, 3) := by decide +kernel
theorem dX10_neighbours_96 : decode cX10_neighbours 96 = .ok (.goto (-87), 3) := by decide +kernel
theorem dX10_neighbours_99 : decode cX10_neighbours 99 = .ok (.iinc 1 1, 3) := by decide +kernel
theorem dX10_neighbours_102 : decode cX10_neighbours 102 = .ok (.goto (-100), 3) := by decide +kernel
theorem dX10_neighbours_105 : decode cX10_neighbours 105 = .ok (.return_, 1) := by decide +kernel
theorem dX10_reckons_0 : decode cX10_reckons 0 = .ok (.aload_n 0, 1) := by decide +kernel
theorem dX10_reckons_1 : decode cX10_reckons 1 = .ok (.invokevirtual 204, 3) := by decide +kernel
theorem dX10_reckons_4 : decode cX10_reckons 4 = .ok (.aload_n 0, 1) := by decide +kernel
theorem dX10_reckons_5 : decode cX10_reckons 5 = .ok (.iconst 0, 1) := by decide +kernel
theorem dX10_reckons_6 : decode cX10_reckons 6 = .ok (.putfield 195, 3) := by decide +kernel
theorem dX10_reckons_9 : decode cX10_reckons 9 = .ok (.iconst 0, 1) := by decide +kernel
theorem dX10_reckons_10 : decode cX10_reckons 10 = .ok (.istore_n 1, 1) := by decide +kernel
theorem dX10_reckons_11 : decode cX10_reckons 11 = .ok (.iload_n 1, 1) := by decide +kernel
theorem dX10_reckons_12 : decode cX10_reckons 12 = .ok (.aload_n 0, 1) := by decide +kernel
theorem dX10_reckons_13 : decode cX10_reckons 13 = .ok (.getfield 105, 3) := by decide +kernel
theorem dX10_reckons_16 : decode cX10_reckons 16 = .ok (.if_icmp .ge 16, 3) := by decide +kernel
theorem dX10_reckons_19 : decode cX10_reckons 19 = .ok (.aload_n 0, 1) := by decide +kernel
theorem dX10_reckons_20 : decode cX10_reckons 20 = .ok (.getfield 58, 3) := by decide +kernel
theorem dX10_reckons_23 : decode cX10_reckons 23 = .ok (.iload_n 1, 1) := by decide +kernel
theorem dX10_reckons_24 : decode cX10_reckons 24 = .ok (.iconst 0, 1) := by decide +kernel
theorem dX10_reckons_25 : decode cX10_reckons 25 = .ok (.bastore, 1) := by decide +kernel
theorem dX10_reckons_26 : decode cX10_reckons 26 = .ok (.iinc 1 1, 3) := by decide +kernel
theorem dX10_reckons_29 : decode cX10_reckons 29 = .ok (.goto (-18), 3) := by decide +kernel
theorem dX10_reckons_32 : decode cX10_reckons 32 = .ok (.iconst 0, 1) := by decide +kernel
theorem dX10_reckons_33 : decode cX10_reckons 33 = .ok (.istore_n 1, 1) := by decide +kernel
theorem dX10_reckons_34 : decode cX10_reckons 34 = .ok (.iload_n 1, 1) := by decide +kernel
theorem dX10_reckons_35 : decode cX10_reckons 35 = .ok (.aload_n 0, 1) := by decide +kernel
theorem dX10_reckons_36 : decode cX10_reckons 36 = .ok (.getfield 105, 3) := by decide +kernel
theorem dX10_reckons_39 : decode cX10_reckons 39 = .ok (.if_icmp .ge 78, 3) := by decide +kernel
theorem dX10_reckons_42 : decode cX10_reckons 42 = .ok (.aload_n 0, 1) := by decide +kernel
theorem dX10_reckons_43 : decode cX10_reckons 43 = .ok (.invokevirtual 207, 3) := by decide +kernel
theorem dX10_reckons_46 : decode cX10_reckons 46 = .ok (.istore_n 2, 1) := by decide +kernel
theorem dX10_reckons_47 : decode cX10_reckons 47 = .ok (.iload_n 2, 1) := by decide +kernel
theorem dX10_reckons_48 : decode cX10_reckons 48 = .ok (.ifCond .ge 5, 3) := by decide +kernel
theorem dX10_reckons_51 : decode cX10_reckons 51 = .ok (.iconst 0, 1) := by decide +kernel
theorem dX10_reckons_52 : decode cX10_reckons 52 = .ok (.ireturn, 1) := by decide +kernel
theorem dX10_reckons_53 : decode cX10_reckons 53 = .ok (.aload_n 0, 1) := by decide +kernel
theorem dX10_reckons_54 : decode cX10_reckons 54 = .ok (.getfield 58, 3) := by decide +kernel
theorem dX10_reckons_57 : decode cX10_reckons 57 = .ok (.iload_n 2, 1) := by decide +kernel
theorem dX10_reckons_58 : decode cX10_reckons 58 = .ok (.iconst 1, 1) := by decide +kernel
theorem dX10_reckons_59 : decode cX10_reckons 59 = .ok (.bastore, 1) := by decide +kernel
theorem dX10_reckons_60 : decode cX10_reckons 60 = .ok (.aload_n 0, 1) := by decide +kernel
theorem dX10_reckons_61 : decode cX10_reckons 61 = .ok (.getfield 55, 3) := by decide +kernel
theorem dX10_reckons_64 : decode cX10_reckons 64 = .ok (.iload_n 1, 1) := by decide +kernel
theorem dX10_reckons_65 : decode cX10_reckons 65 = .ok (.iload_n 2, 1) := by decide +kernel
theorem dX10_reckons_66 : decode cX10_reckons 66 = .ok (.iastore, 1) := by decide +kernel
theorem dX10_reckons_67 : decode cX10_reckons 67 = .ok (.aload_n 0, 1) := by decide +kernel
theorem dX10_reckons_68 : decode cX10_reckons 68 = .ok (.getfield 49, 3) := by decide +kernel
theorem dX10_reckons_71 : decode cX10_reckons 71 = .ok (.iload_n 2, 1) := by decide +kernel
theorem dX10_reckons_72 : decode cX10_reckons 72 = .ok (.aload_n 0, 1) := by decide +kernel
theorem dX10_reckons_73 : decode cX10_reckons 73 = .ok (.aload_n 0, 1) := by decide +kernel
theorem dX10_reckons_74 : decode cX10_reckons 74 = .ok (.iload_n 2, 1) := by decide +kernel
theorem dX10_reckons_75 : decode cX10_reckons 75 = .ok (.invokevirtual 198, 3) := by decide +kernel
theorem dX10_reckons_78 : decode cX10_reckons 78 = .ok (.invokevirtual 211, 3) := by decide +kernel
theorem dX10_reckons_81 : decode cX10_reckons 81 = .ok (.aload_n 0, 1) := by decide +kernel
theorem dX10_reckons_82 : decode cX10_reckons 82 = .ok (.aload_n 0, 1) := by decide +kernel
theorem dX10_reckons_83 : decode cX10_reckons 83 = .ok (.getfield 43, 3) := by decide +kernel
theorem dX10_reckons_86 : decode cX10_reckons 86 = .ok (.iload_n 2, 1) := by decide +kernel
theorem dX10_reckons_87 : decode cX10_reckons 87 = .ok (.iaload, 1) := by decide +kernel
theorem dX10_reckons_88 : decode cX10_reckons 88 = .ok (.invokevirtual 211, 3) := by decide +kernel
theorem dX10_reckons_91 : decode cX10_reckons 91 = .ok (.invokestatic 214, 3) := by decide +kernel
theorem dX10_reckons_94 : decode cX10_reckons 94 = .ok (.iastore, 1) := by decide +kernel
theorem dX10_reckons_95 : decode cX10_reckons 95 = .ok (.aload_n 0, 1) := by decide +kernel
theorem dX10_reckons_96 : decode cX10_reckons 96 = .ok (.aload_n 0, 1) := by decide +kernel
theorem dX10_reckons_97 : decode cX10_reckons 97 = .ok (.getfield 195, 3) := by decide +kernel
theorem dX10_reckons_100 : decode cX10_reckons 100 = .ok (.aload_n 0, 1) := by decide +kernel
theorem dX10_reckons_101 : decode cX10_reckons 101 = .ok (.iload_n 2, 1) := by decide +kernel
theorem dX10_reckons_102 : decode cX10_reckons 102 = .ok (.invokevirtual 211, 3) := by decide +kernel
theorem dX10_reckons_105 : decode cX10_reckons 105 = .ok (.invokestatic 214, 3) := by decide +kernel
theorem dX10_reckons_108 : decode cX10_reckons 108 = .ok (.putfield 195, 3) := by decide +kernel
theorem dX10_reckons_111 : decode cX10_reckons 111 = .ok (.iinc 1 1, 3) := by decide +kernel
theorem dX10_reckons_114 : decode cX10_reckons 114 = .ok (.goto (-80), 3) := by decide +kernel
theorem dX10_reckons_117 : decode cX10_reckons 117 = .ok (.aload_n 0, 1) := by decide +kernel
theorem dX10_reckons_118 : decode cX10_reckons 118 = .ok (.getfield 105, 3) := by decide +kernel
theorem dX10_reckons_121 : decode cX10_reckons 121 = .ok (.iconst 1, 1) := by decide +kernel
theorem dX10_reckons_122 : decode cX10_reckons 122 = .ok (.isub, 1) := by decide +kernel
theorem dX10_reckons_123 : decode cX10_reckons 123 = .ok (.istore_n 1, 1) := by decide +kernel
theorem dX10_reckons_124 : decode cX10_reckons 124 = .ok (.iload_n 1, 1) := by decide +kernel
theorem dX10_reckons_125 : decode cX10_reckons 125 = .ok (.ifCond .lt 44, 3) := by decide +kernel
theorem dX10_reckons_128 : decode cX10_reckons 128 = .ok (.aload_n 0, 1) := by decide +kernel
theorem dX10_reckons_129 : decode cX10_reckons 129 = .ok (.getfield 55, 3) := by decide +kernel
theorem dX10_reckons_132 : decode cX10_reckons 132 = .ok (.iload_n 1, 1) := by decide +kernel
theorem dX10_reckons_133 : decode cX10_reckons 133 = .ok (.iaload, 1) := by decide +kernel
theorem dX10_reckons_134 : decode cX10_reckons 134 = .ok (.istore_n 2, 1) := by decide +kernel
theorem dX10_reckons_135 : decode cX10_reckons 135 = .ok (.aload_n 0, 1) := by decide +kernel
theorem dX10_reckons_136 : decode cX10_reckons 136 = .ok (.getfield 52, 3) := by decide +kernel
theorem dX10_reckons_139 : decode cX10_reckons 139 = .ok (.iload_n 2, 1) := by decide +kernel
theorem dX10_reckons_140 : decode cX10_reckons 140 = .ok (.aload_n 0, 1) := by decide +kernel
theorem dX10_reckons_141 : decode cX10_reckons 141 = .ok (.aload_n 0, 1) := by decide +kernel
theorem dX10_reckons_142 : decode cX10_reckons 142 = .ok (.iload_n 2, 1) := by decide +kernel
theorem dX10_reckons_143 : decode cX10_reckons 143 = .ok (.invokevirtual 220, 3) := by decide +kernel
theorem dX10_reckons_146 : decode cX10_reckons 146 = .ok (.invokevirtual 223, 3) := by decide +kernel
theorem dX10_reckons_149 : decode cX10_reckons 149 = .ok (.aload_n 0, 1) := by decide +kernel
theorem dX10_reckons_150 : decode cX10_reckons 150 = .ok (.aload_n 0, 1) := by decide +kernel
theorem dX10_reckons_151 : decode cX10_reckons 151 = .ok (.getfield 46, 3) := by decide +kernel
theorem dX10_reckons_154 : decode cX10_reckons 154 = .ok (.iload_n 2, 1) := by decide +kernel
theorem dX10_reckons_155 : decode cX10_reckons 155 = .ok (.iaload, 1) := by decide +kernel
theorem dX10_reckons_156 : decode cX10_reckons 156 = .ok (.invokevirtual 223, 3) := by decide +kernel
theorem dX10_reckons_159 : decode cX10_reckons 159 = .ok (.invokestatic 214, 3) := by decide +kernel
theorem dX10_reckons_162 : decode cX10_reckons 162 = .ok (.iastore, 1) := by decide +kernel
theorem dX10_reckons_163 : decode cX10_reckons 163 = .ok (.iinc 1 (-1), 3) := by decide +kernel
theorem dX10_reckons_166 : decode cX10_reckons 166 = .ok (.goto (-42), 3) := by decide +kernel
theorem dX10_reckons_169 : decode cX10_reckons 169 = .ok (.iconst 1, 1) := by decide +kernel
theorem dX10_reckons_170 : decode cX10_reckons 170 = .ok (.ireturn, 1) := by decide +kernel
theorem dX10_span_0 : decode cX10_span 0 = .ok (.aload_n 0, 1) := by decide +kernel
theorem dX10_span_1 : decode cX10_span 1 = .ok (.getfield 105, 3) := by decide +kernel
theorem dX10_span_4 : decode cX10_span 4 = .ok (.ifCond .ne 6, 3) := by decide +kernel
theorem dX10_span_7 : decode cX10_span 7 = .ok (.bipush (-5), 2) := by decide +kernel
theorem dX10_span_9 : decode cX10_span 9 = .ok (.ireturn, 1) := by decide +kernel
theorem dX10_span_10 : decode cX10_span 10 = .ok (.aload_n 0, 1) := by decide +kernel
theorem dX10_span_11 : decode cX10_span 11 = .ok (.invokevirtual 191, 3) := by decide +kernel
theorem dX10_span_14 : decode cX10_span 14 = .ok (.ifCond .eq 10, 3) := by decide +kernel
theorem dX10_span_17 : decode cX10_span 17 = .ok (.aload_n 0, 1) := by decide +kernel
theorem dX10_span_18 : decode cX10_span 18 = .ok (.getfield 195, 3) := by decide +kernel
theorem dX10_span_21 : decode cX10_span 21 = .ok (.goto 5, 3) := by decide +kernel
theorem dX10_span_24 : decode cX10_span 24 = .ok (.bipush (-4), 2) := by decide +kernel
theorem dX10_span_26 : decode cX10_span 26 = .ok (.ireturn, 1) := by decide +kernel
theorem dX10_isCritical_0 : decode cX10_isCritical 0 = .ok (.aload_n 0, 1) := by decide +kernel
theorem dX10_isCritical_1 : decode cX10_isCritical 1 = .ok (.getfield 49, 3) := by decide +kernel
theorem dX10_isCritical_4 : decode cX10_isCritical 4 = .ok (.iload_n 1, 1) := by decide +kernel
theorem dX10_isCritical_5 : decode cX10_isCritical 5 = .ok (.iaload, 1) := by decide +kernel
theorem dX10_isCritical_6 : decode cX10_isCritical 6 = .ok (.aload_n 0, 1) := by decide +kernel
theorem dX10_isCritical_7 : decode cX10_isCritical 7 = .ok (.getfield 19, 3) := by decide +kernel
theorem dX10_isCritical_10 : decode cX10_isCritical 10 = .ok (.iload_n 1, 1) := by decide +kernel
theorem dX10_isCritical_11 : decode cX10_isCritical 11 = .ok (.iaload, 1) := by decide +kernel
theorem dX10_isCritical_12 : decode cX10_isCritical 12 = .ok (.iadd, 1) := by decide +kernel
theorem dX10_isCritical_13 : decode cX10_isCritical 13 = .ok (.aload_n 0, 1) := by decide +kernel
theorem dX10_isCritical_14 : decode cX10_isCritical 14 = .ok (.getfield 52, 3) := by decide +kernel
theorem dX10_isCritical_17 : decode cX10_isCritical 17 = .ok (.iload_n 1, 1) := by decide +kernel
theorem dX10_isCritical_18 : decode cX10_isCritical 18 = .ok (.iaload, 1) := by decide +kernel
theorem dX10_isCritical_19 : decode cX10_isCritical 19 = .ok (.iadd, 1) := by decide +kernel
theorem dX10_isCritical_20 : decode cX10_isCritical 20 = .ok (.aload_n 0, 1) := by decide +kernel
theorem dX10_isCritical_21 : decode cX10_isCritical 21 = .ok (.getfield 195, 3) := by decide +kernel
theorem dX10_isCritical_24 : decode cX10_isCritical 24 = .ok (.if_icmp .ne 7, 3) := by decide +kernel
theorem dX10_isCritical_27 : decode cX10_isCritical 27 = .ok (.iconst 1, 1) := by decide +kernel
theorem dX10_isCritical_28 : decode cX10_isCritical 28 = .ok (.goto 4, 3) := by decide +kernel
theorem dX10_isCritical_31 : decode cX10_isCritical 31 = .ok (.iconst 0, 1) := by decide +kernel
theorem dX10_isCritical_32 : decode cX10_isCritical 32 = .ok (.ireturn, 1) := by decide +kernel
theorem dX10_of_0 : decode cX10_of 0 = .ok (.aload_n 0, 1) := by decide +kernel
theorem dX10_of_1 : decode cX10_of 1 = .ok (.iload_n 1, 1) := by decide +kernel
theorem dX10_of_2 : decode cX10_of 2 = .ok (.invokevirtual 174, 3) := by decide +kernel
theorem dX10_of_5 : decode cX10_of 5 = .ok (.ifCond .eq 12, 3) := by decide +kernel
theorem dX10_of_8 : decode cX10_of 8 = .ok (.iload_n 2, 1) := by decide +kernel
theorem dX10_of_9 : decode cX10_of 9 = .ok (.iconst 0, 1) := by decide +kernel
theorem dX10_of_10 : decode cX10_of 10 = .ok (.iconst 3, 1) := by decide +kernel
theorem dX10_of_11 : decode cX10_of 11 = .ok (.invokestatic 108, 3) := by decide +kernel
theorem dX10_of_14 : decode cX10_of 14 = .ok (.ifCond .ne 5, 3) := by decide +kernel
theorem dX10_of_17 : decode cX10_of 17 = .ok (.iconst (-1), 1) := by decide +kernel
theorem dX10_of_18 : decode cX10_of 18 = .ok (.ireturn, 1) := by decide +kernel
theorem dX10_of_19 : decode cX10_of 19 = .ok (.aload_n 0, 1) := by decide +kernel
theorem dX10_of_20 : decode cX10_of 20 = .ok (.invokevirtual 191, 3) := by decide +kernel
theorem dX10_of_23 : decode cX10_of 23 = .ok (.ifCond .ne 6, 3) := by decide +kernel
theorem dX10_of_26 : decode cX10_of 26 = .ok (.bipush (-4), 2) := by decide +kernel
theorem dX10_of_28 : decode cX10_of 28 = .ok (.ireturn, 1) := by decide +kernel
theorem dX10_of_29 : decode cX10_of 29 = .ok (.iload_n 2, 1) := by decide +kernel
theorem dX10_of_30 : decode cX10_of 30 = .ok (.tableswitch 66 0 2 #[26, 33, 40], 26) := by decide +kernel
theorem dX10_of_56 : decode cX10_of 56 = .ok (.aload_n 0, 1) := by decide +kernel
theorem dX10_of_57 : decode cX10_of 57 = .ok (.getfield 49, 3) := by decide +kernel
theorem dX10_of_60 : decode cX10_of 60 = .ok (.iload_n 1, 1) := by decide +kernel
theorem dX10_of_61 : decode cX10_of 61 = .ok (.iaload, 1) := by decide +kernel
theorem dX10_of_62 : decode cX10_of 62 = .ok (.ireturn, 1) := by decide +kernel
theorem dX10_of_63 : decode cX10_of 63 = .ok (.aload_n 0, 1) := by decide +kernel
theorem dX10_of_64 : decode cX10_of 64 = .ok (.getfield 52, 3) := by decide +kernel
theorem dX10_of_67 : decode cX10_of 67 = .ok (.iload_n 1, 1) := by decide +kernel
theorem dX10_of_68 : decode cX10_of 68 = .ok (.iaload, 1) := by decide +kernel
theorem dX10_of_69 : decode cX10_of 69 = .ok (.ireturn, 1) := by decide +kernel
theorem dX10_of_70 : decode cX10_of 70 = .ok (.aload_n 0, 1) := by decide +kernel
theorem dX10_of_71 : decode cX10_of 71 = .ok (.getfield 195, 3) := by decide +kernel
theorem dX10_of_74 : decode cX10_of 74 = .ok (.aload_n 0, 1) := by decide +kernel
theorem dX10_of_75 : decode cX10_of 75 = .ok (.getfield 49, 3) := by decide +kernel
theorem dX10_of_78 : decode cX10_of 78 = .ok (.iload_n 1, 1) := by decide +kernel
theorem dX10_of_79 : decode cX10_of 79 = .ok (.iaload, 1) := by decide +kernel
theorem dX10_of_80 : decode cX10_of 80 = .ok (.isub, 1) := by decide +kernel
theorem dX10_of_81 : decode cX10_of 81 = .ok (.aload_n 0, 1) := by decide +kernel
theorem dX10_of_82 : decode cX10_of 82 = .ok (.getfield 19, 3) := by decide +kernel
theorem dX10_of_85 : decode cX10_of 85 = .ok (.iload_n 1, 1) := by decide +kernel
theorem dX10_of_86 : decode cX10_of 86 = .ok (.iaload, 1) := by decide +kernel
theorem dX10_of_87 : decode cX10_of 87 = .ok (.isub, 1) := by decide +kernel
theorem dX10_of_88 : decode cX10_of 88 = .ok (.aload_n 0, 1) := by decide +kernel
theorem dX10_of_89 : decode cX10_of 89 = .ok (.getfield 52, 3) := by decide +kernel
theorem dX10_of_92 : decode cX10_of 92 = .ok (.iload_n 1, 1) := by decide +kernel
theorem dX10_of_93 : decode cX10_of 93 = .ok (.iaload, 1) := by decide +kernel
theorem dX10_of_94 : decode cX10_of 94 = .ok (.isub, 1) := by decide +kernel
theorem dX10_of_95 : decode cX10_of 95 = .ok (.ireturn, 1) := by decide +kernel
theorem dX10_of_96 : decode cX10_of 96 = .ok (.aload_n 0, 1) := by decide +kernel
theorem dX10_of_97 : decode cX10_of 97 = .ok (.iload_n 1, 1) := by decide +kernel
theorem dX10_of_98 : decode cX10_of 98 = .ok (.invokevirtual 226, 3) := by decide +kernel
theorem dX10_of_101 : decode cX10_of 101 = .ok (.ifCond .eq 7, 3) := by decide +kernel
theorem dX10_of_104 : decode cX10_of 104 = .ok (.iconst 1, 1) := by decide +kernel
theorem dX10_of_105 : decode cX10_of 105 = .ok (.goto 4, 3) := by decide +kernel
theorem dX10_of_108 : decode cX10_of 108 = .ok (.iconst 0, 1) := by decide +kernel
theorem dX10_of_109 : decode cX10_of 109 = .ok (.ireturn, 1) := by decide +kernel
theorem dX10_comesBehind_0 : decode cX10_comesBehind 0 = .ok (.iload_n 1, 1) := by decide +kernel
theorem dX10_comesBehind_1 : decode cX10_comesBehind 1 = .ok (.ifCond .lt 29, 3) := by decide +kernel
theorem dX10_comesBehind_4 : decode cX10_comesBehind 4 = .ok (.aload_n 0, 1) := by decide +kernel
theorem dX10_comesBehind_5 : decode cX10_comesBehind 5 = .ok (.iload_n 1, 1) := by decide +kernel
theorem dX10_comesBehind_6 : decode cX10_comesBehind 6 = .ok (.invokevirtual 226, 3) := by decide +kernel
theorem dX10_comesBehind_9 : decode cX10_comesBehind 9 = .ok (.ifCond .eq 21, 3) := by decide +kernel
theorem dX10_comesBehind_12 : decode cX10_comesBehind 12 = .ok (.aload_n 0, 1) := by decide +kernel
theorem dX10_comesBehind_13 : decode cX10_comesBehind 13 = .ok (.getfield 49, 3) := by decide +kernel
theorem dX10_comesBehind_16 : decode cX10_comesBehind 16 = .ok (.iload_n 1, 1) := by decide +kernel
theorem dX10_comesBehind_17 : decode cX10_comesBehind 17 = .ok (.iaload, 1) := by decide +kernel
theorem dX10_comesBehind_18 : decode cX10_comesBehind 18 = .ok (.aload_n 0, 1) := by decide +kernel
theorem dX10_comesBehind_19 : decode cX10_comesBehind 19 = .ok (.iload_n 2, 1) := by decide +kernel
theorem dX10_comesBehind_20 : decode cX10_comesBehind 20 = .ok (.invokevirtual 211, 3) := by decide +kernel
theorem dX10_comesBehind_23 : decode cX10_comesBehind 23 = .ok (.if_icmp .ne 7, 3) := by decide +kernel
theorem dX10_comesBehind_26 : decode cX10_comesBehind 26 = .ok (.iconst 1, 1) := by decide +kernel
theorem dX10_comesBehind_27 : decode cX10_comesBehind 27 = .ok (.goto 4, 3) := by decide +kernel
theorem dX10_comesBehind_30 : decode cX10_comesBehind 30 = .ok (.iconst 0, 1) := by decide +kernel
theorem dX10_comesBehind_31 : decode cX10_comesBehind 31 = .ok (.ireturn, 1) := by decide +kernel
theorem dX10_nextOnWay_0 : decode cX10_nextOnWay 0 = .ok (.aload_n 0, 1) := by decide +kernel
theorem dX10_nextOnWay_1 : decode cX10_nextOnWay 1 = .ok (.iload_n 1, 1) := by decide +kernel
theorem dX10_nextOnWay_2 : decode cX10_nextOnWay 2 = .ok (.invokevirtual 220, 3) := by decide +kernel
theorem dX10_nextOnWay_5 : decode cX10_nextOnWay 5 = .ok (.istore_n 2, 1) := by decide +kernel
theorem dX10_nextOnWay_6 : decode cX10_nextOnWay 6 = .ok (.aload_n 0, 1) := by decide +kernel
theorem dX10_nextOnWay_7 : decode cX10_nextOnWay 7 = .ok (.getfield 46, 3) := by decide +kernel
theorem dX10_nextOnWay_10 : decode cX10_nextOnWay 10 = .ok (.iload_n 1, 1) := by decide +kernel
theorem dX10_nextOnWay_11 : decode cX10_nextOnWay 11 = .ok (.iaload, 1) := by decide +kernel
theorem dX10_nextOnWay_12 : decode cX10_nextOnWay 12 = .ok (.istore_n 3, 1) := by decide +kernel
theorem dX10_nextOnWay_13 : decode cX10_nextOnWay 13 = .ok (.aload_n 0, 1) := by decide +kernel
theorem dX10_nextOnWay_14 : decode cX10_nextOnWay 14 = .ok (.iload_n 2, 1) := by decide +kernel
theorem dX10_nextOnWay_15 : decode cX10_nextOnWay 15 = .ok (.iload_n 1, 1) := by decide +kernel
theorem dX10_nextOnWay_16 : decode cX10_nextOnWay 16 = .ok (.invokevirtual 229, 3) := by decide +kernel
theorem dX10_nextOnWay_19 : decode cX10_nextOnWay 19 = .ok (.istore 4, 2) := by decide +kernel
theorem dX10_nextOnWay_21 : decode cX10_nextOnWay 21 = .ok (.aload_n 0, 1) := by decide +kernel
theorem dX10_nextOnWay_22 : decode cX10_nextOnWay 22 = .ok (.iload_n 3, 1) := by decide +kernel
theorem dX10_nextOnWay_23 : decode cX10_nextOnWay 23 = .ok (.iload_n 1, 1) := by decide +kernel
theorem dX10_nextOnWay_24 : decode cX10_nextOnWay 24 = .ok (.invokevirtual 229, 3) := by decide +kernel
theorem dX10_nextOnWay_27 : decode cX10_nextOnWay 27 = .ok (.istore 5, 2) := by decide +kernel
theorem dX10_nextOnWay_29 : decode cX10_nextOnWay 29 = .ok (.iload 4, 2) := by decide +kernel
theorem dX10_nextOnWay_31 : decode cX10_nextOnWay 31 = .ok (.ifCond .eq 17, 3) := by decide +kernel
theorem dX10_nextOnWay_34 : decode cX10_nextOnWay 34 = .ok (.iload 5, 2) := by decide +kernel
theorem dX10_nextOnWay_36 : decode cX10_nextOnWay 36 = .ok (.ifCond .eq 8, 3) := by decide +kernel
theorem dX10_nextOnWay_39 : decode cX10_nextOnWay 39 = .ok (.iload_n 2, 1) := by decide +kernel
theorem dX10_nextOnWay_40 : decode cX10_nextOnWay 40 = .ok (.iload_n 3, 1) := by decide +kernel
theorem dX10_nextOnWay_41 : decode cX10_nextOnWay 41 = .ok (.if_icmp .ge 7, 3) := by decide +kernel
theorem dX10_nextOnWay_44 : decode cX10_nextOnWay 44 = .ok (.iload_n 2, 1) := by decide +kernel
theorem dX10_nextOnWay_45 : decode cX10_nextOnWay 45 = .ok (.goto 4, 3) := by decide +kernel
theorem dX10_nextOnWay_48 : decode cX10_nextOnWay 48 = .ok (.iload_n 3, 1) := by decide +kernel
theorem dX10_nextOnWay_49 : decode cX10_nextOnWay 49 = .ok (.ireturn, 1) := by decide +kernel
theorem dX10_walks_0 : decode cX10_walks 0 = .ok (.iconst 0, 1) := by decide +kernel
theorem dX10_walks_1 : decode cX10_walks 1 = .ok (.istore_n 1, 1) := by decide +kernel
theorem dX10_walks_2 : decode cX10_walks 2 = .ok (.aload_n 0, 1) := by decide +kernel
theorem dX10_walks_3 : decode cX10_walks 3 = .ok (.iload_n 1, 1) := by decide +kernel
theorem dX10_walks_4 : decode cX10_walks 4 = .ok (.invokevirtual 226, 3) := by decide +kernel
theorem dX10_walks_7 : decode cX10_walks 7 = .ok (.ifCond .eq 12, 3) := by decide +kernel
theorem dX10_walks_10 : decode cX10_walks 10 = .ok (.aload_n 0, 1) := by decide +kernel
theorem dX10_walks_11 : decode cX10_walks 11 = .ok (.getfield 49, 3) := by decide +kernel
theorem dX10_walks_14 : decode cX10_walks 14 = .ok (.iload_n 1, 1) := by decide +kernel
theorem dX10_walks_15 : decode cX10_walks 15 = .ok (.iaload, 1) := by decide +kernel
theorem dX10_walks_16 : decode cX10_walks 16 = .ok (.ifCond .le 9, 3) := by decide +kernel
theorem dX10_walks_19 : decode cX10_walks 19 = .ok (.iinc 1 1, 3) := by decide +kernel
theorem dX10_walks_22 : decode cX10_walks 22 = .ok (.goto (-20), 3) := by decide +kernel
theorem dX10_walks_25 : decode cX10_walks 25 = .ok (.aload_n 0, 1) := by decide +kernel
theorem dX10_walks_26 : decode cX10_walks 26 = .ok (.getfield 62, 3) := by decide +kernel
theorem dX10_walks_29 : decode cX10_walks 29 = .ok (.iconst 0, 1) := by decide +kernel
theorem dX10_walks_30 : decode cX10_walks 30 = .ok (.iload_n 1, 1) := by decide +kernel
theorem dX10_walks_31 : decode cX10_walks 31 = .ok (.iastore, 1) := by decide +kernel
theorem dX10_walks_32 : decode cX10_walks 32 = .ok (.aload_n 0, 1) := by decide +kernel
theorem dX10_walks_33 : decode cX10_walks 33 = .ok (.iconst 1, 1) := by decide +kernel
theorem dX10_walks_34 : decode cX10_walks 34 = .ok (.putfield 232, 3) := by decide +kernel
theorem dX10_walks_37 : decode cX10_walks 37 = .ok (.aload_n 0, 1) := by decide +kernel
theorem dX10_walks_38 : decode cX10_walks 38 = .ok (.iload_n 1, 1) := by decide +kernel
theorem dX10_walks_39 : decode cX10_walks 39 = .ok (.invokevirtual 211, 3) := by decide +kernel
theorem dX10_walks_42 : decode cX10_walks 42 = .ok (.aload_n 0, 1) := by decide +kernel
theorem dX10_walks_43 : decode cX10_walks 43 = .ok (.getfield 195, 3) := by decide +kernel
theorem dX10_walks_46 : decode cX10_walks 46 = .ok (.if_icmp .ge 32, 3) := by decide +kernel
theorem dX10_walks_49 : decode cX10_walks 49 = .ok (.aload_n 0, 1) := by decide +kernel
theorem dX10_walks_50 : decode cX10_walks 50 = .ok (.iload_n 1, 1) := by decide +kernel
theorem dX10_walks_51 : decode cX10_walks 51 = .ok (.invokevirtual 235, 3) := by decide +kernel
theorem dX10_walks_54 : decode cX10_walks 54 = .ok (.istore_n 1, 1) := by decide +kernel
theorem dX10_walks_55 : decode cX10_walks 55 = .ok (.aload_n 0, 1) := by decide +kernel
theorem dX10_walks_56 : decode cX10_walks 56 = .ok (.getfield 62, 3) := by decide +kernel
theorem dX10_walks_59 : decode cX10_walks 59 = .ok (.aload_n 0, 1) := by decide +kernel
theorem dX10_walks_60 : decode cX10_walks 60 = .ok (.getfield 232, 3) := by decide +kernel
theorem dX10_walks_63 : decode cX10_walks 63 = .ok (.iload_n 1, 1) := by decide +kernel
theorem dX10_walks_64 : decode cX10_walks 64 = .ok (.iastore, 1) := by decide +kernel
theorem dX10_walks_65 : decode cX10_walks 65 = .ok (.aload_n 0, 1) := by decide +kernel
theorem dX10_walks_66 : decode cX10_walks 66 = .ok (.dup, 1) := by decide +kernel
theorem dX10_walks_67 : decode cX10_walks 67 = .ok (.getfield 232, 3) := by decide +kernel
theorem dX10_walks_70 : decode cX10_walks 70 = .ok (.iconst 1, 1) := by decide +kernel
theorem dX10_walks_71 : decode cX10_walks 71 = .ok (.iadd, 1) := by decide +kernel
theorem dX10_walks_72 : decode cX10_walks 72 = .ok (.putfield 232, 3) := by decide +kernel
theorem dX10_walks_75 : decode cX10_walks 75 = .ok (.goto (-38), 3) := by decide +kernel
theorem dX10_walks_78 : decode cX10_walks 78 = .ok (.return_, 1) := by decide +kernel
theorem dX10_parts_0 : decode cX10_parts 0 = .ok (.aload_n 0, 1) := by decide +kernel
theorem dX10_parts_1 : decode cX10_parts 1 = .ok (.invokevirtual 238, 3) := by decide +kernel
theorem dX10_parts_4 : decode cX10_parts 4 = .ok (.aload_n 0, 1) := by decide +kernel
theorem dX10_parts_5 : decode cX10_parts 5 = .ok (.iconst 0, 1) := by decide +kernel
theorem dX10_parts_6 : decode cX10_parts 6 = .ok (.putfield 241, 3) := by decide +kernel
theorem dX10_parts_9 : decode cX10_parts 9 = .ok (.iconst 0, 1) := by decide +kernel
theorem dX10_parts_10 : decode cX10_parts 10 = .ok (.istore_n 1, 1) := by decide +kernel
theorem dX10_parts_11 : decode cX10_parts 11 = .ok (.iload_n 1, 1) := by decide +kernel
theorem dX10_parts_12 : decode cX10_parts 12 = .ok (.aload_n 0, 1) := by decide +kernel
theorem dX10_parts_13 : decode cX10_parts 13 = .ok (.getfield 232, 3) := by decide +kernel
theorem dX10_parts_16 : decode cX10_parts 16 = .ok (.if_icmp .ge 60, 3) := by decide +kernel
theorem dX10_parts_19 : decode cX10_parts 19 = .ok (.iload_n 1, 1) := by decide +kernel
theorem dX10_parts_20 : decode cX10_parts 20 = .ok (.ifCond .eq 30, 3) := by decide +kernel
theorem dX10_parts_23 : decode cX10_parts 23 = .ok (.aload_n 0, 1) := by decide +kernel
theorem dX10_parts_24 : decode cX10_parts 24 = .ok (.getfield 16, 3) := by decide +kernel
theorem dX10_parts_27 : decode cX10_parts 27 = .ok (.aload_n 0, 1) := by decide +kernel
theorem dX10_parts_28 : decode cX10_parts 28 = .ok (.getfield 62, 3) := by decide +kernel
theorem dX10_parts_31 : decode cX10_parts 31 = .ok (.iload_n 1, 1) := by decide +kernel
theorem dX10_parts_32 : decode cX10_parts 32 = .ok (.iaload, 1) := by decide +kernel
theorem dX10_parts_33 : decode cX10_parts 33 = .ok (.iaload, 1) := by decide +kernel
theorem dX10_parts_34 : decode cX10_parts 34 = .ok (.aload_n 0, 1) := by decide +kernel
theorem dX10_parts_35 : decode cX10_parts 35 = .ok (.getfield 16, 3) := by decide +kernel
theorem dX10_parts_38 : decode cX10_parts 38 = .ok (.aload_n 0, 1) := by decide +kernel
theorem dX10_parts_39 : decode cX10_parts 39 = .ok (.getfield 62, 3) := by decide +kernel
theorem dX10_parts_42 : decode cX10_parts 42 = .ok (.iload_n 1, 1) := by decide +kernel
theorem dX10_parts_43 : decode cX10_parts 43 = .ok (.iconst 1, 1) := by decide +kernel
theorem dX10_parts_44 : decode cX10_parts 44 = .ok (.isub, 1) := by decide +kernel
theorem dX10_parts_45 : decode cX10_parts 45 = .ok (.iaload, 1) := by decide +kernel
theorem dX10_parts_46 : decode cX10_parts 46 = .ok (.iaload, 1) := by decide +kernel
theorem dX10_parts_47 : decode cX10_parts 47 = .ok (.if_icmp .eq 23, 3) := by decide +kernel
theorem dX10_parts_50 : decode cX10_parts 50 = .ok (.aload_n 0, 1) := by decide +kernel
theorem dX10_parts_51 : decode cX10_parts 51 = .ok (.getfield 65, 3) := by decide +kernel
theorem dX10_parts_54 : decode cX10_parts 54 = .ok (.aload_n 0, 1) := by decide +kernel
theorem dX10_parts_55 : decode cX10_parts 55 = .ok (.getfield 241, 3) := by decide +kernel
theorem dX10_parts_58 : decode cX10_parts 58 = .ok (.iload_n 1, 1) := by decide +kernel
theorem dX10_parts_59 : decode cX10_parts 59 = .ok (.iastore, 1) := by decide +kernel
theorem dX10_parts_60 : decode cX10_parts 60 = .ok (.aload_n 0, 1) := by decide +kernel
theorem dX10_parts_61 : decode cX10_parts 61 = .ok (.dup, 1) := by decide +kernel
theorem dX10_parts_62 : decode cX10_parts 62 = .ok (.getfield 241, 3) := by decide +kernel
theorem dX10_parts_65 : decode cX10_parts 65 = .ok (.iconst 1, 1) := by decide +kernel
theorem dX10_parts_66 : decode cX10_parts 66 = .ok (.iadd, 1) := by decide +kernel
theorem dX10_parts_67 : decode cX10_parts 67 = .ok (.putfield 241, 3) := by decide +kernel
theorem dX10_parts_70 : decode cX10_parts 70 = .ok (.iinc 1 1, 3) := by decide +kernel
theorem dX10_parts_73 : decode cX10_parts 73 = .ok (.goto (-62), 3) := by decide +kernel
theorem dX10_parts_76 : decode cX10_parts 76 = .ok (.aload_n 0, 1) := by decide +kernel
theorem dX10_parts_77 : decode cX10_parts 77 = .ok (.getfield 65, 3) := by decide +kernel
theorem dX10_parts_80 : decode cX10_parts 80 = .ok (.aload_n 0, 1) := by decide +kernel
theorem dX10_parts_81 : decode cX10_parts 81 = .ok (.getfield 241, 3) := by decide +kernel
theorem dX10_parts_84 : decode cX10_parts 84 = .ok (.aload_n 0, 1) := by decide +kernel
theorem dX10_parts_85 : decode cX10_parts 85 = .ok (.getfield 232, 3) := by decide +kernel
theorem dX10_parts_88 : decode cX10_parts 88 = .ok (.iastore, 1) := by decide +kernel
theorem dX10_parts_89 : decode cX10_parts 89 = .ok (.return_, 1) := by decide +kernel
theorem dX10_wrong_0 : decode cX10_wrong 0 = .ok (.aload_n 0, 1) := by decide +kernel
theorem dX10_wrong_1 : decode cX10_wrong 1 = .ok (.getfield 105, 3) := by decide +kernel
theorem dX10_wrong_4 : decode cX10_wrong 4 = .ok (.ifCond .ne 8, 3) := by decide +kernel
theorem dX10_wrong_7 : decode cX10_wrong 7 = .ok (.bipush (-5), 2) := by decide +kernel
theorem dX10_wrong_9 : decode cX10_wrong 9 = .ok (.goto 16, 3) := by decide +kernel
theorem dX10_wrong_12 : decode cX10_wrong 12 = .ok (.aload_n 0, 1) := by decide +kernel
theorem dX10_wrong_13 : decode cX10_wrong 13 = .ok (.invokevirtual 191, 3) := by decide +kernel
theorem dX10_wrong_16 : decode cX10_wrong 16 = .ok (.ifCond .ne 8, 3) := by decide +kernel
theorem dX10_wrong_19 : decode cX10_wrong 19 = .ok (.bipush (-4), 2) := by decide +kernel
theorem dX10_wrong_21 : decode cX10_wrong 21 = .ok (.goto 4, 3) := by decide +kernel
theorem dX10_wrong_24 : decode cX10_wrong 24 = .ok (.iconst 0, 1) := by decide +kernel
theorem dX10_wrong_25 : decode cX10_wrong 25 = .ok (.ireturn, 1) := by decide +kernel
theorem dX10_toldAt_0 : decode cX10_toldAt 0 = .ok (.iload_n 2, 1) := by decide +kernel
theorem dX10_toldAt_1 : decode cX10_toldAt 1 = .ok (.ifCond .ge 7, 3) := by decide +kernel
theorem dX10_toldAt_4 : decode cX10_toldAt 4 = .ok (.iload_n 1, 1) := by decide +kernel
theorem dX10_toldAt_5 : decode cX10_toldAt 5 = .ok (.goto 16, 3) := by decide +kernel
theorem dX10_toldAt_8 : decode cX10_toldAt 8 = .ok (.iload_n 2, 1) := by decide +kernel
theorem dX10_toldAt_9 : decode cX10_toldAt 9 = .ok (.iload_n 1, 1) := by decide +kernel
theorem dX10_toldAt_10 : decode cX10_toldAt 10 = .ok (.if_icmp .ge 9, 3) := by decide +kernel
theorem dX10_toldAt_13 : decode cX10_toldAt 13 = .ok (.aload_n 0, 1) := by decide +kernel
theorem dX10_toldAt_14 : decode cX10_toldAt 14 = .ok (.iload_n 2, 1) := by decide +kernel
theorem dX10_toldAt_15 : decode cX10_toldAt 15 = .ok (.iaload, 1) := by decide +kernel
theorem dX10_toldAt_16 : decode cX10_toldAt 16 = .ok (.goto 5, 3) := by decide +kernel
theorem dX10_toldAt_19 : decode cX10_toldAt 19 = .ok (.bipush (-2), 2) := by decide +kernel
theorem dX10_toldAt_21 : decode cX10_toldAt 21 = .ok (.ireturn, 1) := by decide +kernel
theorem dX10_way_0 : decode cX10_way 0 = .ok (.iload_n 1, 1) := by decide +kernel
theorem dX10_way_1 : decode cX10_way 1 = .ok (.iconst (-1), 1) := by decide +kernel
theorem dX10_way_2 : decode cX10_way 2 = .ok (.if_icmp .ge 5, 3) := by decide +kernel
theorem dX10_way_5 : decode cX10_way 5 = .ok (.iconst (-1), 1) := by decide +kernel
theorem dX10_way_6 : decode cX10_way 6 = .ok (.ireturn, 1) := by decide +kernel
theorem dX10_way_7 : decode cX10_way 7 = .ok (.aload_n 0, 1) := by decide +kernel
theorem dX10_way_8 : decode cX10_way 8 = .ok (.invokevirtual 244, 3) := by decide +kernel
theorem dX10_way_11 : decode cX10_way 11 = .ok (.istore_n 2, 1) := by decide +kernel
theorem dX10_way_12 : decode cX10_way 12 = .ok (.iload_n 2, 1) := by decide +kernel
theorem dX10_way_13 : decode cX10_way 13 = .ok (.ifCond .ge 5, 3) := by decide +kernel
theorem dX10_way_16 : decode cX10_way 16 = .ok (.iload_n 2, 1) := by decide +kernel
theorem dX10_way_17 : decode cX10_way 17 = .ok (.ireturn, 1) := by decide +kernel
theorem dX10_way_18 : decode cX10_way 18 = .ok (.aload_n 0, 1) := by decide +kernel
theorem dX10_way_19 : decode cX10_way 19 = .ok (.invokevirtual 238, 3) := by decide +kernel
theorem dX10_way_22 : decode cX10_way 22 = .ok (.aload_n 0, 1) := by decide +kernel
theorem dX10_way_23 : decode cX10_way 23 = .ok (.getfield 62, 3) := by decide +kernel
theorem dX10_way_26 : decode cX10_way 26 = .ok (.aload_n 0, 1) := by decide +kernel
theorem dX10_way_27 : decode cX10_way 27 = .ok (.getfield 232, 3) := by decide +kernel
theorem dX10_way_30 : decode cX10_way 30 = .ok (.iload_n 1, 1) := by decide +kernel
theorem dX10_way_31 : decode cX10_way 31 = .ok (.invokestatic 247, 3) := by decide +kernel
theorem dX10_way_34 : decode cX10_way 34 = .ok (.ireturn, 1) := by decide +kernel
theorem dX10_block_0 : decode cX10_block 0 = .ok (.iload_n 1, 1) := by decide +kernel
theorem dX10_block_1 : decode cX10_block 1 = .ok (.iconst (-1), 1) := by decide +kernel
theorem dX10_block_2 : decode cX10_block 2 = .ok (.if_icmp .ge 5, 3) := by decide +kernel
theorem dX10_block_5 : decode cX10_block 5 = .ok (.iconst (-1), 1) := by decide +kernel
theorem dX10_block_6 : decode cX10_block 6 = .ok (.ireturn, 1) := by decide +kernel
theorem dX10_block_7 : decode cX10_block 7 = .ok (.aload_n 0, 1) := by decide +kernel
theorem dX10_block_8 : decode cX10_block 8 = .ok (.invokevirtual 244, 3) := by decide +kernel
theorem dX10_block_11 : decode cX10_block 11 = .ok (.istore_n 2, 1) := by decide +kernel
theorem dX10_block_12 : decode cX10_block 12 = .ok (.iload_n 2, 1) := by decide +kernel
theorem dX10_block_13 : decode cX10_block 13 = .ok (.ifCond .ge 5, 3) := by decide +kernel
theorem dX10_block_16 : decode cX10_block 16 = .ok (.iload_n 2, 1) := by decide +kernel
theorem dX10_block_17 : decode cX10_block 17 = .ok (.ireturn, 1) := by decide +kernel
theorem dX10_block_18 : decode cX10_block 18 = .ok (.aload_n 0, 1) := by decide +kernel
theorem dX10_block_19 : decode cX10_block 19 = .ok (.invokevirtual 251, 3) := by decide +kernel
theorem dX10_block_22 : decode cX10_block 22 = .ok (.iload_n 1, 1) := by decide +kernel
theorem dX10_block_23 : decode cX10_block 23 = .ok (.ifCond .ge 10, 3) := by decide +kernel
theorem dX10_block_26 : decode cX10_block 26 = .ok (.aload_n 0, 1) := by decide +kernel
theorem dX10_block_27 : decode cX10_block 27 = .ok (.getfield 241, 3) := by decide +kernel
theorem dX10_block_30 : decode cX10_block 30 = .ok (.goto 31, 3) := by decide +kernel
theorem dX10_block_33 : decode cX10_block 33 = .ok (.iload_n 1, 1) := by decide +kernel
theorem dX10_block_34 : decode cX10_block 34 = .ok (.aload_n 0, 1) := by decide +kernel
theorem dX10_block_35 : decode cX10_block 35 = .ok (.getfield 241, 3) := by decide +kernel
theorem dX10_block_38 : decode cX10_block 38 = .ok (.if_icmp .ge 21, 3) := by decide +kernel
theorem dX10_block_41 : decode cX10_block 41 = .ok (.aload_n 0, 1) := by decide +kernel
theorem dX10_block_42 : decode cX10_block 42 = .ok (.getfield 65, 3) := by decide +kernel
theorem dX10_block_45 : decode cX10_block 45 = .ok (.iload_n 1, 1) := by decide +kernel
theorem dX10_block_46 : decode cX10_block 46 = .ok (.iconst 1, 1) := by decide +kernel
theorem dX10_block_47 : decode cX10_block 47 = .ok (.iadd, 1) := by decide +kernel
theorem dX10_block_48 : decode cX10_block 48 = .ok (.iaload, 1) := by decide +kernel
theorem dX10_block_49 : decode cX10_block 49 = .ok (.aload_n 0, 1) := by decide +kernel
theorem dX10_block_50 : decode cX10_block 50 = .ok (.getfield 65, 3) := by decide +kernel
theorem dX10_block_53 : decode cX10_block 53 = .ok (.iload_n 1, 1) := by decide +kernel
theorem dX10_block_54 : decode cX10_block 54 = .ok (.iaload, 1) := by decide +kernel
theorem dX10_block_55 : decode cX10_block 55 = .ok (.isub, 1) := by decide +kernel
theorem dX10_block_56 : decode cX10_block 56 = .ok (.goto 5, 3) := by decide +kernel
theorem dX10_block_59 : decode cX10_block 59 = .ok (.bipush (-2), 2) := by decide +kernel
theorem dX10_block_61 : decode cX10_block 61 = .ok (.ireturn, 1) := by decide +kernel
theorem dX10_comesMove_0 : decode cX10_comesMove 0 = .ok (.aload_n 0, 1) := by decide +kernel
theorem dX10_comesMove_1 : decode cX10_comesMove 1 = .ok (.getfield 62, 3) := by decide +kernel
theorem dX10_comesMove_4 : decode cX10_comesMove 4 = .ok (.iload_n 1, 1) := by decide +kernel
theorem dX10_comesMove_5 : decode cX10_comesMove 5 = .ok (.iaload, 1) := by decide +kernel
theorem dX10_comesMove_6 : decode cX10_comesMove 6 = .ok (.istore_n 2, 1) := by decide +kernel
theorem dX10_comesMove_7 : decode cX10_comesMove 7 = .ok (.aload_n 0, 1) := by decide +kernel
theorem dX10_comesMove_8 : decode cX10_comesMove 8 = .ok (.getfield 62, 3) := by decide +kernel
theorem dX10_comesMove_11 : decode cX10_comesMove 11 = .ok (.iload_n 1, 1) := by decide +kernel
theorem dX10_comesMove_12 : decode cX10_comesMove 12 = .ok (.iconst 1, 1) := by decide +kernel
theorem dX10_comesMove_13 : decode cX10_comesMove 13 = .ok (.iadd, 1) := by decide +kernel
theorem dX10_comesMove_14 : decode cX10_comesMove 14 = .ok (.iaload, 1) := by decide +kernel
theorem dX10_comesMove_15 : decode cX10_comesMove 15 = .ok (.istore_n 3, 1) := by decide +kernel
theorem dX10_comesMove_16 : decode cX10_comesMove 16 = .ok (.aload_n 0, 1) := by decide +kernel
theorem dX10_comesMove_17 : decode cX10_comesMove 17 = .ok (.getfield 9, 3) := by decide +kernel
theorem dX10_comesMove_20 : decode cX10_comesMove 20 = .ok (.iload_n 2, 1) := by decide +kernel
theorem dX10_comesMove_21 : decode cX10_comesMove 21 = .ok (.iaload, 1) := by decide +kernel
theorem dX10_comesMove_22 : decode cX10_comesMove 22 = .ok (.aload_n 0, 1) := by decide +kernel
theorem dX10_comesMove_23 : decode cX10_comesMove 23 = .ok (.getfield 9, 3) := by decide +kernel
theorem dX10_comesMove_26 : decode cX10_comesMove 26 = .ok (.iload_n 3, 1) := by decide +kernel
theorem dX10_comesMove_27 : decode cX10_comesMove 27 = .ok (.iaload, 1) := by decide +kernel
theorem dX10_comesMove_28 : decode cX10_comesMove 28 = .ok (.if_icmp .ne 4, 3) := by decide +kernel
theorem dX10_comesMove_31 : decode cX10_comesMove 31 = .ok (.return_, 1) := by decide +kernel
theorem dX10_comesMove_32 : decode cX10_comesMove 32 = .ok (.aload_n 0, 1) := by decide +kernel
theorem dX10_comesMove_33 : decode cX10_comesMove 33 = .ok (.getfield 68, 3) := by decide +kernel
theorem dX10_comesMove_36 : decode cX10_comesMove 36 = .ok (.aload_n 0, 1) := by decide +kernel
theorem dX10_comesMove_37 : decode cX10_comesMove 37 = .ok (.getfield 254, 3) := by decide +kernel
theorem dX10_comesMove_40 : decode cX10_comesMove 40 = .ok (.bipush 100, 2) := by decide +kernel
theorem dX10_comesMove_42 : decode cX10_comesMove 42 = .ok (.iload_n 2, 1) := by decide +kernel
theorem dX10_comesMove_43 : decode cX10_comesMove 43 = .ok (.imul, 1) := by decide +kernel
theorem dX10_comesMove_44 : decode cX10_comesMove 44 = .ok (.iload_n 3, 1) := by decide +kernel
theorem dX10_comesMove_45 : decode cX10_comesMove 45 = .ok (.iadd, 1) := by decide +kernel
theorem dX10_comesMove_46 : decode cX10_comesMove 46 = .ok (.iastore, 1) := by decide +kernel
theorem dX10_comesMove_47 : decode cX10_comesMove 47 = .ok (.aload_n 0, 1) := by decide +kernel
theorem dX10_comesMove_48 : decode cX10_comesMove 48 = .ok (.getfield 71, 3) := by decide +kernel
theorem dX10_comesMove_51 : decode cX10_comesMove 51 = .ok (.aload_n 0, 1) := by decide +kernel
theorem dX10_comesMove_52 : decode cX10_comesMove 52 = .ok (.getfield 254, 3) := by decide +kernel
theorem dX10_comesMove_55 : decode cX10_comesMove 55 = .ok (.aload_n 0, 1) := by decide +kernel
theorem dX10_comesMove_56 : decode cX10_comesMove 56 = .ok (.iload_n 2, 1) := by decide +kernel
theorem dX10_comesMove_57 : decode cX10_comesMove 57 = .ok (.iload_n 3, 1) := by decide +kernel
theorem dX10_comesMove_58 : decode cX10_comesMove 58 = .ok (.invokevirtual 257, 3) := by decide +kernel
theorem dX10_comesMove_61 : decode cX10_comesMove 61 = .ok (.iastore, 1) := by decide +kernel
theorem dX10_comesMove_62 : decode cX10_comesMove 62 = .ok (.aload_n 0, 1) := by decide +kernel
theorem dX10_comesMove_63 : decode cX10_comesMove 63 = .ok (.dup, 1) := by decide +kernel
theorem dX10_comesMove_64 : decode cX10_comesMove 64 = .ok (.getfield 254, 3) := by decide +kernel
theorem dX10_comesMove_67 : decode cX10_comesMove 67 = .ok (.iconst 1, 1) := by decide +kernel
theorem dX10_comesMove_68 : decode cX10_comesMove 68 = .ok (.iadd, 1) := by decide +kernel
theorem dX10_comesMove_69 : decode cX10_comesMove 69 = .ok (.putfield 254, 3) := by decide +kernel
theorem dX10_comesMove_72 : decode cX10_comesMove 72 = .ok (.return_, 1) := by decide +kernel
theorem dX10_leastBy_0 : decode cX10_leastBy 0 = .ok (.aload_n 0, 1) := by decide +kernel
theorem dX10_leastBy_1 : decode cX10_leastBy 1 = .ok (.aload_n 0, 1) := by decide +kernel
theorem dX10_leastBy_2 : decode cX10_leastBy 2 = .ok (.iload_n 2, 1) := by decide +kernel
theorem dX10_leastBy_3 : decode cX10_leastBy 3 = .ok (.invokevirtual 198, 3) := by decide +kernel
theorem dX10_leastBy_6 : decode cX10_leastBy 6 = .ok (.invokevirtual 211, 3) := by decide +kernel
theorem dX10_leastBy_9 : decode cX10_leastBy 9 = .ok (.aload_n 0, 1) := by decide +kernel
theorem dX10_leastBy_10 : decode cX10_leastBy 10 = .ok (.aload_n 0, 1) := by decide +kernel
theorem dX10_leastBy_11 : decode cX10_leastBy 11 = .ok (.getfield 43, 3) := by decide +kernel
theorem dX10_leastBy_14 : decode cX10_leastBy 14 = .ok (.iload_n 1, 1) := by decide +kernel
theorem dX10_leastBy_15 : decode cX10_leastBy 15 = .ok (.iaload, 1) := by decide +kernel
theorem dX10_leastBy_16 : decode cX10_leastBy 16 = .ok (.invokevirtual 211, 3) := by decide +kernel
theorem dX10_leastBy_19 : decode cX10_leastBy 19 = .ok (.invokestatic 214, 3) := by decide +kernel
theorem dX10_leastBy_22 : decode cX10_leastBy 22 = .ok (.istore_n 3, 1) := by decide +kernel
theorem dX10_leastBy_23 : decode cX10_leastBy 23 = .ok (.iload_n 3, 1) := by decide +kernel
theorem dX10_leastBy_24 : decode cX10_leastBy 24 = .ok (.aload_n 0, 1) := by decide +kernel
theorem dX10_leastBy_25 : decode cX10_leastBy 25 = .ok (.getfield 19, 3) := by decide +kernel
theorem dX10_leastBy_28 : decode cX10_leastBy 28 = .ok (.iload_n 2, 1) := by decide +kernel
theorem dX10_leastBy_29 : decode cX10_leastBy 29 = .ok (.iaload, 1) := by decide +kernel
theorem dX10_leastBy_30 : decode cX10_leastBy 30 = .ok (.iadd, 1) := by decide +kernel
theorem dX10_leastBy_31 : decode cX10_leastBy 31 = .ok (.aload_n 0, 1) := by decide +kernel
theorem dX10_leastBy_32 : decode cX10_leastBy 32 = .ok (.aload_n 0, 1) := by decide +kernel
theorem dX10_leastBy_33 : decode cX10_leastBy 33 = .ok (.iload_n 1, 1) := by decide +kernel
theorem dX10_leastBy_34 : decode cX10_leastBy 34 = .ok (.invokevirtual 198, 3) := by decide +kernel
theorem dX10_leastBy_37 : decode cX10_leastBy 37 = .ok (.invokevirtual 211, 3) := by decide +kernel
theorem dX10_leastBy_40 : decode cX10_leastBy 40 = .ok (.invokestatic 214, 3) := by decide +kernel
theorem dX10_leastBy_43 : decode cX10_leastBy 43 = .ok (.istore 4, 2) := by decide +kernel
theorem dX10_leastBy_45 : decode cX10_leastBy 45 = .ok (.aload_n 0, 1) := by decide +kernel
theorem dX10_leastBy_46 : decode cX10_leastBy 46 = .ok (.aload_n 0, 1) := by decide +kernel
theorem dX10_leastBy_47 : decode cX10_leastBy 47 = .ok (.iload_n 1, 1) := by decide +kernel
theorem dX10_leastBy_48 : decode cX10_leastBy 48 = .ok (.invokevirtual 220, 3) := by decide +kernel
theorem dX10_leastBy_51 : decode cX10_leastBy 51 = .ok (.invokevirtual 223, 3) := by decide +kernel
theorem dX10_leastBy_54 : decode cX10_leastBy 54 = .ok (.aload_n 0, 1) := by decide +kernel
theorem dX10_leastBy_55 : decode cX10_leastBy 55 = .ok (.aload_n 0, 1) := by decide +kernel
theorem dX10_leastBy_56 : decode cX10_leastBy 56 = .ok (.getfield 46, 3) := by decide +kernel
theorem dX10_leastBy_59 : decode cX10_leastBy 59 = .ok (.iload_n 2, 1) := by decide +kernel
theorem dX10_leastBy_60 : decode cX10_leastBy 60 = .ok (.iaload, 1) := by decide +kernel
theorem dX10_leastBy_61 : decode cX10_leastBy 61 = .ok (.invokevirtual 223, 3) := by decide +kernel
theorem dX10_leastBy_64 : decode cX10_leastBy 64 = .ok (.invokestatic 214, 3) := by decide +kernel
theorem dX10_leastBy_67 : decode cX10_leastBy 67 = .ok (.istore 5, 2) := by decide +kernel
theorem dX10_leastBy_69 : decode cX10_leastBy 69 = .ok (.aload_n 0, 1) := by decide +kernel
theorem dX10_leastBy_70 : decode cX10_leastBy 70 = .ok (.aload_n 0, 1) := by decide +kernel
theorem dX10_leastBy_71 : decode cX10_leastBy 71 = .ok (.iload_n 2, 1) := by decide +kernel
theorem dX10_leastBy_72 : decode cX10_leastBy 72 = .ok (.invokevirtual 220, 3) := by decide +kernel
theorem dX10_leastBy_75 : decode cX10_leastBy 75 = .ok (.invokevirtual 223, 3) := by decide +kernel
theorem dX10_leastBy_78 : decode cX10_leastBy 78 = .ok (.aload_n 0, 1) := by decide +kernel
theorem dX10_leastBy_79 : decode cX10_leastBy 79 = .ok (.getfield 19, 3) := by decide +kernel
theorem dX10_leastBy_82 : decode cX10_leastBy 82 = .ok (.iload_n 1, 1) := by decide +kernel
theorem dX10_leastBy_83 : decode cX10_leastBy 83 = .ok (.iaload, 1) := by decide +kernel
theorem dX10_leastBy_84 : decode cX10_leastBy 84 = .ok (.iload 5, 2) := by decide +kernel
theorem dX10_leastBy_86 : decode cX10_leastBy 86 = .ok (.iadd, 1) := by decide +kernel
theorem dX10_leastBy_87 : decode cX10_leastBy 87 = .ok (.invokestatic 214, 3) := by decide +kernel
theorem dX10_leastBy_90 : decode cX10_leastBy 90 = .ok (.istore 6, 2) := by decide +kernel
theorem dX10_leastBy_92 : decode cX10_leastBy 92 = .ok (.iload_n 3, 1) := by decide +kernel
theorem dX10_leastBy_93 : decode cX10_leastBy 93 = .ok (.aload_n 0, 1) := by decide +kernel
theorem dX10_leastBy_94 : decode cX10_leastBy 94 = .ok (.getfield 19, 3) := by decide +kernel
theorem dX10_leastBy_97 : decode cX10_leastBy 97 = .ok (.iload_n 2, 1) := by decide +kernel
theorem dX10_leastBy_98 : decode cX10_leastBy 98 = .ok (.iaload, 1) := by decide +kernel
theorem dX10_leastBy_99 : decode cX10_leastBy 99 = .ok (.iadd, 1) := by decide +kernel
theorem dX10_leastBy_100 : decode cX10_leastBy 100 = .ok (.iload 6, 2) := by decide +kernel
theorem dX10_leastBy_102 : decode cX10_leastBy 102 = .ok (.iadd, 1) := by decide +kernel
theorem dX10_leastBy_103 : decode cX10_leastBy 103 = .ok (.iload 4, 2) := by decide +kernel
theorem dX10_leastBy_105 : decode cX10_leastBy 105 = .ok (.aload_n 0, 1) := by decide +kernel
theorem dX10_leastBy_106 : decode cX10_leastBy 106 = .ok (.getfield 19, 3) := by decide +kernel
theorem dX10_leastBy_109 : decode cX10_leastBy 109 = .ok (.iload_n 1, 1) := by decide +kernel
theorem dX10_leastBy_110 : decode cX10_leastBy 110 = .ok (.iaload, 1) := by decide +kernel
theorem dX10_leastBy_111 : decode cX10_leastBy 111 = .ok (.iadd, 1) := by decide +kernel
theorem dX10_leastBy_112 : decode cX10_leastBy 112 = .ok (.iload 5, 2) := by decide +kernel
theorem dX10_leastBy_114 : decode cX10_leastBy 114 = .ok (.iadd, 1) := by decide +kernel
theorem dX10_leastBy_115 : decode cX10_leastBy 115 = .ok (.invokestatic 214, 3) := by decide +kernel
theorem dX10_leastBy_118 : decode cX10_leastBy 118 = .ok (.ireturn, 1) := by decide +kernel
theorem dX10_findsMoves_0 : decode cX10_findsMoves 0 = .ok (.aload_n 0, 1) := by decide +kernel
theorem dX10_findsMoves_1 : decode cX10_findsMoves 1 = .ok (.invokevirtual 251, 3) := by decide +kernel
theorem dX10_findsMoves_4 : decode cX10_findsMoves 4 = .ok (.aload_n 0, 1) := by decide +kernel
theorem dX10_findsMoves_5 : decode cX10_findsMoves 5 = .ok (.iconst 0, 1) := by decide +kernel
theorem dX10_findsMoves_6 : decode cX10_findsMoves 6 = .ok (.putfield 254, 3) := by decide +kernel
theorem dX10_findsMoves_9 : decode cX10_findsMoves 9 = .ok (.iconst 0, 1) := by decide +kernel
theorem dX10_findsMoves_10 : decode cX10_findsMoves 10 = .ok (.istore_n 1, 1) := by decide +kernel
theorem dX10_findsMoves_11 : decode cX10_findsMoves 11 = .ok (.iload_n 1, 1) := by decide +kernel
theorem dX10_findsMoves_12 : decode cX10_findsMoves 12 = .ok (.aload_n 0, 1) := by decide +kernel
theorem dX10_findsMoves_13 : decode cX10_findsMoves 13 = .ok (.getfield 241, 3) := by decide +kernel
theorem dX10_findsMoves_16 : decode cX10_findsMoves 16 = .ok (.if_icmp .ge 82, 3) := by decide +kernel
theorem dX10_findsMoves_19 : decode cX10_findsMoves 19 = .ok (.aload_n 0, 1) := by decide +kernel
theorem dX10_findsMoves_20 : decode cX10_findsMoves 20 = .ok (.getfield 241, 3) := by decide +kernel
theorem dX10_findsMoves_23 : decode cX10_findsMoves 23 = .ok (.iconst 1, 1) := by decide +kernel
theorem dX10_findsMoves_24 : decode cX10_findsMoves 24 = .ok (.if_icmp .le 74, 3) := by decide +kernel
theorem dX10_findsMoves_27 : decode cX10_findsMoves 27 = .ok (.aload_n 0, 1) := by decide +kernel
theorem dX10_findsMoves_28 : decode cX10_findsMoves 28 = .ok (.getfield 65, 3) := by decide +kernel
theorem dX10_findsMoves_31 : decode cX10_findsMoves 31 = .ok (.iload_n 1, 1) := by decide +kernel
theorem dX10_findsMoves_32 : decode cX10_findsMoves 32 = .ok (.iaload, 1) := by decide +kernel
theorem dX10_findsMoves_33 : decode cX10_findsMoves 33 = .ok (.istore_n 2, 1) := by decide +kernel
theorem dX10_findsMoves_34 : decode cX10_findsMoves 34 = .ok (.aload_n 0, 1) := by decide +kernel
theorem dX10_findsMoves_35 : decode cX10_findsMoves 35 = .ok (.getfield 65, 3) := by decide +kernel
theorem dX10_findsMoves_38 : decode cX10_findsMoves 38 = .ok (.iload_n 1, 1) := by decide +kernel
theorem dX10_findsMoves_39 : decode cX10_findsMoves 39 = .ok (.iconst 1, 1) := by decide +kernel
theorem dX10_findsMoves_40 : decode cX10_findsMoves 40 = .ok (.iadd, 1) := by decide +kernel
theorem dX10_findsMoves_41 : decode cX10_findsMoves 41 = .ok (.iaload, 1) := by decide +kernel
theorem dX10_findsMoves_42 : decode cX10_findsMoves 42 = .ok (.iconst 1, 1) := by decide +kernel
theorem dX10_findsMoves_43 : decode cX10_findsMoves 43 = .ok (.isub, 1) := by decide +kernel
theorem dX10_findsMoves_44 : decode cX10_findsMoves 44 = .ok (.istore_n 3, 1) := by decide +kernel
theorem dX10_findsMoves_45 : decode cX10_findsMoves 45 = .ok (.iload_n 3, 1) := by decide +kernel
theorem dX10_findsMoves_46 : decode cX10_findsMoves 46 = .ok (.iload_n 2, 1) := by decide +kernel
theorem dX10_findsMoves_47 : decode cX10_findsMoves 47 = .ok (.if_icmp .le 12, 3) := by decide +kernel
theorem dX10_findsMoves_50 : decode cX10_findsMoves 50 = .ok (.iload_n 1, 1) := by decide +kernel
theorem dX10_findsMoves_51 : decode cX10_findsMoves 51 = .ok (.ifCond .le 8, 3) := by decide +kernel
theorem dX10_findsMoves_54 : decode cX10_findsMoves 54 = .ok (.aload_n 0, 1) := by decide +kernel
theorem dX10_findsMoves_55 : decode cX10_findsMoves 55 = .ok (.iload_n 2, 1) := by decide +kernel
theorem dX10_findsMoves_56 : decode cX10_findsMoves 56 = .ok (.invokevirtual 260, 3) := by decide +kernel
theorem dX10_findsMoves_59 : decode cX10_findsMoves 59 = .ok (.iload_n 3, 1) := by decide +kernel
theorem dX10_findsMoves_60 : decode cX10_findsMoves 60 = .ok (.iload_n 2, 1) := by decide +kernel
theorem dX10_findsMoves_61 : decode cX10_findsMoves 61 = .ok (.if_icmp .le 31, 3) := by decide +kernel
theorem dX10_findsMoves_64 : decode cX10_findsMoves 64 = .ok (.iload_n 1, 1) := by decide +kernel
theorem dX10_findsMoves_65 : decode cX10_findsMoves 65 = .ok (.aload_n 0, 1) := by decide +kernel
theorem dX10_findsMoves_66 : decode cX10_findsMoves 66 = .ok (.getfield 241, 3) := by decide +kernel
theorem dX10_findsMoves_69 : decode cX10_findsMoves 69 = .ok (.iconst 1, 1) := by decide +kernel
theorem dX10_findsMoves_70 : decode cX10_findsMoves 70 = .ok (.isub, 1) := by decide +kernel
theorem dX10_findsMoves_71 : decode cX10_findsMoves 71 = .ok (.if_icmp .ge 21, 3) := by decide +kernel
theorem dX10_findsMoves_74 : decode cX10_findsMoves 74 = .ok (.iload_n 1, 1) := by decide +kernel
theorem dX10_findsMoves_75 : decode cX10_findsMoves 75 = .ok (.ifCond .eq 10, 3) := by decide +kernel
theorem dX10_findsMoves_78 : decode cX10_findsMoves 78 = .ok (.iload_n 3, 1) := by decide +kernel
theorem dX10_findsMoves_79 : decode cX10_findsMoves 79 = .ok (.iconst 1, 1) := by decide +kernel
theorem dX10_findsMoves_80 : decode cX10_findsMoves 80 = .ok (.isub, 1) := by decide +kernel
theorem dX10_findsMoves_81 : decode cX10_findsMoves 81 = .ok (.iload_n 2, 1) := by decide +kernel
theorem dX10_findsMoves_82 : decode cX10_findsMoves 82 = .ok (.if_icmp .le 10, 3) := by decide +kernel
theorem dX10_findsMoves_85 : decode cX10_findsMoves 85 = .ok (.aload_n 0, 1) := by decide +kernel
theorem dX10_findsMoves_86 : decode cX10_findsMoves 86 = .ok (.iload_n 3, 1) := by decide +kernel
theorem dX10_findsMoves_87 : decode cX10_findsMoves 87 = .ok (.iconst 1, 1) := by decide +kernel
theorem dX10_findsMoves_88 : decode cX10_findsMoves 88 = .ok (.isub, 1) := by decide +kernel
theorem dX10_findsMoves_89 : decode cX10_findsMoves 89 = .ok (.invokevirtual 260, 3) := by decide +kernel
theorem dX10_findsMoves_92 : decode cX10_findsMoves 92 = .ok (.iinc 1 1, 3) := by decide +kernel
theorem dX10_findsMoves_95 : decode cX10_findsMoves 95 = .ok (.goto (-84), 3) := by decide +kernel
theorem dX10_findsMoves_98 : decode cX10_findsMoves 98 = .ok (.return_, 1) := by decide +kernel
theorem dX10_swapsMove_0 : decode cX10_swapsMove 0 = .ok (.iload_n 1, 1) := by decide +kernel
theorem dX10_swapsMove_1 : decode cX10_swapsMove 1 = .ok (.bipush 100, 2) := by decide +kernel
theorem dX10_swapsMove_3 : decode cX10_swapsMove 3 = .ok (.idiv, 1) := by decide +kernel
theorem dX10_swapsMove_4 : decode cX10_swapsMove 4 = .ok (.istore_n 2, 1) := by decide +kernel
theorem dX10_swapsMove_5 : decode cX10_swapsMove 5 = .ok (.iload_n 1, 1) := by decide +kernel
theorem dX10_swapsMove_6 : decode cX10_swapsMove 6 = .ok (.bipush 100, 2) := by decide +kernel
theorem dX10_swapsMove_8 : decode cX10_swapsMove 8 = .ok (.irem, 1) := by decide +kernel
theorem dX10_swapsMove_9 : decode cX10_swapsMove 9 = .ok (.istore_n 3, 1) := by decide +kernel
theorem dX10_swapsMove_10 : decode cX10_swapsMove 10 = .ok (.aload_n 0, 1) := by decide +kernel
theorem dX10_swapsMove_11 : decode cX10_swapsMove 11 = .ok (.aload_n 0, 1) := by decide +kernel
theorem dX10_swapsMove_12 : decode cX10_swapsMove 12 = .ok (.getfield 16, 3) := by decide +kernel
theorem dX10_swapsMove_15 : decode cX10_swapsMove 15 = .ok (.iload_n 2, 1) := by decide +kernel
theorem dX10_swapsMove_16 : decode cX10_swapsMove 16 = .ok (.iaload, 1) := by decide +kernel
theorem dX10_swapsMove_17 : decode cX10_swapsMove 17 = .ok (.aload_n 0, 1) := by decide +kernel
theorem dX10_swapsMove_18 : decode cX10_swapsMove 18 = .ok (.iload_n 2, 1) := by decide +kernel
theorem dX10_swapsMove_19 : decode cX10_swapsMove 19 = .ok (.invokevirtual 177, 3) := by decide +kernel
theorem dX10_swapsMove_22 : decode cX10_swapsMove 22 = .ok (.aload_n 0, 1) := by decide +kernel
theorem dX10_swapsMove_23 : decode cX10_swapsMove 23 = .ok (.iload_n 3, 1) := by decide +kernel
theorem dX10_swapsMove_24 : decode cX10_swapsMove 24 = .ok (.invokevirtual 177, 3) := by decide +kernel
theorem dX10_swapsMove_27 : decode cX10_swapsMove 27 = .ok (.invokestatic 263, 3) := by decide +kernel
theorem dX10_swapsMove_30 : decode cX10_swapsMove 30 = .ok (.invokevirtual 184, 3) := by decide +kernel
theorem dX10_swapsMove_33 : decode cX10_swapsMove 33 = .ok (.return_, 1) := by decide +kernel
theorem dX10_spanBehind_0 : decode cX10_spanBehind 0 = .ok (.aload_n 0, 1) := by decide +kernel
theorem dX10_spanBehind_1 : decode cX10_spanBehind 1 = .ok (.iload_n 1, 1) := by decide +kernel
theorem dX10_spanBehind_2 : decode cX10_spanBehind 2 = .ok (.invokevirtual 266, 3) := by decide +kernel
theorem dX10_spanBehind_5 : decode cX10_spanBehind 5 = .ok (.aload_n 0, 1) := by decide +kernel
theorem dX10_spanBehind_6 : decode cX10_spanBehind 6 = .ok (.invokevirtual 191, 3) := by decide +kernel
theorem dX10_spanBehind_9 : decode cX10_spanBehind 9 = .ok (.istore_n 2, 1) := by decide +kernel
theorem dX10_spanBehind_10 : decode cX10_spanBehind 10 = .ok (.aload_n 0, 1) := by decide +kernel
theorem dX10_spanBehind_11 : decode cX10_spanBehind 11 = .ok (.iload_n 1, 1) := by decide +kernel
theorem dX10_spanBehind_12 : decode cX10_spanBehind 12 = .ok (.invokevirtual 266, 3) := by decide +kernel
theorem dX10_spanBehind_15 : decode cX10_spanBehind 15 = .ok (.iload_n 2, 1) := by decide +kernel
theorem dX10_spanBehind_16 : decode cX10_spanBehind 16 = .ok (.ifCond .eq 10, 3) := by decide +kernel
theorem dX10_spanBehind_19 : decode cX10_spanBehind 19 = .ok (.aload_n 0, 1) := by decide +kernel
theorem dX10_spanBehind_20 : decode cX10_spanBehind 20 = .ok (.getfield 195, 3) := by decide +kernel
theorem dX10_spanBehind_23 : decode cX10_spanBehind 23 = .ok (.goto 5, 3) := by decide +kernel
theorem dX10_spanBehind_26 : decode cX10_spanBehind 26 = .ok (.bipush (-4), 2) := by decide +kernel
theorem dX10_spanBehind_28 : decode cX10_spanBehind 28 = .ok (.ireturn, 1) := by decide +kernel
theorem dX10_move_0 : decode cX10_move 0 = .ok (.iload_n 1, 1) := by decide +kernel
theorem dX10_move_1 : decode cX10_move 1 = .ok (.iconst (-1), 1) := by decide +kernel
theorem dX10_move_2 : decode cX10_move 2 = .ok (.if_icmp .ge 5, 3) := by decide +kernel
theorem dX10_move_5 : decode cX10_move 5 = .ok (.iconst (-1), 1) := by decide +kernel
theorem dX10_move_6 : decode cX10_move 6 = .ok (.ireturn, 1) := by decide +kernel
theorem dX10_move_7 : decode cX10_move 7 = .ok (.aload_n 0, 1) := by decide +kernel
theorem dX10_move_8 : decode cX10_move 8 = .ok (.invokevirtual 244, 3) := by decide +kernel
theorem dX10_move_11 : decode cX10_move 11 = .ok (.istore_n 2, 1) := by decide +kernel
theorem dX10_move_12 : decode cX10_move 12 = .ok (.iload_n 2, 1) := by decide +kernel
theorem dX10_move_13 : decode cX10_move 13 = .ok (.ifCond .ge 5, 3) := by decide +kernel
theorem dX10_move_16 : decode cX10_move 16 = .ok (.iload_n 2, 1) := by decide +kernel
theorem dX10_move_17 : decode cX10_move 17 = .ok (.ireturn, 1) := by decide +kernel
theorem dX10_move_18 : decode cX10_move 18 = .ok (.aload_n 0, 1) := by decide +kernel
theorem dX10_move_19 : decode cX10_move 19 = .ok (.invokevirtual 269, 3) := by decide +kernel
theorem dX10_move_22 : decode cX10_move 22 = .ok (.aload_n 0, 1) := by decide +kernel
theorem dX10_move_23 : decode cX10_move 23 = .ok (.getfield 68, 3) := by decide +kernel
theorem dX10_move_26 : decode cX10_move 26 = .ok (.aload_n 0, 1) := by decide +kernel
theorem dX10_move_27 : decode cX10_move 27 = .ok (.getfield 254, 3) := by decide +kernel
theorem dX10_move_30 : decode cX10_move 30 = .ok (.iload_n 1, 1) := by decide +kernel
theorem dX10_move_31 : decode cX10_move 31 = .ok (.invokestatic 247, 3) := by decide +kernel
theorem dX10_move_34 : decode cX10_move 34 = .ok (.ireturn, 1) := by decide +kernel
theorem dX10_brings_0 : decode cX10_brings 0 = .ok (.iload_n 1, 1) := by decide +kernel
theorem dX10_brings_1 : decode cX10_brings 1 = .ok (.ifCond .lt 12, 3) := by decide +kernel
theorem dX10_brings_4 : decode cX10_brings 4 = .ok (.iload_n 2, 1) := by decide +kernel
theorem dX10_brings_5 : decode cX10_brings 5 = .ok (.iconst 0, 1) := by decide +kernel
theorem dX10_brings_6 : decode cX10_brings 6 = .ok (.iconst 2, 1) := by decide +kernel
theorem dX10_brings_7 : decode cX10_brings 7 = .ok (.invokestatic 108, 3) := by decide +kernel
theorem dX10_brings_10 : decode cX10_brings 10 = .ok (.ifCond .ne 5, 3) := by decide +kernel
theorem dX10_brings_13 : decode cX10_brings 13 = .ok (.iconst (-1), 1) := by decide +kernel
theorem dX10_brings_14 : decode cX10_brings 14 = .ok (.ireturn, 1) := by decide +kernel
theorem dX10_brings_15 : decode cX10_brings 15 = .ok (.aload_n 0, 1) := by decide +kernel
theorem dX10_brings_16 : decode cX10_brings 16 = .ok (.invokevirtual 244, 3) := by decide +kernel
theorem dX10_brings_19 : decode cX10_brings 19 = .ok (.istore_n 3, 1) := by decide +kernel
theorem dX10_brings_20 : decode cX10_brings 20 = .ok (.iload_n 3, 1) := by decide +kernel
theorem dX10_brings_21 : decode cX10_brings 21 = .ok (.ifCond .ge 5, 3) := by decide +kernel
theorem dX10_brings_24 : decode cX10_brings 24 = .ok (.iload_n 3, 1) := by decide +kernel
theorem dX10_brings_25 : decode cX10_brings 25 = .ok (.ireturn, 1) := by decide +kernel
theorem dX10_brings_26 : decode cX10_brings 26 = .ok (.aload_n 0, 1) := by decide +kernel
theorem dX10_brings_27 : decode cX10_brings 27 = .ok (.invokevirtual 269, 3) := by decide +kernel
theorem dX10_brings_30 : decode cX10_brings 30 = .ok (.iload_n 1, 1) := by decide +kernel
theorem dX10_brings_31 : decode cX10_brings 31 = .ok (.aload_n 0, 1) := by decide +kernel
theorem dX10_brings_32 : decode cX10_brings 32 = .ok (.getfield 254, 3) := by decide +kernel
theorem dX10_brings_35 : decode cX10_brings 35 = .ok (.if_icmp .lt 6, 3) := by decide +kernel
theorem dX10_brings_38 : decode cX10_brings 38 = .ok (.bipush (-2), 2) := by decide +kernel
theorem dX10_brings_40 : decode cX10_brings 40 = .ok (.ireturn, 1) := by decide +kernel
theorem dX10_brings_41 : decode cX10_brings 41 = .ok (.iload_n 2, 1) := by decide +kernel
theorem dX10_brings_42 : decode cX10_brings 42 = .ok (.ifCond .ne 12, 3) := by decide +kernel
theorem dX10_brings_45 : decode cX10_brings 45 = .ok (.aload_n 0, 1) := by decide +kernel
theorem dX10_brings_46 : decode cX10_brings 46 = .ok (.getfield 71, 3) := by decide +kernel
theorem dX10_brings_49 : decode cX10_brings 49 = .ok (.iload_n 1, 1) := by decide +kernel
theorem dX10_brings_50 : decode cX10_brings 50 = .ok (.iaload, 1) := by decide +kernel
theorem dX10_brings_51 : decode cX10_brings 51 = .ok (.goto 39, 3) := by decide +kernel
theorem dX10_brings_54 : decode cX10_brings 54 = .ok (.iload_n 2, 1) := by decide +kernel
theorem dX10_brings_55 : decode cX10_brings 55 = .ok (.iconst 1, 1) := by decide +kernel
theorem dX10_brings_56 : decode cX10_brings 56 = .ok (.if_icmp .ne 16, 3) := by decide +kernel
theorem dX10_brings_59 : decode cX10_brings 59 = .ok (.aload_n 0, 1) := by decide +kernel
theorem dX10_brings_60 : decode cX10_brings 60 = .ok (.aload_n 0, 1) := by decide +kernel
theorem dX10_brings_61 : decode cX10_brings 61 = .ok (.getfield 68, 3) := by decide +kernel
theorem dX10_brings_64 : decode cX10_brings 64 = .ok (.iload_n 1, 1) := by decide +kernel
theorem dX10_brings_65 : decode cX10_brings 65 = .ok (.iaload, 1) := by decide +kernel
theorem dX10_brings_66 : decode cX10_brings 66 = .ok (.invokevirtual 272, 3) := by decide +kernel
theorem dX10_brings_69 : decode cX10_brings 69 = .ok (.goto 21, 3) := by decide +kernel
theorem dX10_brings_72 : decode cX10_brings 72 = .ok (.aload_n 0, 1) := by decide +kernel
theorem dX10_brings_73 : decode cX10_brings 73 = .ok (.aload_n 0, 1) := by decide +kernel
theorem dX10_brings_74 : decode cX10_brings 74 = .ok (.getfield 68, 3) := by decide +kernel
theorem dX10_brings_77 : decode cX10_brings 77 = .ok (.iload_n 1, 1) := by decide +kernel
theorem dX10_brings_78 : decode cX10_brings 78 = .ok (.iaload, 1) := by decide +kernel
theorem dX10_brings_79 : decode cX10_brings 79 = .ok (.invokevirtual 275, 3) := by decide +kernel
theorem dX10_brings_82 : decode cX10_brings 82 = .ok (.ifCond .ge 7, 3) := by decide +kernel
theorem dX10_brings_85 : decode cX10_brings 85 = .ok (.iconst 0, 1) := by decide +kernel
theorem dX10_brings_86 : decode cX10_brings 86 = .ok (.goto 4, 3) := by decide +kernel
theorem dX10_brings_89 : decode cX10_brings 89 = .ok (.iconst 1, 1) := by decide +kernel
theorem dX10_brings_90 : decode cX10_brings 90 = .ok (.ireturn, 1) := by decide +kernel
theorem dX10_does_0 : decode cX10_does 0 = .ok (.iload_n 1, 1) := by decide +kernel
theorem dX10_does_1 : decode cX10_does 1 = .ok (.ifCond .ge 5, 3) := by decide +kernel
theorem dX10_does_4 : decode cX10_does 4 = .ok (.iconst (-1), 1) := by decide +kernel
theorem dX10_does_5 : decode cX10_does 5 = .ok (.ireturn, 1) := by decide +kernel
theorem dX10_does_6 : decode cX10_does 6 = .ok (.aload_n 0, 1) := by decide +kernel
theorem dX10_does_7 : decode cX10_does 7 = .ok (.invokevirtual 244, 3) := by decide +kernel
theorem dX10_does_10 : decode cX10_does 10 = .ok (.istore_n 2, 1) := by decide +kernel
theorem dX10_does_11 : decode cX10_does 11 = .ok (.iload_n 2, 1) := by decide +kernel
theorem dX10_does_12 : decode cX10_does 12 = .ok (.ifCond .ge 5, 3) := by decide +kernel
theorem dX10_does_15 : decode cX10_does 15 = .ok (.iload_n 2, 1) := by decide +kernel
theorem dX10_does_16 : decode cX10_does 16 = .ok (.ireturn, 1) := by decide +kernel
theorem dX10_does_17 : decode cX10_does 17 = .ok (.aload_n 0, 1) := by decide +kernel
theorem dX10_does_18 : decode cX10_does 18 = .ok (.invokevirtual 269, 3) := by decide +kernel
theorem dX10_does_21 : decode cX10_does 21 = .ok (.iload_n 1, 1) := by decide +kernel
theorem dX10_does_22 : decode cX10_does 22 = .ok (.aload_n 0, 1) := by decide +kernel
theorem dX10_does_23 : decode cX10_does 23 = .ok (.getfield 254, 3) := by decide +kernel
theorem dX10_does_26 : decode cX10_does 26 = .ok (.if_icmp .lt 6, 3) := by decide +kernel
theorem dX10_does_29 : decode cX10_does 29 = .ok (.bipush (-2), 2) := by decide +kernel
theorem dX10_does_31 : decode cX10_does 31 = .ok (.ireturn, 1) := by decide +kernel
theorem dX10_does_32 : decode cX10_does 32 = .ok (.aload_n 0, 1) := by decide +kernel
theorem dX10_does_33 : decode cX10_does 33 = .ok (.aload_n 0, 1) := by decide +kernel
theorem dX10_does_34 : decode cX10_does 34 = .ok (.getfield 68, 3) := by decide +kernel
theorem dX10_does_37 : decode cX10_does 37 = .ok (.iload_n 1, 1) := by decide +kernel
theorem dX10_does_38 : decode cX10_does 38 = .ok (.iaload, 1) := by decide +kernel
theorem dX10_does_39 : decode cX10_does 39 = .ok (.invokevirtual 266, 3) := by decide +kernel
theorem dX10_does_42 : decode cX10_does 42 = .ok (.aload_n 0, 1) := by decide +kernel
theorem dX10_does_43 : decode cX10_does 43 = .ok (.invokevirtual 188, 3) := by decide +kernel
theorem dX10_does_46 : decode cX10_does 46 = .ok (.aload_n 0, 1) := by decide +kernel
theorem dX10_does_47 : decode cX10_does 47 = .ok (.invokevirtual 191, 3) := by decide +kernel
theorem dX10_does_50 : decode cX10_does 50 = .ok (.ifCond .eq 10, 3) := by decide +kernel
theorem dX10_does_53 : decode cX10_does 53 = .ok (.aload_n 0, 1) := by decide +kernel
theorem dX10_does_54 : decode cX10_does 54 = .ok (.getfield 195, 3) := by decide +kernel
theorem dX10_does_57 : decode cX10_does 57 = .ok (.goto 5, 3) := by decide +kernel
theorem dX10_does_60 : decode cX10_does 60 = .ok (.bipush (-4), 2) := by decide +kernel
theorem dX10_does_62 : decode cX10_does 62 = .ok (.ireturn, 1) := by decide +kernel
theorem dX10_forgets_0 : decode cX10_forgets 0 = .ok (.aload_n 0, 1) := by decide +kernel
theorem dX10_forgets_1 : decode cX10_forgets 1 = .ok (.iconst 0, 1) := by decide +kernel
theorem dX10_forgets_2 : decode cX10_forgets 2 = .ok (.putfield 278, 3) := by decide +kernel
theorem dX10_forgets_5 : decode cX10_forgets 5 = .ok (.aload_n 0, 1) := by decide +kernel
theorem dX10_forgets_6 : decode cX10_forgets 6 = .ok (.iconst 0, 1) := by decide +kernel
theorem dX10_forgets_7 : decode cX10_forgets 7 = .ok (.putfield 281, 3) := by decide +kernel
theorem dX10_forgets_10 : decode cX10_forgets 10 = .ok (.return_, 1) := by decide +kernel
theorem dX10_tabu_0 : decode cX10_tabu 0 = .ok (.iload_n 1, 1) := by decide +kernel
theorem dX10_tabu_1 : decode cX10_tabu 1 = .ok (.iconst 0, 1) := by decide +kernel
theorem dX10_tabu_2 : decode cX10_tabu 2 = .ok (.bipush 9, 2) := by decide +kernel
theorem dX10_tabu_4 : decode cX10_tabu 4 = .ok (.invokestatic 108, 3) := by decide +kernel
theorem dX10_tabu_7 : decode cX10_tabu 7 = .ok (.ifCond .ne 5, 3) := by decide +kernel
theorem dX10_tabu_10 : decode cX10_tabu 10 = .ok (.iconst (-1), 1) := by decide +kernel
theorem dX10_tabu_11 : decode cX10_tabu 11 = .ok (.ireturn, 1) := by decide +kernel
theorem dX10_tabu_12 : decode cX10_tabu 12 = .ok (.aload_n 0, 1) := by decide +kernel
theorem dX10_tabu_13 : decode cX10_tabu 13 = .ok (.getfield 74, 3) := by decide +kernel
theorem dX10_tabu_16 : decode cX10_tabu 16 = .ok (.istore_n 2, 1) := by decide +kernel
theorem dX10_tabu_17 : decode cX10_tabu 17 = .ok (.aload_n 0, 1) := by decide +kernel
theorem dX10_tabu_18 : decode cX10_tabu 18 = .ok (.iload_n 1, 1) := by decide +kernel
theorem dX10_tabu_19 : decode cX10_tabu 19 = .ok (.putfield 74, 3) := by decide +kernel
theorem dX10_tabu_22 : decode cX10_tabu 22 = .ok (.aload_n 0, 1) := by decide +kernel
theorem dX10_tabu_23 : decode cX10_tabu 23 = .ok (.invokevirtual 171, 3) := by decide +kernel
theorem dX10_tabu_26 : decode cX10_tabu 26 = .ok (.iload_n 2, 1) := by decide +kernel
theorem dX10_tabu_27 : decode cX10_tabu 27 = .ok (.ireturn, 1) := by decide +kernel
theorem dX10_tabuAt_0 : decode cX10_tabuAt 0 = .ok (.iconst 0, 1) := by decide +kernel
theorem dX10_tabuAt_1 : decode cX10_tabuAt 1 = .ok (.istore_n 2, 1) := by decide +kernel
theorem dX10_tabuAt_2 : decode cX10_tabuAt 2 = .ok (.iload_n 2, 1) := by decide +kernel
theorem dX10_tabuAt_3 : decode cX10_tabuAt 3 = .ok (.aload_n 0, 1) := by decide +kernel
theorem dX10_tabuAt_4 : decode cX10_tabuAt 4 = .ok (.getfield 278, 3) := by decide +kernel
theorem dX10_tabuAt_7 : decode cX10_tabuAt 7 = .ok (.if_icmp .ge 21, 3) := by decide +kernel
theorem dX10_tabuAt_10 : decode cX10_tabuAt 10 = .ok (.aload_n 0, 1) := by decide +kernel
theorem dX10_tabuAt_11 : decode cX10_tabuAt 11 = .ok (.getfield 78, 3) := by decide +kernel
theorem dX10_tabuAt_14 : decode cX10_tabuAt 14 = .ok (.iload_n 2, 1) := by decide +kernel
theorem dX10_tabuAt_15 : decode cX10_tabuAt 15 = .ok (.iaload, 1) := by decide +kernel
theorem dX10_tabuAt_16 : decode cX10_tabuAt 16 = .ok (.iload_n 1, 1) := by decide +kernel
theorem dX10_tabuAt_17 : decode cX10_tabuAt 17 = .ok (.if_icmp .ne 5, 3) := by decide +kernel
theorem dX10_tabuAt_20 : decode cX10_tabuAt 20 = .ok (.iload_n 2, 1) := by decide +kernel
theorem dX10_tabuAt_21 : decode cX10_tabuAt 21 = .ok (.ireturn, 1) := by decide +kernel
theorem dX10_tabuAt_22 : decode cX10_tabuAt 22 = .ok (.iinc 2 1, 3) := by decide +kernel
theorem dX10_tabuAt_25 : decode cX10_tabuAt 25 = .ok (.goto (-23), 3) := by decide +kernel
theorem dX10_tabuAt_28 : decode cX10_tabuAt 28 = .ok (.iconst (-1), 1) := by decide +kernel
theorem dX10_tabuAt_29 : decode cX10_tabuAt 29 = .ok (.ireturn, 1) := by decide +kernel
theorem dX10_takesOff_0 : decode cX10_takesOff 0 = .ok (.aload_n 0, 1) := by decide +kernel
theorem dX10_takesOff_1 : decode cX10_takesOff 1 = .ok (.dup, 1) := by decide +kernel
theorem dX10_takesOff_2 : decode cX10_takesOff 2 = .ok (.getfield 278, 3) := by decide +kernel
theorem dX10_takesOff_5 : decode cX10_takesOff 5 = .ok (.iconst 1, 1) := by decide +kernel
theorem dX10_takesOff_6 : decode cX10_takesOff 6 = .ok (.isub, 1) := by decide +kernel
theorem dX10_takesOff_7 : decode cX10_takesOff 7 = .ok (.putfield 278, 3) := by decide +kernel
theorem dX10_takesOff_10 : decode cX10_takesOff 10 = .ok (.iload_n 1, 1) := by decide +kernel
theorem dX10_takesOff_11 : decode cX10_takesOff 11 = .ok (.istore_n 2, 1) := by decide +kernel
theorem dX10_takesOff_12 : decode cX10_takesOff 12 = .ok (.iload_n 2, 1) := by decide +kernel
theorem dX10_takesOff_13 : decode cX10_takesOff 13 = .ok (.aload_n 0, 1) := by decide +kernel
theorem dX10_takesOff_14 : decode cX10_takesOff 14 = .ok (.getfield 278, 3) := by decide +kernel
theorem dX10_takesOff_17 : decode cX10_takesOff 17 = .ok (.if_icmp .ge 23, 3) := by decide +kernel
theorem dX10_takesOff_20 : decode cX10_takesOff 20 = .ok (.aload_n 0, 1) := by decide +kernel
theorem dX10_takesOff_21 : decode cX10_takesOff 21 = .ok (.getfield 78, 3) := by decide +kernel
theorem dX10_takesOff_24 : decode cX10_takesOff 24 = .ok (.iload_n 2, 1) := by decide +kernel
theorem dX10_takesOff_25 : decode cX10_takesOff 25 = .ok (.aload_n 0, 1) := by decide +kernel
theorem dX10_takesOff_26 : decode cX10_takesOff 26 = .ok (.getfield 78, 3) := by decide +kernel
theorem dX10_takesOff_29 : decode cX10_takesOff 29 = .ok (.iload_n 2, 1) := by decide +kernel
theorem dX10_takesOff_30 : decode cX10_takesOff 30 = .ok (.iconst 1, 1) := by decide +kernel
theorem dX10_takesOff_31 : decode cX10_takesOff 31 = .ok (.iadd, 1) := by decide +kernel
theorem dX10_takesOff_32 : decode cX10_takesOff 32 = .ok (.iaload, 1) := by decide +kernel
theorem dX10_takesOff_33 : decode cX10_takesOff 33 = .ok (.iastore, 1) := by decide +kernel
theorem dX10_takesOff_34 : decode cX10_takesOff 34 = .ok (.iinc 2 1, 3) := by decide +kernel
theorem dX10_takesOff_37 : decode cX10_takesOff 37 = .ok (.goto (-25), 3) := by decide +kernel
theorem dX10_takesOff_40 : decode cX10_takesOff 40 = .ok (.return_, 1) := by decide +kernel
theorem dX10_keepsMove_0 : decode cX10_keepsMove 0 = .ok (.aload_n 0, 1) := by decide +kernel
theorem dX10_keepsMove_1 : decode cX10_keepsMove 1 = .ok (.iload_n 1, 1) := by decide +kernel
theorem dX10_keepsMove_2 : decode cX10_keepsMove 2 = .ok (.invokevirtual 275, 3) := by decide +kernel
theorem dX10_keepsMove_5 : decode cX10_keepsMove 5 = .ok (.ifCond .lt 12, 3) := by decide +kernel
theorem dX10_keepsMove_8 : decode cX10_keepsMove 8 = .ok (.aload_n 0, 1) := by decide +kernel
theorem dX10_keepsMove_9 : decode cX10_keepsMove 9 = .ok (.aload_n 0, 1) := by decide +kernel
theorem dX10_keepsMove_10 : decode cX10_keepsMove 10 = .ok (.iload_n 1, 1) := by decide +kernel
theorem dX10_keepsMove_11 : decode cX10_keepsMove 11 = .ok (.invokevirtual 275, 3) := by decide +kernel
theorem dX10_keepsMove_14 : decode cX10_keepsMove 14 = .ok (.invokevirtual 284, 3) := by decide +kernel
theorem dX10_keepsMove_17 : decode cX10_keepsMove 17 = .ok (.aload_n 0, 1) := by decide +kernel
theorem dX10_keepsMove_18 : decode cX10_keepsMove 18 = .ok (.getfield 78, 3) := by decide +kernel
theorem dX10_keepsMove_21 : decode cX10_keepsMove 21 = .ok (.aload_n 0, 1) := by decide +kernel
theorem dX10_keepsMove_22 : decode cX10_keepsMove 22 = .ok (.getfield 278, 3) := by decide +kernel
theorem dX10_keepsMove_25 : decode cX10_keepsMove 25 = .ok (.iload_n 1, 1) := by decide +kernel
theorem dX10_keepsMove_26 : decode cX10_keepsMove 26 = .ok (.iastore, 1) := by decide +kernel
theorem dX10_keepsMove_27 : decode cX10_keepsMove 27 = .ok (.aload_n 0, 1) := by decide +kernel
theorem dX10_keepsMove_28 : decode cX10_keepsMove 28 = .ok (.dup, 1) := by decide +kernel
theorem dX10_keepsMove_29 : decode cX10_keepsMove 29 = .ok (.getfield 278, 3) := by decide +kernel
theorem dX10_keepsMove_32 : decode cX10_keepsMove 32 = .ok (.iconst 1, 1) := by decide +kernel
theorem dX10_keepsMove_33 : decode cX10_keepsMove 33 = .ok (.iadd, 1) := by decide +kernel
theorem dX10_keepsMove_34 : decode cX10_keepsMove 34 = .ok (.putfield 278, 3) := by decide +kernel
theorem dX10_keepsMove_37 : decode cX10_keepsMove 37 = .ok (.aload_n 0, 1) := by decide +kernel
theorem dX10_keepsMove_38 : decode cX10_keepsMove 38 = .ok (.getfield 278, 3) := by decide +kernel
theorem dX10_keepsMove_41 : decode cX10_keepsMove 41 = .ok (.aload_n 0, 1) := by decide +kernel
theorem dX10_keepsMove_42 : decode cX10_keepsMove 42 = .ok (.getfield 74, 3) := by decide +kernel
theorem dX10_keepsMove_45 : decode cX10_keepsMove 45 = .ok (.if_icmp .le 8, 3) := by decide +kernel
theorem dX10_keepsMove_48 : decode cX10_keepsMove 48 = .ok (.aload_n 0, 1) := by decide +kernel
theorem dX10_keepsMove_49 : decode cX10_keepsMove 49 = .ok (.iconst 0, 1) := by decide +kernel
theorem dX10_keepsMove_50 : decode cX10_keepsMove 50 = .ok (.invokevirtual 284, 3) := by decide +kernel
theorem dX10_keepsMove_53 : decode cX10_keepsMove 53 = .ok (.return_, 1) := by decide +kernel
theorem dX10_notes_0 : decode cX10_notes 0 = .ok (.aload_n 0, 1) := by decide +kernel
theorem dX10_notes_1 : decode cX10_notes 1 = .ok (.getfield 281, 3) := by decide +kernel
theorem dX10_notes_4 : decode cX10_notes 4 = .ok (.ifCond .eq 12, 3) := by decide +kernel
theorem dX10_notes_7 : decode cX10_notes 7 = .ok (.iload_n 1, 1) := by decide +kernel
theorem dX10_notes_8 : decode cX10_notes 8 = .ok (.aload_n 0, 1) := by decide +kernel
theorem dX10_notes_9 : decode cX10_notes 9 = .ok (.getfield 287, 3) := by decide +kernel
theorem dX10_notes_12 : decode cX10_notes 12 = .ok (.if_icmp .lt 4, 3) := by decide +kernel
theorem dX10_notes_15 : decode cX10_notes 15 = .ok (.return_, 1) := by decide +kernel
theorem dX10_notes_16 : decode cX10_notes 16 = .ok (.aload_n 0, 1) := by decide +kernel
theorem dX10_notes_17 : decode cX10_notes 17 = .ok (.iconst 1, 1) := by decide +kernel
theorem dX10_notes_18 : decode cX10_notes 18 = .ok (.putfield 281, 3) := by decide +kernel
theorem dX10_notes_21 : decode cX10_notes 21 = .ok (.aload_n 0, 1) := by decide +kernel
theorem dX10_notes_22 : decode cX10_notes 22 = .ok (.iload_n 1, 1) := by decide +kernel
theorem dX10_notes_23 : decode cX10_notes 23 = .ok (.putfield 287, 3) := by decide +kernel
theorem dX10_notes_26 : decode cX10_notes 26 = .ok (.iconst 0, 1) := by decide +kernel
theorem dX10_notes_27 : decode cX10_notes 27 = .ok (.istore_n 2, 1) := by decide +kernel
theorem dX10_notes_28 : decode cX10_notes 28 = .ok (.iload_n 2, 1) := by decide +kernel
theorem dX10_notes_29 : decode cX10_notes 29 = .ok (.bipush 120, 2) := by decide +kernel
theorem dX10_notes_31 : decode cX10_notes 31 = .ok (.if_icmp .ge 21, 3) := by decide +kernel
theorem dX10_notes_34 : decode cX10_notes 34 = .ok (.aload_n 0, 1) := by decide +kernel
theorem dX10_notes_35 : decode cX10_notes 35 = .ok (.getfield 81, 3) := by decide +kernel
theorem dX10_notes_38 : decode cX10_notes 38 = .ok (.iload_n 2, 1) := by decide +kernel
theorem dX10_notes_39 : decode cX10_notes 39 = .ok (.aload_n 0, 1) := by decide +kernel
theorem dX10_notes_40 : decode cX10_notes 40 = .ok (.getfield 22, 3) := by decide +kernel
theorem dX10_notes_43 : decode cX10_notes 43 = .ok (.iload_n 2, 1) := by decide +kernel
theorem dX10_notes_44 : decode cX10_notes 44 = .ok (.iaload, 1) := by decide +kernel
theorem dX10_notes_45 : decode cX10_notes 45 = .ok (.iastore, 1) := by decide +kernel
theorem dX10_notes_46 : decode cX10_notes 46 = .ok (.iinc 2 1, 3) := by decide +kernel
theorem dX10_notes_49 : decode cX10_notes 49 = .ok (.goto (-21), 3) := by decide +kernel
theorem dX10_notes_52 : decode cX10_notes 52 = .ok (.return_, 1) := by decide +kernel
theorem dX10_chosen_0 : decode cX10_chosen 0 = .ok (.iconst (-1), 1) := by decide +kernel
theorem dX10_chosen_1 : decode cX10_chosen 1 = .ok (.istore_n 1, 1) := by decide +kernel
theorem dX10_chosen_2 : decode cX10_chosen 2 = .ok (.iconst 0, 1) := by decide +kernel
theorem dX10_chosen_3 : decode cX10_chosen 3 = .ok (.istore_n 2, 1) := by decide +kernel
theorem dX10_chosen_4 : decode cX10_chosen 4 = .ok (.iload_n 2, 1) := by decide +kernel
theorem dX10_chosen_5 : decode cX10_chosen 5 = .ok (.aload_n 0, 1) := by decide +kernel
theorem dX10_chosen_6 : decode cX10_chosen 6 = .ok (.getfield 254, 3) := by decide +kernel
theorem dX10_chosen_9 : decode cX10_chosen 9 = .ok (.if_icmp .ge 82, 3) := by decide +kernel
theorem dX10_chosen_12 : decode cX10_chosen 12 = .ok (.aload_n 0, 1) := by decide +kernel
theorem dX10_chosen_13 : decode cX10_chosen 13 = .ok (.getfield 84, 3) := by decide +kernel
theorem dX10_chosen_16 : decode cX10_chosen 16 = .ok (.iload_n 2, 1) := by decide +kernel
theorem dX10_chosen_17 : decode cX10_chosen 17 = .ok (.aload_n 0, 1) := by decide +kernel
theorem dX10_chosen_18 : decode cX10_chosen 18 = .ok (.aload_n 0, 1) := by decide +kernel
theorem dX10_chosen_19 : decode cX10_chosen 19 = .ok (.getfield 68, 3) := by decide +kernel
theorem dX10_chosen_22 : decode cX10_chosen 22 = .ok (.iload_n 2, 1) := by decide +kernel
theorem dX10_chosen_23 : decode cX10_chosen 23 = .ok (.iaload, 1) := by decide +kernel
theorem dX10_chosen_24 : decode cX10_chosen 24 = .ok (.invokevirtual 272, 3) := by decide +kernel
theorem dX10_chosen_27 : decode cX10_chosen 27 = .ok (.iastore, 1) := by decide +kernel
theorem dX10_chosen_28 : decode cX10_chosen 28 = .ok (.aload_n 0, 1) := by decide +kernel
theorem dX10_chosen_29 : decode cX10_chosen 29 = .ok (.aload_n 0, 1) := by decide +kernel
theorem dX10_chosen_30 : decode cX10_chosen 30 = .ok (.getfield 68, 3) := by decide +kernel
theorem dX10_chosen_33 : decode cX10_chosen 33 = .ok (.iload_n 2, 1) := by decide +kernel
theorem dX10_chosen_34 : decode cX10_chosen 34 = .ok (.iaload, 1) := by decide +kernel
theorem dX10_chosen_35 : decode cX10_chosen 35 = .ok (.invokevirtual 275, 3) := by decide +kernel
theorem dX10_chosen_38 : decode cX10_chosen 38 = .ok (.ifCond .lt 16, 3) := by decide +kernel
theorem dX10_chosen_41 : decode cX10_chosen 41 = .ok (.aload_n 0, 1) := by decide +kernel
theorem dX10_chosen_42 : decode cX10_chosen 42 = .ok (.getfield 84, 3) := by decide +kernel
theorem dX10_chosen_45 : decode cX10_chosen 45 = .ok (.iload_n 2, 1) := by decide +kernel
theorem dX10_chosen_46 : decode cX10_chosen 46 = .ok (.iaload, 1) := by decide +kernel
theorem dX10_chosen_47 : decode cX10_chosen 47 = .ok (.aload_n 0, 1) := by decide +kernel
theorem dX10_chosen_48 : decode cX10_chosen 48 = .ok (.getfield 287, 3) := by decide +kernel
theorem dX10_chosen_51 : decode cX10_chosen 51 = .ok (.if_icmp .ge 7, 3) := by decide +kernel
theorem dX10_chosen_54 : decode cX10_chosen 54 = .ok (.iconst 1, 1) := by decide +kernel
theorem dX10_chosen_55 : decode cX10_chosen 55 = .ok (.goto 4, 3) := by decide +kernel
theorem dX10_chosen_58 : decode cX10_chosen 58 = .ok (.iconst 0, 1) := by decide +kernel
theorem dX10_chosen_59 : decode cX10_chosen 59 = .ok (.istore_n 3, 1) := by decide +kernel
theorem dX10_chosen_60 : decode cX10_chosen 60 = .ok (.iload_n 3, 1) := by decide +kernel
theorem dX10_chosen_61 : decode cX10_chosen 61 = .ok (.ifCond .eq 24, 3) := by decide +kernel
theorem dX10_chosen_64 : decode cX10_chosen 64 = .ok (.iload_n 1, 1) := by decide +kernel
theorem dX10_chosen_65 : decode cX10_chosen 65 = .ok (.ifCond .lt 18, 3) := by decide +kernel
theorem dX10_chosen_68 : decode cX10_chosen 68 = .ok (.aload_n 0, 1) := by decide +kernel
theorem dX10_chosen_69 : decode cX10_chosen 69 = .ok (.getfield 84, 3) := by decide +kernel
theorem dX10_chosen_72 : decode cX10_chosen 72 = .ok (.iload_n 2, 1) := by decide +kernel
theorem dX10_chosen_73 : decode cX10_chosen 73 = .ok (.iaload, 1) := by decide +kernel
theorem dX10_chosen_74 : decode cX10_chosen 74 = .ok (.aload_n 0, 1) := by decide +kernel
theorem dX10_chosen_75 : decode cX10_chosen 75 = .ok (.getfield 84, 3) := by decide +kernel
theorem dX10_chosen_78 : decode cX10_chosen 78 = .ok (.iload_n 1, 1) := by decide +kernel
theorem dX10_chosen_79 : decode cX10_chosen 79 = .ok (.iaload, 1) := by decide +kernel
theorem dX10_chosen_80 : decode cX10_chosen 80 = .ok (.if_icmp .ge 5, 3) := by decide +kernel
theorem dX10_chosen_83 : decode cX10_chosen 83 = .ok (.iload_n 2, 1) := by decide +kernel
theorem dX10_chosen_84 : decode cX10_chosen 84 = .ok (.istore_n 1, 1) := by decide +kernel
theorem dX10_chosen_85 : decode cX10_chosen 85 = .ok (.iinc 2 1, 3) := by decide +kernel
theorem dX10_chosen_88 : decode cX10_chosen 88 = .ok (.goto (-84), 3) := by decide +kernel
theorem dX10_chosen_91 : decode cX10_chosen 91 = .ok (.iconst 0, 1) := by decide +kernel
theorem dX10_chosen_92 : decode cX10_chosen 92 = .ok (.istore_n 2, 1) := by decide +kernel
theorem dX10_chosen_93 : decode cX10_chosen 93 = .ok (.iload_n 2, 1) := by decide +kernel
theorem dX10_chosen_94 : decode cX10_chosen 94 = .ok (.aload_n 0, 1) := by decide +kernel
theorem dX10_chosen_95 : decode cX10_chosen 95 = .ok (.getfield 254, 3) := by decide +kernel
theorem dX10_chosen_98 : decode cX10_chosen 98 = .ok (.if_icmp .ge 27, 3) := by decide +kernel
theorem dX10_chosen_101 : decode cX10_chosen 101 = .ok (.iload_n 1, 1) := by decide +kernel
theorem dX10_chosen_102 : decode cX10_chosen 102 = .ok (.ifCond .ge 23, 3) := by decide +kernel
theorem dX10_chosen_105 : decode cX10_chosen 105 = .ok (.aload_n 0, 1) := by decide +kernel
theorem dX10_chosen_106 : decode cX10_chosen 106 = .ok (.iload_n 2, 1) := by decide +kernel
theorem dX10_chosen_107 : decode cX10_chosen 107 = .ok (.invokevirtual 290, 3) := by decide +kernel
theorem dX10_chosen_110 : decode cX10_chosen 110 = .ok (.ifCond .eq 7, 3) := by decide +kernel
theorem dX10_chosen_113 : decode cX10_chosen 113 = .ok (.iload_n 2, 1) := by decide +kernel
theorem dX10_chosen_114 : decode cX10_chosen 114 = .ok (.goto 4, 3) := by decide +kernel
theorem dX10_chosen_117 : decode cX10_chosen 117 = .ok (.iload_n 1, 1) := by decide +kernel
theorem dX10_chosen_118 : decode cX10_chosen 118 = .ok (.istore_n 1, 1) := by decide +kernel
theorem dX10_chosen_119 : decode cX10_chosen 119 = .ok (.iinc 2 1, 3) := by decide +kernel
theorem dX10_chosen_122 : decode cX10_chosen 122 = .ok (.goto (-29), 3) := by decide +kernel
theorem dX10_chosen_125 : decode cX10_chosen 125 = .ok (.iload_n 1, 1) := by decide +kernel
theorem dX10_chosen_126 : decode cX10_chosen 126 = .ok (.ireturn, 1) := by decide +kernel
theorem dX10_isLongest_0 : decode cX10_isLongest 0 = .ok (.iconst 1, 1) := by decide +kernel
theorem dX10_isLongest_1 : decode cX10_isLongest 1 = .ok (.istore_n 2, 1) := by decide +kernel
theorem dX10_isLongest_2 : decode cX10_isLongest 2 = .ok (.iconst 0, 1) := by decide +kernel
theorem dX10_isLongest_3 : decode cX10_isLongest 3 = .ok (.istore_n 3, 1) := by decide +kernel
theorem dX10_isLongest_4 : decode cX10_isLongest 4 = .ok (.iload_n 3, 1) := by decide +kernel
theorem dX10_isLongest_5 : decode cX10_isLongest 5 = .ok (.aload_n 0, 1) := by decide +kernel
theorem dX10_isLongest_6 : decode cX10_isLongest 6 = .ok (.getfield 254, 3) := by decide +kernel
theorem dX10_isLongest_9 : decode cX10_isLongest 9 = .ok (.if_icmp .ge 42, 3) := by decide +kernel
theorem dX10_isLongest_12 : decode cX10_isLongest 12 = .ok (.iload_n 2, 1) := by decide +kernel
theorem dX10_isLongest_13 : decode cX10_isLongest 13 = .ok (.ifCond .eq 30, 3) := by decide +kernel
theorem dX10_isLongest_16 : decode cX10_isLongest 16 = .ok (.aload_n 0, 1) := by decide +kernel
theorem dX10_isLongest_17 : decode cX10_isLongest 17 = .ok (.aload_n 0, 1) := by decide +kernel
theorem dX10_isLongest_18 : decode cX10_isLongest 18 = .ok (.getfield 68, 3) := by decide +kernel
theorem dX10_isLongest_21 : decode cX10_isLongest 21 = .ok (.iload_n 3, 1) := by decide +kernel
theorem dX10_isLongest_22 : decode cX10_isLongest 22 = .ok (.iaload, 1) := by decide +kernel
theorem dX10_isLongest_23 : decode cX10_isLongest 23 = .ok (.invokevirtual 275, 3) := by decide +kernel
theorem dX10_isLongest_26 : decode cX10_isLongest 26 = .ok (.aload_n 0, 1) := by decide +kernel
theorem dX10_isLongest_27 : decode cX10_isLongest 27 = .ok (.aload_n 0, 1) := by decide +kernel
theorem dX10_isLongest_28 : decode cX10_isLongest 28 = .ok (.getfield 68, 3) := by decide +kernel
theorem dX10_isLongest_31 : decode cX10_isLongest 31 = .ok (.iload_n 1, 1) := by decide +kernel
theorem dX10_isLongest_32 : decode cX10_isLongest 32 = .ok (.iaload, 1) := by decide +kernel
theorem dX10_isLongest_33 : decode cX10_isLongest 33 = .ok (.invokevirtual 275, 3) := by decide +kernel
theorem dX10_isLongest_36 : decode cX10_isLongest 36 = .ok (.if_icmp .lt 7, 3) := by decide +kernel
theorem dX10_isLongest_39 : decode cX10_isLongest 39 = .ok (.iconst 1, 1) := by decide +kernel
theorem dX10_isLongest_40 : decode cX10_isLongest 40 = .ok (.goto 4, 3) := by decide +kernel
theorem dX10_isLongest_43 : decode cX10_isLongest 43 = .ok (.iconst 0, 1) := by decide +kernel
theorem dX10_isLongest_44 : decode cX10_isLongest 44 = .ok (.istore_n 2, 1) := by decide +kernel
theorem dX10_isLongest_45 : decode cX10_isLongest 45 = .ok (.iinc 3 1, 3) := by decide +kernel
theorem dX10_isLongest_48 : decode cX10_isLongest 48 = .ok (.goto (-44), 3) := by decide +kernel
theorem dX10_isLongest_51 : decode cX10_isLongest 51 = .ok (.iload_n 2, 1) := by decide +kernel
theorem dX10_isLongest_52 : decode cX10_isLongest 52 = .ok (.ireturn, 1) := by decide +kernel
theorem dX10_steps_0 : decode cX10_steps 0 = .ok (.aload_n 0, 1) := by decide +kernel
theorem dX10_steps_1 : decode cX10_steps 1 = .ok (.invokevirtual 191, 3) := by decide +kernel
theorem dX10_steps_4 : decode cX10_steps 4 = .ok (.istore_n 1, 1) := by decide +kernel
theorem dX10_steps_5 : decode cX10_steps 5 = .ok (.aload_n 0, 1) := by decide +kernel
theorem dX10_steps_6 : decode cX10_steps 6 = .ok (.aload_n 0, 1) := by decide +kernel
theorem dX10_steps_7 : decode cX10_steps 7 = .ok (.getfield 195, 3) := by decide +kernel
theorem dX10_steps_10 : decode cX10_steps 10 = .ok (.invokevirtual 293, 3) := by decide +kernel
theorem dX10_steps_13 : decode cX10_steps 13 = .ok (.aload_n 0, 1) := by decide +kernel
theorem dX10_steps_14 : decode cX10_steps 14 = .ok (.invokevirtual 269, 3) := by decide +kernel
theorem dX10_steps_17 : decode cX10_steps 17 = .ok (.aload_n 0, 1) := by decide +kernel
theorem dX10_steps_18 : decode cX10_steps 18 = .ok (.invokevirtual 296, 3) := by decide +kernel
theorem dX10_steps_21 : decode cX10_steps 21 = .ok (.istore_n 2, 1) := by decide +kernel
theorem dX10_steps_22 : decode cX10_steps 22 = .ok (.iload_n 2, 1) := by decide +kernel
theorem dX10_steps_23 : decode cX10_steps 23 = .ok (.ifCond .lt 7, 3) := by decide +kernel
theorem dX10_steps_26 : decode cX10_steps 26 = .ok (.iload_n 1, 1) := by decide +kernel
theorem dX10_steps_27 : decode cX10_steps 27 = .ok (.ifCond .ne 5, 3) := by decide +kernel
end
section
theorem dX10_steps_30 : decode cX10_steps 30 = .ok (.iconst 0, 1) := by decide +kernel
theorem dX10_steps_31 : decode cX10_steps 31 = .ok (.ireturn, 1) := by decide +kernel
theorem dX10_steps_32 : decode cX10_steps 32 = .ok (.aload_n 0, 1) := by decide +kernel
theorem dX10_steps_33 : decode cX10_steps 33 = .ok (.getfield 68, 3) := by decide +kernel
theorem dX10_steps_36 : decode cX10_steps 36 = .ok (.iload_n 2, 1) := by decide +kernel
theorem dX10_steps_37 : decode cX10_steps 37 = .ok (.iaload, 1) := by decide +kernel
theorem dX10_steps_38 : decode cX10_steps 38 = .ok (.istore_n 3, 1) := by decide +kernel
theorem dX10_steps_39 : decode cX10_steps 39 = .ok (.aload_n 0, 1) := by decide +kernel
theorem dX10_steps_40 : decode cX10_steps 40 = .ok (.iload_n 3, 1) := by decide +kernel
theorem dX10_steps_41 : decode cX10_steps 41 = .ok (.invokevirtual 266, 3) := by decide +kernel
theorem dX10_steps_44 : decode cX10_steps 44 = .ok (.aload_n 0, 1) := by decide +kernel
theorem dX10_steps_45 : decode cX10_steps 45 = .ok (.invokevirtual 188, 3) := by decide +kernel
theorem dX10_steps_48 : decode cX10_steps 48 = .ok (.aload_n 0, 1) := by decide +kernel
theorem dX10_steps_49 : decode cX10_steps 49 = .ok (.dup, 1) := by decide +kernel
theorem dX10_steps_50 : decode cX10_steps 50 = .ok (.getfield 299, 3) := by decide +kernel
theorem dX10_steps_53 : decode cX10_steps 53 = .ok (.iconst 1, 1) := by decide +kernel
theorem dX10_steps_54 : decode cX10_steps 54 = .ok (.iadd, 1) := by decide +kernel
theorem dX10_steps_55 : decode cX10_steps 55 = .ok (.putfield 299, 3) := by decide +kernel
theorem dX10_steps_58 : decode cX10_steps 58 = .ok (.aload_n 0, 1) := by decide +kernel
theorem dX10_steps_59 : decode cX10_steps 59 = .ok (.bipush 100, 2) := by decide +kernel
theorem dX10_steps_61 : decode cX10_steps 61 = .ok (.iload_n 3, 1) := by decide +kernel
theorem dX10_steps_62 : decode cX10_steps 62 = .ok (.bipush 100, 2) := by decide +kernel
theorem dX10_steps_64 : decode cX10_steps 64 = .ok (.irem, 1) := by decide +kernel
theorem dX10_steps_65 : decode cX10_steps 65 = .ok (.imul, 1) := by decide +kernel
theorem dX10_steps_66 : decode cX10_steps 66 = .ok (.iload_n 3, 1) := by decide +kernel
theorem dX10_steps_67 : decode cX10_steps 67 = .ok (.bipush 100, 2) := by decide +kernel
theorem dX10_steps_69 : decode cX10_steps 69 = .ok (.idiv, 1) := by decide +kernel
theorem dX10_steps_70 : decode cX10_steps 70 = .ok (.iadd, 1) := by decide +kernel
theorem dX10_steps_71 : decode cX10_steps 71 = .ok (.invokevirtual 302, 3) := by decide +kernel
theorem dX10_steps_74 : decode cX10_steps 74 = .ok (.aload_n 0, 1) := by decide +kernel
theorem dX10_steps_75 : decode cX10_steps 75 = .ok (.aload_n 0, 1) := by decide +kernel
theorem dX10_steps_76 : decode cX10_steps 76 = .ok (.getfield 84, 3) := by decide +kernel
theorem dX10_steps_79 : decode cX10_steps 79 = .ok (.iload_n 2, 1) := by decide +kernel
theorem dX10_steps_80 : decode cX10_steps 80 = .ok (.iaload, 1) := by decide +kernel
theorem dX10_steps_81 : decode cX10_steps 81 = .ok (.invokevirtual 293, 3) := by decide +kernel
theorem dX10_steps_84 : decode cX10_steps 84 = .ok (.iconst 1, 1) := by decide +kernel
theorem dX10_steps_85 : decode cX10_steps 85 = .ok (.ireturn, 1) := by decide +kernel
theorem dX10_step_0 : decode cX10_step 0 = .ok (.iload_n 1, 1) := by decide +kernel
theorem dX10_step_1 : decode cX10_step 1 = .ok (.iconst 1, 1) := by decide +kernel
theorem dX10_step_2 : decode cX10_step 2 = .ok (.bipush 30, 2) := by decide +kernel
theorem dX10_step_4 : decode cX10_step 4 = .ok (.invokestatic 108, 3) := by decide +kernel
theorem dX10_step_7 : decode cX10_step 7 = .ok (.ifCond .ne 5, 3) := by decide +kernel
theorem dX10_step_10 : decode cX10_step 10 = .ok (.iconst (-1), 1) := by decide +kernel
theorem dX10_step_11 : decode cX10_step 11 = .ok (.ireturn, 1) := by decide +kernel
theorem dX10_step_12 : decode cX10_step 12 = .ok (.aload_n 0, 1) := by decide +kernel
theorem dX10_step_13 : decode cX10_step 13 = .ok (.invokevirtual 244, 3) := by decide +kernel
theorem dX10_step_16 : decode cX10_step 16 = .ok (.istore_n 2, 1) := by decide +kernel
theorem dX10_step_17 : decode cX10_step 17 = .ok (.iload_n 2, 1) := by decide +kernel
theorem dX10_step_18 : decode cX10_step 18 = .ok (.ifCond .ge 5, 3) := by decide +kernel
theorem dX10_step_21 : decode cX10_step 21 = .ok (.iload_n 2, 1) := by decide +kernel
theorem dX10_step_22 : decode cX10_step 22 = .ok (.ireturn, 1) := by decide +kernel
theorem dX10_step_23 : decode cX10_step 23 = .ok (.iconst 0, 1) := by decide +kernel
theorem dX10_step_24 : decode cX10_step 24 = .ok (.istore_n 3, 1) := by decide +kernel
theorem dX10_step_25 : decode cX10_step 25 = .ok (.iload_n 3, 1) := by decide +kernel
theorem dX10_step_26 : decode cX10_step 26 = .ok (.iload_n 1, 1) := by decide +kernel
theorem dX10_step_27 : decode cX10_step 27 = .ok (.if_icmp .ge 16, 3) := by decide +kernel
theorem dX10_step_30 : decode cX10_step 30 = .ok (.aload_n 0, 1) := by decide +kernel
theorem dX10_step_31 : decode cX10_step 31 = .ok (.invokevirtual 305, 3) := by decide +kernel
theorem dX10_step_34 : decode cX10_step 34 = .ok (.ifCond .eq 9, 3) := by decide +kernel
theorem dX10_step_37 : decode cX10_step 37 = .ok (.iinc 3 1, 3) := by decide +kernel
theorem dX10_step_40 : decode cX10_step 40 = .ok (.goto (-15), 3) := by decide +kernel
theorem dX10_step_43 : decode cX10_step 43 = .ok (.iload_n 3, 1) := by decide +kernel
theorem dX10_step_44 : decode cX10_step 44 = .ok (.ireturn, 1) := by decide +kernel
theorem dX10_kept_0 : decode cX10_kept 0 = .ok (.iload_n 1, 1) := by decide +kernel
theorem dX10_kept_1 : decode cX10_kept 1 = .ok (.iconst (-1), 1) := by decide +kernel
theorem dX10_kept_2 : decode cX10_kept 2 = .ok (.if_icmp .ge 7, 3) := by decide +kernel
theorem dX10_kept_5 : decode cX10_kept 5 = .ok (.iconst (-1), 1) := by decide +kernel
theorem dX10_kept_6 : decode cX10_kept 6 = .ok (.goto 15, 3) := by decide +kernel
theorem dX10_kept_9 : decode cX10_kept 9 = .ok (.aload_n 0, 1) := by decide +kernel
theorem dX10_kept_10 : decode cX10_kept 10 = .ok (.getfield 78, 3) := by decide +kernel
theorem dX10_kept_13 : decode cX10_kept 13 = .ok (.aload_n 0, 1) := by decide +kernel
theorem dX10_kept_14 : decode cX10_kept 14 = .ok (.getfield 278, 3) := by decide +kernel
theorem dX10_kept_17 : decode cX10_kept 17 = .ok (.iload_n 1, 1) := by decide +kernel
theorem dX10_kept_18 : decode cX10_kept 18 = .ok (.invokestatic 247, 3) := by decide +kernel
theorem dX10_kept_21 : decode cX10_kept 21 = .ok (.ireturn, 1) := by decide +kernel
theorem dX10_best_0 : decode cX10_best 0 = .ok (.iload_n 1, 1) := by decide +kernel
theorem dX10_best_1 : decode cX10_best 1 = .ok (.iconst 0, 1) := by decide +kernel
theorem dX10_best_2 : decode cX10_best 2 = .ok (.iconst 1, 1) := by decide +kernel
theorem dX10_best_3 : decode cX10_best 3 = .ok (.invokestatic 108, 3) := by decide +kernel
theorem dX10_best_6 : decode cX10_best 6 = .ok (.ifCond .ne 5, 3) := by decide +kernel
theorem dX10_best_9 : decode cX10_best 9 = .ok (.iconst (-1), 1) := by decide +kernel
theorem dX10_best_10 : decode cX10_best 10 = .ok (.ireturn, 1) := by decide +kernel
theorem dX10_best_11 : decode cX10_best 11 = .ok (.aload_n 0, 1) := by decide +kernel
theorem dX10_best_12 : decode cX10_best 12 = .ok (.getfield 105, 3) := by decide +kernel
theorem dX10_best_15 : decode cX10_best 15 = .ok (.ifCond .ne 6, 3) := by decide +kernel
theorem dX10_best_18 : decode cX10_best 18 = .ok (.bipush (-5), 2) := by decide +kernel
theorem dX10_best_20 : decode cX10_best 20 = .ok (.ireturn, 1) := by decide +kernel
theorem dX10_best_21 : decode cX10_best 21 = .ok (.aload_n 0, 1) := by decide +kernel
theorem dX10_best_22 : decode cX10_best 22 = .ok (.getfield 281, 3) := by decide +kernel
theorem dX10_best_25 : decode cX10_best 25 = .ok (.ifCond .ne 6, 3) := by decide +kernel
theorem dX10_best_28 : decode cX10_best 28 = .ok (.bipush (-2), 2) := by decide +kernel
theorem dX10_best_30 : decode cX10_best 30 = .ok (.ireturn, 1) := by decide +kernel
theorem dX10_best_31 : decode cX10_best 31 = .ok (.iload_n 1, 1) := by decide +kernel
theorem dX10_best_32 : decode cX10_best 32 = .ok (.ifCond .ne 8, 3) := by decide +kernel
theorem dX10_best_35 : decode cX10_best 35 = .ok (.aload_n 0, 1) := by decide +kernel
theorem dX10_best_36 : decode cX10_best 36 = .ok (.getfield 287, 3) := by decide +kernel
theorem dX10_best_39 : decode cX10_best 39 = .ok (.ireturn, 1) := by decide +kernel
theorem dX10_best_40 : decode cX10_best 40 = .ok (.iconst 0, 1) := by decide +kernel
theorem dX10_best_41 : decode cX10_best 41 = .ok (.istore_n 2, 1) := by decide +kernel
theorem dX10_best_42 : decode cX10_best 42 = .ok (.iload_n 2, 1) := by decide +kernel
theorem dX10_best_43 : decode cX10_best 43 = .ok (.bipush 120, 2) := by decide +kernel
theorem dX10_best_45 : decode cX10_best 45 = .ok (.if_icmp .ge 21, 3) := by decide +kernel
theorem dX10_best_48 : decode cX10_best 48 = .ok (.aload_n 0, 1) := by decide +kernel
theorem dX10_best_49 : decode cX10_best 49 = .ok (.getfield 22, 3) := by decide +kernel
theorem dX10_best_52 : decode cX10_best 52 = .ok (.iload_n 2, 1) := by decide +kernel
theorem dX10_best_53 : decode cX10_best 53 = .ok (.aload_n 0, 1) := by decide +kernel
theorem dX10_best_54 : decode cX10_best 54 = .ok (.getfield 81, 3) := by decide +kernel
theorem dX10_best_57 : decode cX10_best 57 = .ok (.iload_n 2, 1) := by decide +kernel
theorem dX10_best_58 : decode cX10_best 58 = .ok (.iaload, 1) := by decide +kernel
theorem dX10_best_59 : decode cX10_best 59 = .ok (.iastore, 1) := by decide +kernel
theorem dX10_best_60 : decode cX10_best 60 = .ok (.iinc 2 1, 3) := by decide +kernel
theorem dX10_best_63 : decode cX10_best 63 = .ok (.goto (-21), 3) := by decide +kernel
theorem dX10_best_66 : decode cX10_best 66 = .ok (.aload_n 0, 1) := by decide +kernel
theorem dX10_best_67 : decode cX10_best 67 = .ok (.invokevirtual 188, 3) := by decide +kernel
theorem dX10_best_70 : decode cX10_best 70 = .ok (.aload_n 0, 1) := by decide +kernel
theorem dX10_best_71 : decode cX10_best 71 = .ok (.getfield 287, 3) := by decide +kernel
theorem dX10_best_74 : decode cX10_best 74 = .ok (.ireturn, 1) := by decide +kernel
theorem dX10_firstOf_0 : decode cX10_firstOf 0 = .ok (.iconst 0, 1) := by decide +kernel
theorem dX10_firstOf_1 : decode cX10_firstOf 1 = .ok (.istore_n 2, 1) := by decide +kernel
theorem dX10_firstOf_2 : decode cX10_firstOf 2 = .ok (.aload_n 0, 1) := by decide +kernel
theorem dX10_firstOf_3 : decode cX10_firstOf 3 = .ok (.getfield 9, 3) := by decide +kernel
theorem dX10_firstOf_6 : decode cX10_firstOf 6 = .ok (.iload_n 2, 1) := by decide +kernel
theorem dX10_firstOf_7 : decode cX10_firstOf 7 = .ok (.iaload, 1) := by decide +kernel
theorem dX10_firstOf_8 : decode cX10_firstOf 8 = .ok (.iload_n 1, 1) := by decide +kernel
theorem dX10_firstOf_9 : decode cX10_firstOf 9 = .ok (.if_icmp .eq 9, 3) := by decide +kernel
theorem dX10_firstOf_12 : decode cX10_firstOf 12 = .ok (.iinc 2 1, 3) := by decide +kernel
theorem dX10_firstOf_15 : decode cX10_firstOf 15 = .ok (.goto (-13), 3) := by decide +kernel
theorem dX10_firstOf_18 : decode cX10_firstOf 18 = .ok (.iload_n 2, 1) := by decide +kernel
theorem dX10_firstOf_19 : decode cX10_firstOf 19 = .ok (.ireturn, 1) := by decide +kernel
theorem dX10_isOpen_0 : decode cX10_isOpen 0 = .ok (.aload_n 0, 1) := by decide +kernel
theorem dX10_isOpen_1 : decode cX10_isOpen 1 = .ok (.getfield 87, 3) := by decide +kernel
theorem dX10_isOpen_4 : decode cX10_isOpen 4 = .ok (.iload_n 1, 1) := by decide +kernel
theorem dX10_isOpen_5 : decode cX10_isOpen 5 = .ok (.iaload, 1) := by decide +kernel
theorem dX10_isOpen_6 : decode cX10_isOpen 6 = .ok (.aload_n 0, 1) := by decide +kernel
theorem dX10_isOpen_7 : decode cX10_isOpen 7 = .ok (.getfield 105, 3) := by decide +kernel
theorem dX10_isOpen_10 : decode cX10_isOpen 10 = .ok (.if_icmp .ge 22, 3) := by decide +kernel
theorem dX10_isOpen_13 : decode cX10_isOpen 13 = .ok (.aload_n 0, 1) := by decide +kernel
theorem dX10_isOpen_14 : decode cX10_isOpen 14 = .ok (.getfield 9, 3) := by decide +kernel
theorem dX10_isOpen_17 : decode cX10_isOpen 17 = .ok (.aload_n 0, 1) := by decide +kernel
theorem dX10_isOpen_18 : decode cX10_isOpen 18 = .ok (.getfield 87, 3) := by decide +kernel
theorem dX10_isOpen_21 : decode cX10_isOpen 21 = .ok (.iload_n 1, 1) := by decide +kernel
theorem dX10_isOpen_22 : decode cX10_isOpen 22 = .ok (.iaload, 1) := by decide +kernel
theorem dX10_isOpen_23 : decode cX10_isOpen 23 = .ok (.iaload, 1) := by decide +kernel
theorem dX10_isOpen_24 : decode cX10_isOpen 24 = .ok (.iload_n 1, 1) := by decide +kernel
theorem dX10_isOpen_25 : decode cX10_isOpen 25 = .ok (.if_icmp .ne 7, 3) := by decide +kernel
theorem dX10_isOpen_28 : decode cX10_isOpen 28 = .ok (.iconst 1, 1) := by decide +kernel
theorem dX10_isOpen_29 : decode cX10_isOpen 29 = .ok (.goto 4, 3) := by decide +kernel
theorem dX10_isOpen_32 : decode cX10_isOpen 32 = .ok (.iconst 0, 1) := by decide +kernel
theorem dX10_isOpen_33 : decode cX10_isOpen 33 = .ok (.ireturn, 1) := by decide +kernel
theorem dX10_mayStart_0 : decode cX10_mayStart 0 = .ok (.aload_n 0, 1) := by decide +kernel
theorem dX10_mayStart_1 : decode cX10_mayStart 1 = .ok (.getfield 90, 3) := by decide +kernel
theorem dX10_mayStart_4 : decode cX10_mayStart 4 = .ok (.aload_n 0, 1) := by decide +kernel
theorem dX10_mayStart_5 : decode cX10_mayStart 5 = .ok (.getfield 9, 3) := by decide +kernel
theorem dX10_mayStart_8 : decode cX10_mayStart 8 = .ok (.iload_n 1, 1) := by decide +kernel
theorem dX10_mayStart_9 : decode cX10_mayStart 9 = .ok (.iaload, 1) := by decide +kernel
theorem dX10_mayStart_10 : decode cX10_mayStart 10 = .ok (.iaload, 1) := by decide +kernel
theorem dX10_mayStart_11 : decode cX10_mayStart 11 = .ok (.aload_n 0, 1) := by decide +kernel
theorem dX10_mayStart_12 : decode cX10_mayStart 12 = .ok (.getfield 93, 3) := by decide +kernel
theorem dX10_mayStart_15 : decode cX10_mayStart 15 = .ok (.aload_n 0, 1) := by decide +kernel
theorem dX10_mayStart_16 : decode cX10_mayStart 16 = .ok (.getfield 16, 3) := by decide +kernel
theorem dX10_mayStart_19 : decode cX10_mayStart 19 = .ok (.iload_n 1, 1) := by decide +kernel
theorem dX10_mayStart_20 : decode cX10_mayStart 20 = .ok (.iaload, 1) := by decide +kernel
theorem dX10_mayStart_21 : decode cX10_mayStart 21 = .ok (.iaload, 1) := by decide +kernel
theorem dX10_mayStart_22 : decode cX10_mayStart 22 = .ok (.invokestatic 214, 3) := by decide +kernel
theorem dX10_mayStart_25 : decode cX10_mayStart 25 = .ok (.ireturn, 1) := by decide +kernel
theorem dX10_leftOf_0 : decode cX10_leftOf 0 = .ok (.iconst 0, 1) := by decide +kernel
theorem dX10_leftOf_1 : decode cX10_leftOf 1 = .ok (.istore_n 2, 1) := by decide +kernel
theorem dX10_leftOf_2 : decode cX10_leftOf 2 = .ok (.iload_n 1, 1) := by decide +kernel
theorem dX10_leftOf_3 : decode cX10_leftOf 3 = .ok (.istore_n 3, 1) := by decide +kernel
theorem dX10_leftOf_4 : decode cX10_leftOf 4 = .ok (.iload_n 3, 1) := by decide +kernel
theorem dX10_leftOf_5 : decode cX10_leftOf 5 = .ok (.aload_n 0, 1) := by decide +kernel
theorem dX10_leftOf_6 : decode cX10_leftOf 6 = .ok (.getfield 105, 3) := by decide +kernel
theorem dX10_leftOf_9 : decode cX10_leftOf 9 = .ok (.if_icmp .ge 33, 3) := by decide +kernel
theorem dX10_leftOf_12 : decode cX10_leftOf 12 = .ok (.aload_n 0, 1) := by decide +kernel
theorem dX10_leftOf_13 : decode cX10_leftOf 13 = .ok (.getfield 9, 3) := by decide +kernel
theorem dX10_leftOf_16 : decode cX10_leftOf 16 = .ok (.iload_n 3, 1) := by decide +kernel
theorem dX10_leftOf_17 : decode cX10_leftOf 17 = .ok (.iaload, 1) := by decide +kernel
theorem dX10_leftOf_18 : decode cX10_leftOf 18 = .ok (.aload_n 0, 1) := by decide +kernel
theorem dX10_leftOf_19 : decode cX10_leftOf 19 = .ok (.getfield 9, 3) := by decide +kernel
theorem dX10_leftOf_22 : decode cX10_leftOf 22 = .ok (.iload_n 1, 1) := by decide +kernel
theorem dX10_leftOf_23 : decode cX10_leftOf 23 = .ok (.iaload, 1) := by decide +kernel
theorem dX10_leftOf_24 : decode cX10_leftOf 24 = .ok (.if_icmp .ne 18, 3) := by decide +kernel
theorem dX10_leftOf_27 : decode cX10_leftOf 27 = .ok (.iload_n 2, 1) := by decide +kernel
theorem dX10_leftOf_28 : decode cX10_leftOf 28 = .ok (.aload_n 0, 1) := by decide +kernel
theorem dX10_leftOf_29 : decode cX10_leftOf 29 = .ok (.getfield 19, 3) := by decide +kernel
theorem dX10_leftOf_32 : decode cX10_leftOf 32 = .ok (.iload_n 3, 1) := by decide +kernel
theorem dX10_leftOf_33 : decode cX10_leftOf 33 = .ok (.iaload, 1) := by decide +kernel
theorem dX10_leftOf_34 : decode cX10_leftOf 34 = .ok (.iadd, 1) := by decide +kernel
theorem dX10_leftOf_35 : decode cX10_leftOf 35 = .ok (.istore_n 2, 1) := by decide +kernel
theorem dX10_leftOf_36 : decode cX10_leftOf 36 = .ok (.iinc 3 1, 3) := by decide +kernel
theorem dX10_leftOf_39 : decode cX10_leftOf 39 = .ok (.goto (-35), 3) := by decide +kernel
theorem dX10_leftOf_42 : decode cX10_leftOf 42 = .ok (.iload_n 2, 1) := by decide +kernel
theorem dX10_leftOf_43 : decode cX10_leftOf 43 = .ok (.ireturn, 1) := by decide +kernel
theorem dX10_worthOf_0 : decode cX10_worthOf 0 = .ok (.iload_n 2, 1) := by decide +kernel
theorem dX10_worthOf_1 : decode cX10_worthOf 1 = .ok (.ifCond .ne 12, 3) := by decide +kernel
theorem dX10_worthOf_4 : decode cX10_worthOf 4 = .ok (.aload_n 0, 1) := by decide +kernel
theorem dX10_worthOf_5 : decode cX10_worthOf 5 = .ok (.getfield 19, 3) := by decide +kernel
theorem dX10_worthOf_8 : decode cX10_worthOf 8 = .ok (.iload_n 1, 1) := by decide +kernel
theorem dX10_worthOf_9 : decode cX10_worthOf 9 = .ok (.iaload, 1) := by decide +kernel
theorem dX10_worthOf_10 : decode cX10_worthOf 10 = .ok (.goto 37, 3) := by decide +kernel
theorem dX10_worthOf_13 : decode cX10_worthOf 13 = .ok (.iload_n 2, 1) := by decide +kernel
theorem dX10_worthOf_14 : decode cX10_worthOf 14 = .ok (.iconst 1, 1) := by decide +kernel
theorem dX10_worthOf_15 : decode cX10_worthOf 15 = .ok (.if_icmp .ne 13, 3) := by decide +kernel
theorem dX10_worthOf_18 : decode cX10_worthOf 18 = .ok (.aload_n 0, 1) := by decide +kernel
theorem dX10_worthOf_19 : decode cX10_worthOf 19 = .ok (.getfield 19, 3) := by decide +kernel
theorem dX10_worthOf_22 : decode cX10_worthOf 22 = .ok (.iload_n 1, 1) := by decide +kernel
theorem dX10_worthOf_23 : decode cX10_worthOf 23 = .ok (.iaload, 1) := by decide +kernel
theorem dX10_worthOf_24 : decode cX10_worthOf 24 = .ok (.ineg, 1) := by decide +kernel
theorem dX10_worthOf_25 : decode cX10_worthOf 25 = .ok (.goto 22, 3) := by decide +kernel
theorem dX10_worthOf_28 : decode cX10_worthOf 28 = .ok (.iload_n 2, 1) := by decide +kernel
theorem dX10_worthOf_29 : decode cX10_worthOf 29 = .ok (.iconst 2, 1) := by decide +kernel
theorem dX10_worthOf_30 : decode cX10_worthOf 30 = .ok (.if_icmp .ne 12, 3) := by decide +kernel
theorem dX10_worthOf_33 : decode cX10_worthOf 33 = .ok (.aload_n 0, 1) := by decide +kernel
theorem dX10_worthOf_34 : decode cX10_worthOf 34 = .ok (.iload_n 1, 1) := by decide +kernel
theorem dX10_worthOf_35 : decode cX10_worthOf 35 = .ok (.invokevirtual 308, 3) := by decide +kernel
theorem dX10_worthOf_38 : decode cX10_worthOf 38 = .ok (.ineg, 1) := by decide +kernel
theorem dX10_worthOf_39 : decode cX10_worthOf 39 = .ok (.goto 8, 3) := by decide +kernel
theorem dX10_worthOf_42 : decode cX10_worthOf 42 = .ok (.aload_n 0, 1) := by decide +kernel
theorem dX10_worthOf_43 : decode cX10_worthOf 43 = .ok (.iload_n 1, 1) := by decide +kernel
theorem dX10_worthOf_44 : decode cX10_worthOf 44 = .ok (.invokevirtual 308, 3) := by decide +kernel
theorem dX10_worthOf_47 : decode cX10_worthOf 47 = .ok (.ireturn, 1) := by decide +kernel
theorem dX10_isBetter_0 : decode cX10_isBetter 0 = .ok (.aload_n 0, 1) := by decide +kernel
theorem dX10_isBetter_1 : decode cX10_isBetter 1 = .ok (.iload_n 1, 1) := by decide +kernel
theorem dX10_isBetter_2 : decode cX10_isBetter 2 = .ok (.invokevirtual 311, 3) := by decide +kernel
theorem dX10_isBetter_5 : decode cX10_isBetter 5 = .ok (.aload_n 0, 1) := by decide +kernel
theorem dX10_isBetter_6 : decode cX10_isBetter 6 = .ok (.iload_n 2, 1) := by decide +kernel
theorem dX10_isBetter_7 : decode cX10_isBetter 7 = .ok (.invokevirtual 311, 3) := by decide +kernel
theorem dX10_isBetter_10 : decode cX10_isBetter 10 = .ok (.if_icmp .eq 22, 3) := by decide +kernel
theorem dX10_isBetter_13 : decode cX10_isBetter 13 = .ok (.aload_n 0, 1) := by decide +kernel
theorem dX10_isBetter_14 : decode cX10_isBetter 14 = .ok (.iload_n 1, 1) := by decide +kernel
theorem dX10_isBetter_15 : decode cX10_isBetter 15 = .ok (.invokevirtual 311, 3) := by decide +kernel
theorem dX10_isBetter_18 : decode cX10_isBetter 18 = .ok (.aload_n 0, 1) := by decide +kernel
theorem dX10_isBetter_19 : decode cX10_isBetter 19 = .ok (.iload_n 2, 1) := by decide +kernel
theorem dX10_isBetter_20 : decode cX10_isBetter 20 = .ok (.invokevirtual 311, 3) := by decide +kernel
theorem dX10_isBetter_23 : decode cX10_isBetter 23 = .ok (.if_icmp .ge 7, 3) := by decide +kernel
theorem dX10_isBetter_26 : decode cX10_isBetter 26 = .ok (.iconst 1, 1) := by decide +kernel
theorem dX10_isBetter_27 : decode cX10_isBetter 27 = .ok (.goto 4, 3) := by decide +kernel
theorem dX10_isBetter_30 : decode cX10_isBetter 30 = .ok (.iconst 0, 1) := by decide +kernel
theorem dX10_isBetter_31 : decode cX10_isBetter 31 = .ok (.ireturn, 1) := by decide +kernel
theorem dX10_isBetter_32 : decode cX10_isBetter 32 = .ok (.aload_n 0, 1) := by decide +kernel
theorem dX10_isBetter_33 : decode cX10_isBetter 33 = .ok (.iload_n 1, 1) := by decide +kernel
theorem dX10_isBetter_34 : decode cX10_isBetter 34 = .ok (.iload_n 3, 1) := by decide +kernel
theorem dX10_isBetter_35 : decode cX10_isBetter 35 = .ok (.invokevirtual 314, 3) := by decide +kernel
theorem dX10_isBetter_38 : decode cX10_isBetter 38 = .ok (.aload_n 0, 1) := by decide +kernel
theorem dX10_isBetter_39 : decode cX10_isBetter 39 = .ok (.iload_n 2, 1) := by decide +kernel
theorem dX10_isBetter_40 : decode cX10_isBetter 40 = .ok (.iload_n 3, 1) := by decide +kernel
theorem dX10_isBetter_41 : decode cX10_isBetter 41 = .ok (.invokevirtual 314, 3) := by decide +kernel
theorem dX10_isBetter_44 : decode cX10_isBetter 44 = .ok (.if_icmp .ge 7, 3) := by decide +kernel
theorem dX10_isBetter_47 : decode cX10_isBetter 47 = .ok (.iconst 1, 1) := by decide +kernel
theorem dX10_isBetter_48 : decode cX10_isBetter 48 = .ok (.goto 4, 3) := by decide +kernel
theorem dX10_isBetter_51 : decode cX10_isBetter 51 = .ok (.iconst 0, 1) := by decide +kernel
theorem dX10_isBetter_52 : decode cX10_isBetter 52 = .ok (.ireturn, 1) := by decide +kernel
theorem dX10_dispatchedBy_0 : decode cX10_dispatchedBy 0 = .ok (.iconst 0, 1) := by decide +kernel
theorem dX10_dispatchedBy_1 : decode cX10_dispatchedBy 1 = .ok (.istore_n 2, 1) := by decide +kernel
theorem dX10_dispatchedBy_2 : decode cX10_dispatchedBy 2 = .ok (.iload_n 2, 1) := by decide +kernel
theorem dX10_dispatchedBy_3 : decode cX10_dispatchedBy 3 = .ok (.iconst 5, 1) := by decide +kernel
theorem dX10_dispatchedBy_4 : decode cX10_dispatchedBy 4 = .ok (.if_icmp .ge 23, 3) := by decide +kernel
theorem dX10_dispatchedBy_7 : decode cX10_dispatchedBy 7 = .ok (.aload_n 0, 1) := by decide +kernel
theorem dX10_dispatchedBy_8 : decode cX10_dispatchedBy 8 = .ok (.getfield 25, 3) := by decide +kernel
theorem dX10_dispatchedBy_11 : decode cX10_dispatchedBy 11 = .ok (.iload_n 2, 1) := by decide +kernel
theorem dX10_dispatchedBy_12 : decode cX10_dispatchedBy 12 = .ok (.iconst 0, 1) := by decide +kernel
theorem dX10_dispatchedBy_13 : decode cX10_dispatchedBy 13 = .ok (.iastore, 1) := by decide +kernel
theorem dX10_dispatchedBy_14 : decode cX10_dispatchedBy 14 = .ok (.aload_n 0, 1) := by decide +kernel
theorem dX10_dispatchedBy_15 : decode cX10_dispatchedBy 15 = .ok (.getfield 93, 3) := by decide +kernel
theorem dX10_dispatchedBy_18 : decode cX10_dispatchedBy 18 = .ok (.iload_n 2, 1) := by decide +kernel
theorem dX10_dispatchedBy_19 : decode cX10_dispatchedBy 19 = .ok (.iconst 0, 1) := by decide +kernel
theorem dX10_dispatchedBy_20 : decode cX10_dispatchedBy 20 = .ok (.iastore, 1) := by decide +kernel
theorem dX10_dispatchedBy_21 : decode cX10_dispatchedBy 21 = .ok (.iinc 2 1, 3) := by decide +kernel
theorem dX10_dispatchedBy_24 : decode cX10_dispatchedBy 24 = .ok (.goto (-22), 3) := by decide +kernel
theorem dX10_dispatchedBy_27 : decode cX10_dispatchedBy 27 = .ok (.iconst 0, 1) := by decide +kernel
theorem dX10_dispatchedBy_28 : decode cX10_dispatchedBy 28 = .ok (.istore_n 2, 1) := by decide +kernel
theorem dX10_dispatchedBy_29 : decode cX10_dispatchedBy 29 = .ok (.iload_n 2, 1) := by decide +kernel
theorem dX10_dispatchedBy_30 : decode cX10_dispatchedBy 30 = .ok (.aload_n 0, 1) := by decide +kernel
theorem dX10_dispatchedBy_31 : decode cX10_dispatchedBy 31 = .ok (.getfield 150, 3) := by decide +kernel
theorem dX10_dispatchedBy_34 : decode cX10_dispatchedBy 34 = .ok (.if_icmp .ge 27, 3) := by decide +kernel
theorem dX10_dispatchedBy_37 : decode cX10_dispatchedBy 37 = .ok (.aload_n 0, 1) := by decide +kernel
theorem dX10_dispatchedBy_38 : decode cX10_dispatchedBy 38 = .ok (.getfield 87, 3) := by decide +kernel
theorem dX10_dispatchedBy_41 : decode cX10_dispatchedBy 41 = .ok (.iload_n 2, 1) := by decide +kernel
theorem dX10_dispatchedBy_42 : decode cX10_dispatchedBy 42 = .ok (.aload_n 0, 1) := by decide +kernel
theorem dX10_dispatchedBy_43 : decode cX10_dispatchedBy 43 = .ok (.iload_n 2, 1) := by decide +kernel
theorem dX10_dispatchedBy_44 : decode cX10_dispatchedBy 44 = .ok (.invokevirtual 317, 3) := by decide +kernel
theorem dX10_dispatchedBy_47 : decode cX10_dispatchedBy 47 = .ok (.iastore, 1) := by decide +kernel
theorem dX10_dispatchedBy_48 : decode cX10_dispatchedBy 48 = .ok (.aload_n 0, 1) := by decide +kernel
theorem dX10_dispatchedBy_49 : decode cX10_dispatchedBy 49 = .ok (.getfield 90, 3) := by decide +kernel
theorem dX10_dispatchedBy_52 : decode cX10_dispatchedBy 52 = .ok (.iload_n 2, 1) := by decide +kernel
theorem dX10_dispatchedBy_53 : decode cX10_dispatchedBy 53 = .ok (.iconst 0, 1) := by decide +kernel
theorem dX10_dispatchedBy_54 : decode cX10_dispatchedBy 54 = .ok (.iastore, 1) := by decide +kernel
theorem dX10_dispatchedBy_55 : decode cX10_dispatchedBy 55 = .ok (.iinc 2 1, 3) := by decide +kernel
theorem dX10_dispatchedBy_58 : decode cX10_dispatchedBy 58 = .ok (.goto (-29), 3) := by decide +kernel
theorem dX10_dispatchedBy_61 : decode cX10_dispatchedBy 61 = .ok (.iconst 0, 1) := by decide +kernel
theorem dX10_dispatchedBy_62 : decode cX10_dispatchedBy 62 = .ok (.istore_n 2, 1) := by decide +kernel
theorem dX10_dispatchedBy_63 : decode cX10_dispatchedBy 63 = .ok (.iconst 0, 1) := by decide +kernel
theorem dX10_dispatchedBy_64 : decode cX10_dispatchedBy 64 = .ok (.istore_n 3, 1) := by decide +kernel
theorem dX10_dispatchedBy_65 : decode cX10_dispatchedBy 65 = .ok (.iload_n 3, 1) := by decide +kernel
theorem dX10_dispatchedBy_66 : decode cX10_dispatchedBy 66 = .ok (.aload_n 0, 1) := by decide +kernel
theorem dX10_dispatchedBy_67 : decode cX10_dispatchedBy 67 = .ok (.getfield 105, 3) := by decide +kernel
theorem dX10_dispatchedBy_70 : decode cX10_dispatchedBy 70 = .ok (.if_icmp .ge 143, 3) := by decide +kernel
theorem dX10_dispatchedBy_73 : decode cX10_dispatchedBy 73 = .ok (.iconst (-1), 1) := by decide +kernel
theorem dX10_dispatchedBy_74 : decode cX10_dispatchedBy 74 = .ok (.istore 4, 2) := by decide +kernel
theorem dX10_dispatchedBy_76 : decode cX10_dispatchedBy 76 = .ok (.iconst 0, 1) := by decide +kernel
theorem dX10_dispatchedBy_77 : decode cX10_dispatchedBy 77 = .ok (.istore 5, 2) := by decide +kernel
theorem dX10_dispatchedBy_79 : decode cX10_dispatchedBy 79 = .ok (.iload 5, 2) := by decide +kernel
theorem dX10_dispatchedBy_81 : decode cX10_dispatchedBy 81 = .ok (.aload_n 0, 1) := by decide +kernel
theorem dX10_dispatchedBy_82 : decode cX10_dispatchedBy 82 = .ok (.getfield 150, 3) := by decide +kernel
theorem dX10_dispatchedBy_85 : decode cX10_dispatchedBy 85 = .ok (.if_icmp .ge 49, 3) := by decide +kernel
theorem dX10_dispatchedBy_88 : decode cX10_dispatchedBy 88 = .ok (.aload_n 0, 1) := by decide +kernel
theorem dX10_dispatchedBy_89 : decode cX10_dispatchedBy 89 = .ok (.iload 5, 2) := by decide +kernel
theorem dX10_dispatchedBy_91 : decode cX10_dispatchedBy 91 = .ok (.invokevirtual 320, 3) := by decide +kernel
theorem dX10_dispatchedBy_94 : decode cX10_dispatchedBy 94 = .ok (.ifCond .eq 34, 3) := by decide +kernel
theorem dX10_dispatchedBy_97 : decode cX10_dispatchedBy 97 = .ok (.iload 4, 2) := by decide +kernel
theorem dX10_dispatchedBy_99 : decode cX10_dispatchedBy 99 = .ok (.ifCond .lt 20, 3) := by decide +kernel
theorem dX10_dispatchedBy_102 : decode cX10_dispatchedBy 102 = .ok (.aload_n 0, 1) := by decide +kernel
theorem dX10_dispatchedBy_103 : decode cX10_dispatchedBy 103 = .ok (.aload_n 0, 1) := by decide +kernel
theorem dX10_dispatchedBy_104 : decode cX10_dispatchedBy 104 = .ok (.getfield 87, 3) := by decide +kernel
theorem dX10_dispatchedBy_107 : decode cX10_dispatchedBy 107 = .ok (.iload 5, 2) := by decide +kernel
theorem dX10_dispatchedBy_109 : decode cX10_dispatchedBy 109 = .ok (.iaload, 1) := by decide +kernel
theorem dX10_dispatchedBy_110 : decode cX10_dispatchedBy 110 = .ok (.iload 4, 2) := by decide +kernel
theorem dX10_dispatchedBy_112 : decode cX10_dispatchedBy 112 = .ok (.iload_n 1, 1) := by decide +kernel
theorem dX10_dispatchedBy_113 : decode cX10_dispatchedBy 113 = .ok (.invokevirtual 323, 3) := by decide +kernel
theorem dX10_dispatchedBy_116 : decode cX10_dispatchedBy 116 = .ok (.ifCond .eq 12, 3) := by decide +kernel
theorem dX10_dispatchedBy_119 : decode cX10_dispatchedBy 119 = .ok (.aload_n 0, 1) := by decide +kernel
theorem dX10_dispatchedBy_120 : decode cX10_dispatchedBy 120 = .ok (.getfield 87, 3) := by decide +kernel
theorem dX10_dispatchedBy_123 : decode cX10_dispatchedBy 123 = .ok (.iload 5, 2) := by decide +kernel
theorem dX10_dispatchedBy_125 : decode cX10_dispatchedBy 125 = .ok (.iaload, 1) := by decide +kernel
theorem dX10_dispatchedBy_126 : decode cX10_dispatchedBy 126 = .ok (.istore 4, 2) := by decide +kernel
theorem dX10_dispatchedBy_128 : decode cX10_dispatchedBy 128 = .ok (.iinc 5 1, 3) := by decide +kernel
theorem dX10_dispatchedBy_131 : decode cX10_dispatchedBy 131 = .ok (.goto (-52), 3) := by decide +kernel
theorem dX10_dispatchedBy_134 : decode cX10_dispatchedBy 134 = .ok (.aload_n 0, 1) := by decide +kernel
theorem dX10_dispatchedBy_135 : decode cX10_dispatchedBy 135 = .ok (.iload 4, 2) := by decide +kernel
theorem dX10_dispatchedBy_137 : decode cX10_dispatchedBy 137 = .ok (.invokevirtual 311, 3) := by decide +kernel
theorem dX10_dispatchedBy_140 : decode cX10_dispatchedBy 140 = .ok (.aload_n 0, 1) := by decide +kernel
theorem dX10_dispatchedBy_141 : decode cX10_dispatchedBy 141 = .ok (.getfield 19, 3) := by decide +kernel
theorem dX10_dispatchedBy_144 : decode cX10_dispatchedBy 144 = .ok (.iload 4, 2) := by decide +kernel
theorem dX10_dispatchedBy_146 : decode cX10_dispatchedBy 146 = .ok (.iaload, 1) := by decide +kernel
theorem dX10_dispatchedBy_147 : decode cX10_dispatchedBy 147 = .ok (.iadd, 1) := by decide +kernel
theorem dX10_dispatchedBy_148 : decode cX10_dispatchedBy 148 = .ok (.istore 5, 2) := by decide +kernel
theorem dX10_dispatchedBy_150 : decode cX10_dispatchedBy 150 = .ok (.aload_n 0, 1) := by decide +kernel
theorem dX10_dispatchedBy_151 : decode cX10_dispatchedBy 151 = .ok (.getfield 90, 3) := by decide +kernel
theorem dX10_dispatchedBy_154 : decode cX10_dispatchedBy 154 = .ok (.aload_n 0, 1) := by decide +kernel
theorem dX10_dispatchedBy_155 : decode cX10_dispatchedBy 155 = .ok (.getfield 9, 3) := by decide +kernel
theorem dX10_dispatchedBy_158 : decode cX10_dispatchedBy 158 = .ok (.iload 4, 2) := by decide +kernel
theorem dX10_dispatchedBy_160 : decode cX10_dispatchedBy 160 = .ok (.iaload, 1) := by decide +kernel
theorem dX10_dispatchedBy_161 : decode cX10_dispatchedBy 161 = .ok (.iload 5, 2) := by decide +kernel
theorem dX10_dispatchedBy_163 : decode cX10_dispatchedBy 163 = .ok (.iastore, 1) := by decide +kernel
theorem dX10_dispatchedBy_164 : decode cX10_dispatchedBy 164 = .ok (.aload_n 0, 1) := by decide +kernel
theorem dX10_dispatchedBy_165 : decode cX10_dispatchedBy 165 = .ok (.getfield 93, 3) := by decide +kernel
theorem dX10_dispatchedBy_168 : decode cX10_dispatchedBy 168 = .ok (.aload_n 0, 1) := by decide +kernel
theorem dX10_dispatchedBy_169 : decode cX10_dispatchedBy 169 = .ok (.getfield 16, 3) := by decide +kernel
theorem dX10_dispatchedBy_172 : decode cX10_dispatchedBy 172 = .ok (.iload 4, 2) := by decide +kernel
theorem dX10_dispatchedBy_174 : decode cX10_dispatchedBy 174 = .ok (.iaload, 1) := by decide +kernel
theorem dX10_dispatchedBy_175 : decode cX10_dispatchedBy 175 = .ok (.iload 5, 2) := by decide +kernel
theorem dX10_dispatchedBy_177 : decode cX10_dispatchedBy 177 = .ok (.iastore, 1) := by decide +kernel
theorem dX10_dispatchedBy_178 : decode cX10_dispatchedBy 178 = .ok (.aload_n 0, 1) := by decide +kernel
theorem dX10_dispatchedBy_179 : decode cX10_dispatchedBy 179 = .ok (.getfield 87, 3) := by decide +kernel
theorem dX10_dispatchedBy_182 : decode cX10_dispatchedBy 182 = .ok (.aload_n 0, 1) := by decide +kernel
theorem dX10_dispatchedBy_183 : decode cX10_dispatchedBy 183 = .ok (.getfield 9, 3) := by decide +kernel
theorem dX10_dispatchedBy_186 : decode cX10_dispatchedBy 186 = .ok (.iload 4, 2) := by decide +kernel
theorem dX10_dispatchedBy_188 : decode cX10_dispatchedBy 188 = .ok (.iaload, 1) := by decide +kernel
theorem dX10_dispatchedBy_189 : decode cX10_dispatchedBy 189 = .ok (.dup2, 1) := by decide +kernel
theorem dX10_dispatchedBy_190 : decode cX10_dispatchedBy 190 = .ok (.iaload, 1) := by decide +kernel
theorem dX10_dispatchedBy_191 : decode cX10_dispatchedBy 191 = .ok (.iconst 1, 1) := by decide +kernel
theorem dX10_dispatchedBy_192 : decode cX10_dispatchedBy 192 = .ok (.iadd, 1) := by decide +kernel
theorem dX10_dispatchedBy_193 : decode cX10_dispatchedBy 193 = .ok (.iastore, 1) := by decide +kernel
theorem dX10_dispatchedBy_194 : decode cX10_dispatchedBy 194 = .ok (.aload_n 0, 1) := by decide +kernel
theorem dX10_dispatchedBy_195 : decode cX10_dispatchedBy 195 = .ok (.iload 4, 2) := by decide +kernel
theorem dX10_dispatchedBy_197 : decode cX10_dispatchedBy 197 = .ok (.invokevirtual 153, 3) := by decide +kernel
theorem dX10_dispatchedBy_200 : decode cX10_dispatchedBy 200 = .ok (.iload_n 2, 1) := by decide +kernel
theorem dX10_dispatchedBy_201 : decode cX10_dispatchedBy 201 = .ok (.iload 5, 2) := by decide +kernel
theorem dX10_dispatchedBy_203 : decode cX10_dispatchedBy 203 = .ok (.invokestatic 214, 3) := by decide +kernel
theorem dX10_dispatchedBy_206 : decode cX10_dispatchedBy 206 = .ok (.istore_n 2, 1) := by decide +kernel
theorem dX10_dispatchedBy_207 : decode cX10_dispatchedBy 207 = .ok (.iinc 3 1, 3) := by decide +kernel
theorem dX10_dispatchedBy_210 : decode cX10_dispatchedBy 210 = .ok (.goto (-145), 3) := by decide +kernel
theorem dX10_dispatchedBy_213 : decode cX10_dispatchedBy 213 = .ok (.iload_n 2, 1) := by decide +kernel
theorem dX10_dispatchedBy_214 : decode cX10_dispatchedBy 214 = .ok (.ireturn, 1) := by decide +kernel
theorem dX10_dispatch_0 : decode cX10_dispatch 0 = .ok (.iload_n 1, 1) := by decide +kernel
theorem dX10_dispatch_1 : decode cX10_dispatch 1 = .ok (.iconst 0, 1) := by decide +kernel
theorem dX10_dispatch_2 : decode cX10_dispatch 2 = .ok (.iconst 3, 1) := by decide +kernel
theorem dX10_dispatch_3 : decode cX10_dispatch 3 = .ok (.invokestatic 108, 3) := by decide +kernel
theorem dX10_dispatch_6 : decode cX10_dispatch 6 = .ok (.ifCond .ne 5, 3) := by decide +kernel
theorem dX10_dispatch_9 : decode cX10_dispatch 9 = .ok (.iconst (-1), 1) := by decide +kernel
theorem dX10_dispatch_10 : decode cX10_dispatch 10 = .ok (.ireturn, 1) := by decide +kernel
theorem dX10_dispatch_11 : decode cX10_dispatch 11 = .ok (.aload_n 0, 1) := by decide +kernel
theorem dX10_dispatch_12 : decode cX10_dispatch 12 = .ok (.getfield 105, 3) := by decide +kernel
theorem dX10_dispatch_15 : decode cX10_dispatch 15 = .ok (.ifCond .ne 6, 3) := by decide +kernel
theorem dX10_dispatch_18 : decode cX10_dispatch 18 = .ok (.bipush (-5), 2) := by decide +kernel
theorem dX10_dispatch_20 : decode cX10_dispatch 20 = .ok (.ireturn, 1) := by decide +kernel
theorem dX10_dispatch_21 : decode cX10_dispatch 21 = .ok (.aload_n 0, 1) := by decide +kernel
theorem dX10_dispatch_22 : decode cX10_dispatch 22 = .ok (.iload_n 1, 1) := by decide +kernel
theorem dX10_dispatch_23 : decode cX10_dispatch 23 = .ok (.invokevirtual 326, 3) := by decide +kernel
theorem dX10_dispatch_26 : decode cX10_dispatch 26 = .ok (.istore_n 2, 1) := by decide +kernel
theorem dX10_dispatch_27 : decode cX10_dispatch 27 = .ok (.aload_n 0, 1) := by decide +kernel
theorem dX10_dispatch_28 : decode cX10_dispatch 28 = .ok (.invokevirtual 188, 3) := by decide +kernel
theorem dX10_dispatch_31 : decode cX10_dispatch 31 = .ok (.iload_n 2, 1) := by decide +kernel
theorem dX10_dispatch_32 : decode cX10_dispatch 32 = .ok (.ireturn, 1) := by decide +kernel
theorem dX10_would_0 : decode cX10_would 0 = .ok (.iload_n 1, 1) := by decide +kernel
theorem dX10_would_1 : decode cX10_would 1 = .ok (.iconst 0, 1) := by decide +kernel
theorem dX10_would_2 : decode cX10_would 2 = .ok (.iconst 3, 1) := by decide +kernel
theorem dX10_would_3 : decode cX10_would 3 = .ok (.invokestatic 108, 3) := by decide +kernel
theorem dX10_would_6 : decode cX10_would 6 = .ok (.ifCond .ne 5, 3) := by decide +kernel
theorem dX10_would_9 : decode cX10_would 9 = .ok (.iconst (-1), 1) := by decide +kernel
theorem dX10_would_10 : decode cX10_would 10 = .ok (.ireturn, 1) := by decide +kernel
theorem dX10_would_11 : decode cX10_would 11 = .ok (.aload_n 0, 1) := by decide +kernel
theorem dX10_would_12 : decode cX10_would 12 = .ok (.getfield 105, 3) := by decide +kernel
theorem dX10_would_15 : decode cX10_would 15 = .ok (.ifCond .ne 6, 3) := by decide +kernel
theorem dX10_would_18 : decode cX10_would 18 = .ok (.bipush (-5), 2) := by decide +kernel
theorem dX10_would_20 : decode cX10_would 20 = .ok (.ireturn, 1) := by decide +kernel
theorem dX10_would_21 : decode cX10_would 21 = .ok (.aload_n 0, 1) := by decide +kernel
theorem dX10_would_22 : decode cX10_would 22 = .ok (.iload_n 1, 1) := by decide +kernel
theorem dX10_would_23 : decode cX10_would 23 = .ok (.invokevirtual 326, 3) := by decide +kernel
theorem dX10_would_26 : decode cX10_would 26 = .ok (.istore_n 2, 1) := by decide +kernel
theorem dX10_would_27 : decode cX10_would 27 = .ok (.aload_n 0, 1) := by decide +kernel
theorem dX10_would_28 : decode cX10_would 28 = .ok (.invokevirtual 168, 3) := by decide +kernel
theorem dX10_would_31 : decode cX10_would 31 = .ok (.iload_n 2, 1) := by decide +kernel
theorem dX10_would_32 : decode cX10_would 32 = .ok (.ireturn, 1) := by decide +kernel
theorem dX10_headOf_0 : decode cX10_headOf 0 = .ok (.iconst 0, 1) := by decide +kernel
theorem dX10_headOf_1 : decode cX10_headOf 1 = .ok (.istore_n 2, 1) := by decide +kernel
theorem dX10_headOf_2 : decode cX10_headOf 2 = .ok (.iload_n 1, 1) := by decide +kernel
theorem dX10_headOf_3 : decode cX10_headOf 3 = .ok (.aload_n 0, 1) := by decide +kernel
theorem dX10_headOf_4 : decode cX10_headOf 4 = .ok (.getfield 13, 3) := by decide +kernel
theorem dX10_headOf_7 : decode cX10_headOf 7 = .ok (.iload_n 1, 1) := by decide +kernel
theorem dX10_headOf_8 : decode cX10_headOf 8 = .ok (.iaload, 1) := by decide +kernel
theorem dX10_headOf_9 : decode cX10_headOf 9 = .ok (.isub, 1) := by decide +kernel
theorem dX10_headOf_10 : decode cX10_headOf 10 = .ok (.istore_n 3, 1) := by decide +kernel
theorem dX10_headOf_11 : decode cX10_headOf 11 = .ok (.iload_n 3, 1) := by decide +kernel
theorem dX10_headOf_12 : decode cX10_headOf 12 = .ok (.iload_n 1, 1) := by decide +kernel
theorem dX10_headOf_13 : decode cX10_headOf 13 = .ok (.if_icmp .ge 18, 3) := by decide +kernel
theorem dX10_headOf_16 : decode cX10_headOf 16 = .ok (.iload_n 2, 1) := by decide +kernel
theorem dX10_headOf_17 : decode cX10_headOf 17 = .ok (.aload_n 0, 1) := by decide +kernel
theorem dX10_headOf_18 : decode cX10_headOf 18 = .ok (.getfield 19, 3) := by decide +kernel
theorem dX10_headOf_21 : decode cX10_headOf 21 = .ok (.iload_n 3, 1) := by decide +kernel
theorem dX10_headOf_22 : decode cX10_headOf 22 = .ok (.iaload, 1) := by decide +kernel
theorem dX10_headOf_23 : decode cX10_headOf 23 = .ok (.iadd, 1) := by decide +kernel
theorem dX10_headOf_24 : decode cX10_headOf 24 = .ok (.istore_n 2, 1) := by decide +kernel
theorem dX10_headOf_25 : decode cX10_headOf 25 = .ok (.iinc 3 1, 3) := by decide +kernel
theorem dX10_headOf_28 : decode cX10_headOf 28 = .ok (.goto (-17), 3) := by decide +kernel
theorem dX10_headOf_31 : decode cX10_headOf 31 = .ok (.iload_n 2, 1) := by decide +kernel
theorem dX10_headOf_32 : decode cX10_headOf 32 = .ok (.ireturn, 1) := by decide +kernel
theorem dX10_tailOf_0 : decode cX10_tailOf 0 = .ok (.aload_n 0, 1) := by decide +kernel
theorem dX10_tailOf_1 : decode cX10_tailOf 1 = .ok (.iload_n 1, 1) := by decide +kernel
theorem dX10_tailOf_2 : decode cX10_tailOf 2 = .ok (.invokevirtual 308, 3) := by decide +kernel
theorem dX10_tailOf_5 : decode cX10_tailOf 5 = .ok (.aload_n 0, 1) := by decide +kernel
theorem dX10_tailOf_6 : decode cX10_tailOf 6 = .ok (.getfield 19, 3) := by decide +kernel
theorem dX10_tailOf_9 : decode cX10_tailOf 9 = .ok (.iload_n 1, 1) := by decide +kernel
theorem dX10_tailOf_10 : decode cX10_tailOf 10 = .ok (.iaload, 1) := by decide +kernel
theorem dX10_tailOf_11 : decode cX10_tailOf 11 = .ok (.isub, 1) := by decide +kernel
theorem dX10_tailOf_12 : decode cX10_tailOf 12 = .ok (.ireturn, 1) := by decide +kernel
theorem dX10_takes_0 : decode cX10_takes 0 = .ok (.aload_n 0, 1) := by decide +kernel
theorem dX10_takes_1 : decode cX10_takes 1 = .ok (.iconst 0, 1) := by decide +kernel
theorem dX10_takes_2 : decode cX10_takes 2 = .ok (.putfield 329, 3) := by decide +kernel
theorem dX10_takes_5 : decode cX10_takes 5 = .ok (.iconst 0, 1) := by decide +kernel
theorem dX10_takes_6 : decode cX10_takes 6 = .ok (.istore_n 2, 1) := by decide +kernel
theorem dX10_takes_7 : decode cX10_takes 7 = .ok (.iload_n 2, 1) := by decide +kernel
theorem dX10_takes_8 : decode cX10_takes 8 = .ok (.aload_n 0, 1) := by decide +kernel
theorem dX10_takes_9 : decode cX10_takes 9 = .ok (.getfield 105, 3) := by decide +kernel
theorem dX10_takes_12 : decode cX10_takes 12 = .ok (.if_icmp .ge 39, 3) := by decide +kernel
theorem dX10_takes_15 : decode cX10_takes 15 = .ok (.aload_n 0, 1) := by decide +kernel
theorem dX10_takes_16 : decode cX10_takes 16 = .ok (.getfield 16, 3) := by decide +kernel
theorem dX10_takes_19 : decode cX10_takes 19 = .ok (.iload_n 2, 1) := by decide +kernel
theorem dX10_takes_20 : decode cX10_takes 20 = .ok (.iaload, 1) := by decide +kernel
theorem dX10_takes_21 : decode cX10_takes 21 = .ok (.iload_n 1, 1) := by decide +kernel
theorem dX10_takes_22 : decode cX10_takes 22 = .ok (.if_icmp .ne 23, 3) := by decide +kernel
theorem dX10_takes_25 : decode cX10_takes 25 = .ok (.aload_n 0, 1) := by decide +kernel
theorem dX10_takes_26 : decode cX10_takes 26 = .ok (.getfield 96, 3) := by decide +kernel
theorem dX10_takes_29 : decode cX10_takes 29 = .ok (.aload_n 0, 1) := by decide +kernel
theorem dX10_takes_30 : decode cX10_takes 30 = .ok (.getfield 329, 3) := by decide +kernel
theorem dX10_takes_33 : decode cX10_takes 33 = .ok (.iload_n 2, 1) := by decide +kernel
theorem dX10_takes_34 : decode cX10_takes 34 = .ok (.iastore, 1) := by decide +kernel
theorem dX10_takes_35 : decode cX10_takes 35 = .ok (.aload_n 0, 1) := by decide +kernel
theorem dX10_takes_36 : decode cX10_takes 36 = .ok (.dup, 1) := by decide +kernel
theorem dX10_takes_37 : decode cX10_takes 37 = .ok (.getfield 329, 3) := by decide +kernel
theorem dX10_takes_40 : decode cX10_takes 40 = .ok (.iconst 1, 1) := by decide +kernel
theorem dX10_takes_41 : decode cX10_takes 41 = .ok (.iadd, 1) := by decide +kernel
theorem dX10_takes_42 : decode cX10_takes 42 = .ok (.putfield 329, 3) := by decide +kernel
theorem dX10_takes_45 : decode cX10_takes 45 = .ok (.iinc 2 1, 3) := by decide +kernel
theorem dX10_takes_48 : decode cX10_takes 48 = .ok (.goto (-41), 3) := by decide +kernel
theorem dX10_takes_51 : decode cX10_takes 51 = .ok (.return_, 1) := by decide +kernel
theorem dX10_bestOf_0 : decode cX10_bestOf 0 = .ok (.iload_n 1, 1) := by decide +kernel
theorem dX10_bestOf_1 : decode cX10_bestOf 1 = .ok (.ifCond .ne 5, 3) := by decide +kernel
theorem dX10_bestOf_4 : decode cX10_bestOf 4 = .ok (.iload_n 3, 1) := by decide +kernel
theorem dX10_bestOf_5 : decode cX10_bestOf 5 = .ok (.ireturn, 1) := by decide +kernel
theorem dX10_bestOf_6 : decode cX10_bestOf 6 = .ok (.iconst (-1), 1) := by decide +kernel
theorem dX10_bestOf_7 : decode cX10_bestOf 7 = .ok (.istore 4, 2) := by decide +kernel
theorem dX10_bestOf_9 : decode cX10_bestOf 9 = .ok (.iconst 0, 1) := by decide +kernel
theorem dX10_bestOf_10 : decode cX10_bestOf 10 = .ok (.istore 5, 2) := by decide +kernel
theorem dX10_bestOf_12 : decode cX10_bestOf 12 = .ok (.iload 5, 2) := by decide +kernel
theorem dX10_bestOf_14 : decode cX10_bestOf 14 = .ok (.aload_n 0, 1) := by decide +kernel
theorem dX10_bestOf_15 : decode cX10_bestOf 15 = .ok (.getfield 329, 3) := by decide +kernel
theorem dX10_bestOf_18 : decode cX10_bestOf 18 = .ok (.if_icmp .ge 104, 3) := by decide +kernel
theorem dX10_bestOf_21 : decode cX10_bestOf 21 = .ok (.iload_n 1, 1) := by decide +kernel
theorem dX10_bestOf_22 : decode cX10_bestOf 22 = .ok (.iload 5, 2) := by decide +kernel
theorem dX10_bestOf_24 : decode cX10_bestOf 24 = .ok (.ishr, 1) := by decide +kernel
theorem dX10_bestOf_25 : decode cX10_bestOf 25 = .ok (.iconst 1, 1) := by decide +kernel
theorem dX10_bestOf_26 : decode cX10_bestOf 26 = .ok (.iand, 1) := by decide +kernel
theorem dX10_bestOf_27 : decode cX10_bestOf 27 = .ok (.iconst 1, 1) := by decide +kernel
theorem dX10_bestOf_28 : decode cX10_bestOf 28 = .ok (.if_icmp .ne 88, 3) := by decide +kernel
theorem dX10_bestOf_31 : decode cX10_bestOf 31 = .ok (.iload_n 2, 1) := by decide +kernel
theorem dX10_bestOf_32 : decode cX10_bestOf 32 = .ok (.aload_n 0, 1) := by decide +kernel
theorem dX10_bestOf_33 : decode cX10_bestOf 33 = .ok (.aload_n 0, 1) := by decide +kernel
theorem dX10_bestOf_34 : decode cX10_bestOf 34 = .ok (.getfield 96, 3) := by decide +kernel
theorem dX10_bestOf_37 : decode cX10_bestOf 37 = .ok (.iload 5, 2) := by decide +kernel
theorem dX10_bestOf_39 : decode cX10_bestOf 39 = .ok (.iaload, 1) := by decide +kernel
theorem dX10_bestOf_40 : decode cX10_bestOf 40 = .ok (.invokevirtual 332, 3) := by decide +kernel
theorem dX10_bestOf_43 : decode cX10_bestOf 43 = .ok (.invokestatic 214, 3) := by decide +kernel
theorem dX10_bestOf_46 : decode cX10_bestOf 46 = .ok (.aload_n 0, 1) := by decide +kernel
theorem dX10_bestOf_47 : decode cX10_bestOf 47 = .ok (.getfield 19, 3) := by decide +kernel
theorem dX10_bestOf_50 : decode cX10_bestOf 50 = .ok (.aload_n 0, 1) := by decide +kernel
theorem dX10_bestOf_51 : decode cX10_bestOf 51 = .ok (.getfield 96, 3) := by decide +kernel
theorem dX10_bestOf_54 : decode cX10_bestOf 54 = .ok (.iload 5, 2) := by decide +kernel
theorem dX10_bestOf_56 : decode cX10_bestOf 56 = .ok (.iaload, 1) := by decide +kernel
theorem dX10_bestOf_57 : decode cX10_bestOf 57 = .ok (.iaload, 1) := by decide +kernel
theorem dX10_bestOf_58 : decode cX10_bestOf 58 = .ok (.iadd, 1) := by decide +kernel
theorem dX10_bestOf_59 : decode cX10_bestOf 59 = .ok (.istore 6, 2) := by decide +kernel
theorem dX10_bestOf_61 : decode cX10_bestOf 61 = .ok (.aload_n 0, 1) := by decide +kernel
theorem dX10_bestOf_62 : decode cX10_bestOf 62 = .ok (.iload_n 1, 1) := by decide +kernel
theorem dX10_bestOf_63 : decode cX10_bestOf 63 = .ok (.iconst 1, 1) := by decide +kernel
theorem dX10_bestOf_64 : decode cX10_bestOf 64 = .ok (.iload 5, 2) := by decide +kernel
theorem dX10_bestOf_66 : decode cX10_bestOf 66 = .ok (.ishl, 1) := by decide +kernel
theorem dX10_bestOf_67 : decode cX10_bestOf 67 = .ok (.iconst (-1), 1) := by decide +kernel
theorem dX10_bestOf_68 : decode cX10_bestOf 68 = .ok (.ixor, 1) := by decide +kernel
theorem dX10_bestOf_69 : decode cX10_bestOf 69 = .ok (.iand, 1) := by decide +kernel
theorem dX10_bestOf_70 : decode cX10_bestOf 70 = .ok (.iload 6, 2) := by decide +kernel
theorem dX10_bestOf_72 : decode cX10_bestOf 72 = .ok (.iload_n 3, 1) := by decide +kernel
theorem dX10_bestOf_73 : decode cX10_bestOf 73 = .ok (.iload 6, 2) := by decide +kernel
theorem dX10_bestOf_75 : decode cX10_bestOf 75 = .ok (.aload_n 0, 1) := by decide +kernel
theorem dX10_bestOf_76 : decode cX10_bestOf 76 = .ok (.aload_n 0, 1) := by decide +kernel
theorem dX10_bestOf_77 : decode cX10_bestOf 77 = .ok (.getfield 96, 3) := by decide +kernel
theorem dX10_bestOf_80 : decode cX10_bestOf 80 = .ok (.iload 5, 2) := by decide +kernel
theorem dX10_bestOf_82 : decode cX10_bestOf 82 = .ok (.iaload, 1) := by decide +kernel
theorem dX10_bestOf_83 : decode cX10_bestOf 83 = .ok (.invokevirtual 335, 3) := by decide +kernel
theorem dX10_bestOf_86 : decode cX10_bestOf 86 = .ok (.iadd, 1) := by decide +kernel
theorem dX10_bestOf_87 : decode cX10_bestOf 87 = .ok (.invokestatic 214, 3) := by decide +kernel
theorem dX10_bestOf_90 : decode cX10_bestOf 90 = .ok (.invokevirtual 338, 3) := by decide +kernel
theorem dX10_bestOf_93 : decode cX10_bestOf 93 = .ok (.istore 7, 2) := by decide +kernel
theorem dX10_bestOf_95 : decode cX10_bestOf 95 = .ok (.iload 4, 2) := by decide +kernel
theorem dX10_bestOf_97 : decode cX10_bestOf 97 = .ok (.ifCond .lt 10, 3) := by decide +kernel
theorem dX10_bestOf_100 : decode cX10_bestOf 100 = .ok (.iload 7, 2) := by decide +kernel
theorem dX10_bestOf_102 : decode cX10_bestOf 102 = .ok (.iload 4, 2) := by decide +kernel
theorem dX10_bestOf_104 : decode cX10_bestOf 104 = .ok (.if_icmp .ge 8, 3) := by decide +kernel
theorem dX10_bestOf_107 : decode cX10_bestOf 107 = .ok (.iload 7, 2) := by decide +kernel
theorem dX10_bestOf_109 : decode cX10_bestOf 109 = .ok (.goto 5, 3) := by decide +kernel
theorem dX10_bestOf_112 : decode cX10_bestOf 112 = .ok (.iload 4, 2) := by decide +kernel
theorem dX10_bestOf_114 : decode cX10_bestOf 114 = .ok (.istore 4, 2) := by decide +kernel
theorem dX10_bestOf_116 : decode cX10_bestOf 116 = .ok (.iinc 5 1, 3) := by decide +kernel
theorem dX10_bestOf_119 : decode cX10_bestOf 119 = .ok (.goto (-107), 3) := by decide +kernel
theorem dX10_bestOf_122 : decode cX10_bestOf 122 = .ok (.iload 4, 2) := by decide +kernel
theorem dX10_bestOf_124 : decode cX10_bestOf 124 = .ok (.ireturn, 1) := by decide +kernel
theorem dX10_nextAt_0 : decode cX10_nextAt 0 = .ok (.iconst (-1), 1) := by decide +kernel
theorem dX10_nextAt_1 : decode cX10_nextAt 1 = .ok (.istore_n 2, 1) := by decide +kernel
theorem dX10_nextAt_2 : decode cX10_nextAt 2 = .ok (.iconst 0, 1) := by decide +kernel
theorem dX10_nextAt_3 : decode cX10_nextAt 3 = .ok (.istore_n 3, 1) := by decide +kernel
theorem dX10_nextAt_4 : decode cX10_nextAt 4 = .ok (.iload_n 3, 1) := by decide +kernel
theorem dX10_nextAt_5 : decode cX10_nextAt 5 = .ok (.aload_n 0, 1) := by decide +kernel
theorem dX10_nextAt_6 : decode cX10_nextAt 6 = .ok (.getfield 329, 3) := by decide +kernel
theorem dX10_nextAt_9 : decode cX10_nextAt 9 = .ok (.if_icmp .ge 73, 3) := by decide +kernel
theorem dX10_nextAt_12 : decode cX10_nextAt 12 = .ok (.aload_n 0, 1) := by decide +kernel
theorem dX10_nextAt_13 : decode cX10_nextAt 13 = .ok (.getfield 99, 3) := by decide +kernel
theorem dX10_nextAt_16 : decode cX10_nextAt 16 = .ok (.iload_n 3, 1) := by decide +kernel
theorem dX10_nextAt_17 : decode cX10_nextAt 17 = .ok (.iaload, 1) := by decide +kernel
theorem dX10_nextAt_18 : decode cX10_nextAt 18 = .ok (.ifCond .le 21, 3) := by decide +kernel
theorem dX10_nextAt_21 : decode cX10_nextAt 21 = .ok (.aload_n 0, 1) := by decide +kernel
theorem dX10_nextAt_22 : decode cX10_nextAt 22 = .ok (.aload_n 0, 1) := by decide +kernel
theorem dX10_nextAt_23 : decode cX10_nextAt 23 = .ok (.getfield 96, 3) := by decide +kernel
theorem dX10_nextAt_26 : decode cX10_nextAt 26 = .ok (.iload_n 3, 1) := by decide +kernel
theorem dX10_nextAt_27 : decode cX10_nextAt 27 = .ok (.iaload, 1) := by decide +kernel
theorem dX10_nextAt_28 : decode cX10_nextAt 28 = .ok (.invokevirtual 332, 3) := by decide +kernel
theorem dX10_nextAt_31 : decode cX10_nextAt 31 = .ok (.iload_n 1, 1) := by decide +kernel
theorem dX10_nextAt_32 : decode cX10_nextAt 32 = .ok (.if_icmp .gt 7, 3) := by decide +kernel
theorem dX10_nextAt_35 : decode cX10_nextAt 35 = .ok (.iconst 1, 1) := by decide +kernel
theorem dX10_nextAt_36 : decode cX10_nextAt 36 = .ok (.goto 4, 3) := by decide +kernel
theorem dX10_nextAt_39 : decode cX10_nextAt 39 = .ok (.iconst 0, 1) := by decide +kernel
theorem dX10_nextAt_40 : decode cX10_nextAt 40 = .ok (.istore 4, 2) := by decide +kernel
theorem dX10_nextAt_42 : decode cX10_nextAt 42 = .ok (.iload 4, 2) := by decide +kernel
theorem dX10_nextAt_44 : decode cX10_nextAt 44 = .ok (.ifCond .eq 32, 3) := by decide +kernel
theorem dX10_nextAt_47 : decode cX10_nextAt 47 = .ok (.iload_n 2, 1) := by decide +kernel
theorem dX10_nextAt_48 : decode cX10_nextAt 48 = .ok (.ifCond .lt 26, 3) := by decide +kernel
theorem dX10_nextAt_51 : decode cX10_nextAt 51 = .ok (.aload_n 0, 1) := by decide +kernel
theorem dX10_nextAt_52 : decode cX10_nextAt 52 = .ok (.aload_n 0, 1) := by decide +kernel
theorem dX10_nextAt_53 : decode cX10_nextAt 53 = .ok (.getfield 96, 3) := by decide +kernel
theorem dX10_nextAt_56 : decode cX10_nextAt 56 = .ok (.iload_n 3, 1) := by decide +kernel
theorem dX10_nextAt_57 : decode cX10_nextAt 57 = .ok (.iaload, 1) := by decide +kernel
theorem dX10_nextAt_58 : decode cX10_nextAt 58 = .ok (.invokevirtual 335, 3) := by decide +kernel
theorem dX10_nextAt_61 : decode cX10_nextAt 61 = .ok (.aload_n 0, 1) := by decide +kernel
theorem dX10_nextAt_62 : decode cX10_nextAt 62 = .ok (.aload_n 0, 1) := by decide +kernel
theorem dX10_nextAt_63 : decode cX10_nextAt 63 = .ok (.getfield 96, 3) := by decide +kernel
theorem dX10_nextAt_66 : decode cX10_nextAt 66 = .ok (.iload_n 2, 1) := by decide +kernel
theorem dX10_nextAt_67 : decode cX10_nextAt 67 = .ok (.iaload, 1) := by decide +kernel
theorem dX10_nextAt_68 : decode cX10_nextAt 68 = .ok (.invokevirtual 335, 3) := by decide +kernel
theorem dX10_nextAt_71 : decode cX10_nextAt 71 = .ok (.if_icmp .le 5, 3) := by decide +kernel
theorem dX10_nextAt_74 : decode cX10_nextAt 74 = .ok (.iload_n 3, 1) := by decide +kernel
theorem dX10_nextAt_75 : decode cX10_nextAt 75 = .ok (.istore_n 2, 1) := by decide +kernel
theorem dX10_nextAt_76 : decode cX10_nextAt 76 = .ok (.iinc 3 1, 3) := by decide +kernel
theorem dX10_nextAt_79 : decode cX10_nextAt 79 = .ok (.goto (-75), 3) := by decide +kernel
theorem dX10_nextAt_82 : decode cX10_nextAt 82 = .ok (.iload_n 2, 1) := by decide +kernel
theorem dX10_nextAt_83 : decode cX10_nextAt 83 = .ok (.ireturn, 1) := by decide +kernel
theorem dX10_preempted_0 : decode cX10_preempted 0 = .ok (.iconst 0, 1) := by decide +kernel
theorem dX10_preempted_1 : decode cX10_preempted 1 = .ok (.istore_n 1, 1) := by decide +kernel
theorem dX10_preempted_2 : decode cX10_preempted 2 = .ok (.iconst 0, 1) := by decide +kernel
theorem dX10_preempted_3 : decode cX10_preempted 3 = .ok (.istore_n 2, 1) := by decide +kernel
theorem dX10_preempted_4 : decode cX10_preempted 4 = .ok (.iload_n 2, 1) := by decide +kernel
theorem dX10_preempted_5 : decode cX10_preempted 5 = .ok (.aload_n 0, 1) := by decide +kernel
theorem dX10_preempted_6 : decode cX10_preempted 6 = .ok (.getfield 329, 3) := by decide +kernel
theorem dX10_preempted_9 : decode cX10_preempted 9 = .ok (.if_icmp .ge 35, 3) := by decide +kernel
theorem dX10_preempted_12 : decode cX10_preempted 12 = .ok (.aload_n 0, 1) := by decide +kernel
theorem dX10_preempted_13 : decode cX10_preempted 13 = .ok (.getfield 99, 3) := by decide +kernel
theorem dX10_preempted_16 : decode cX10_preempted 16 = .ok (.iload_n 2, 1) := by decide +kernel
theorem dX10_preempted_17 : decode cX10_preempted 17 = .ok (.aload_n 0, 1) := by decide +kernel
theorem dX10_preempted_18 : decode cX10_preempted 18 = .ok (.getfield 19, 3) := by decide +kernel
theorem dX10_preempted_21 : decode cX10_preempted 21 = .ok (.aload_n 0, 1) := by decide +kernel
theorem dX10_preempted_22 : decode cX10_preempted 22 = .ok (.getfield 96, 3) := by decide +kernel
theorem dX10_preempted_25 : decode cX10_preempted 25 = .ok (.iload_n 2, 1) := by decide +kernel
theorem dX10_preempted_26 : decode cX10_preempted 26 = .ok (.iaload, 1) := by decide +kernel
theorem dX10_preempted_27 : decode cX10_preempted 27 = .ok (.iaload, 1) := by decide +kernel
theorem dX10_preempted_28 : decode cX10_preempted 28 = .ok (.iastore, 1) := by decide +kernel
theorem dX10_preempted_29 : decode cX10_preempted 29 = .ok (.iload_n 1, 1) := by decide +kernel
theorem dX10_preempted_30 : decode cX10_preempted 30 = .ok (.aload_n 0, 1) := by decide +kernel
theorem dX10_preempted_31 : decode cX10_preempted 31 = .ok (.getfield 99, 3) := by decide +kernel
theorem dX10_preempted_34 : decode cX10_preempted 34 = .ok (.iload_n 2, 1) := by decide +kernel
theorem dX10_preempted_35 : decode cX10_preempted 35 = .ok (.iaload, 1) := by decide +kernel
theorem dX10_preempted_36 : decode cX10_preempted 36 = .ok (.iadd, 1) := by decide +kernel
theorem dX10_preempted_37 : decode cX10_preempted 37 = .ok (.istore_n 1, 1) := by decide +kernel
theorem dX10_preempted_38 : decode cX10_preempted 38 = .ok (.iinc 2 1, 3) := by decide +kernel
theorem dX10_preempted_41 : decode cX10_preempted 41 = .ok (.goto (-37), 3) := by decide +kernel
theorem dX10_preempted_44 : decode cX10_preempted 44 = .ok (.iconst 0, 1) := by decide +kernel
theorem dX10_preempted_45 : decode cX10_preempted 45 = .ok (.istore_n 2, 1) := by decide +kernel
theorem dX10_preempted_46 : decode cX10_preempted 46 = .ok (.iconst 0, 1) := by decide +kernel
theorem dX10_preempted_47 : decode cX10_preempted 47 = .ok (.istore_n 3, 1) := by decide +kernel
theorem dX10_preempted_48 : decode cX10_preempted 48 = .ok (.iload_n 1, 1) := by decide +kernel
theorem dX10_preempted_49 : decode cX10_preempted 49 = .ok (.ifCond .le 69, 3) := by decide +kernel
theorem dX10_preempted_52 : decode cX10_preempted 52 = .ok (.aload_n 0, 1) := by decide +kernel
theorem dX10_preempted_53 : decode cX10_preempted 53 = .ok (.iload_n 3, 1) := by decide +kernel
theorem dX10_preempted_54 : decode cX10_preempted 54 = .ok (.invokevirtual 342, 3) := by decide +kernel
theorem dX10_preempted_57 : decode cX10_preempted 57 = .ok (.istore 4, 2) := by decide +kernel
theorem dX10_preempted_59 : decode cX10_preempted 59 = .ok (.iload 4, 2) := by decide +kernel
theorem dX10_preempted_61 : decode cX10_preempted 61 = .ok (.ifCond .lt 51, 3) := by decide +kernel
theorem dX10_preempted_64 : decode cX10_preempted 64 = .ok (.aload_n 0, 1) := by decide +kernel
theorem dX10_preempted_65 : decode cX10_preempted 65 = .ok (.getfield 99, 3) := by decide +kernel
theorem dX10_preempted_68 : decode cX10_preempted 68 = .ok (.iload 4, 2) := by decide +kernel
theorem dX10_preempted_70 : decode cX10_preempted 70 = .ok (.dup2, 1) := by decide +kernel
theorem dX10_preempted_71 : decode cX10_preempted 71 = .ok (.iaload, 1) := by decide +kernel
theorem dX10_preempted_72 : decode cX10_preempted 72 = .ok (.iconst 1, 1) := by decide +kernel
theorem dX10_preempted_73 : decode cX10_preempted 73 = .ok (.isub, 1) := by decide +kernel
theorem dX10_preempted_74 : decode cX10_preempted 74 = .ok (.iastore, 1) := by decide +kernel
theorem dX10_preempted_75 : decode cX10_preempted 75 = .ok (.iinc 1 (-1), 3) := by decide +kernel
theorem dX10_preempted_78 : decode cX10_preempted 78 = .ok (.aload_n 0, 1) := by decide +kernel
theorem dX10_preempted_79 : decode cX10_preempted 79 = .ok (.getfield 99, 3) := by decide +kernel
theorem dX10_preempted_82 : decode cX10_preempted 82 = .ok (.iload 4, 2) := by decide +kernel
theorem dX10_preempted_84 : decode cX10_preempted 84 = .ok (.iaload, 1) := by decide +kernel
theorem dX10_preempted_85 : decode cX10_preempted 85 = .ok (.ifCond .ne 25, 3) := by decide +kernel
theorem dX10_preempted_88 : decode cX10_preempted 88 = .ok (.iload_n 2, 1) := by decide +kernel
theorem dX10_preempted_89 : decode cX10_preempted 89 = .ok (.iload_n 3, 1) := by decide +kernel
theorem dX10_preempted_90 : decode cX10_preempted 90 = .ok (.iconst 1, 1) := by decide +kernel
theorem dX10_preempted_91 : decode cX10_preempted 91 = .ok (.iadd, 1) := by decide +kernel
theorem dX10_preempted_92 : decode cX10_preempted 92 = .ok (.aload_n 0, 1) := by decide +kernel
theorem dX10_preempted_93 : decode cX10_preempted 93 = .ok (.aload_n 0, 1) := by decide +kernel
theorem dX10_preempted_94 : decode cX10_preempted 94 = .ok (.getfield 96, 3) := by decide +kernel
theorem dX10_preempted_97 : decode cX10_preempted 97 = .ok (.iload 4, 2) := by decide +kernel
theorem dX10_preempted_99 : decode cX10_preempted 99 = .ok (.iaload, 1) := by decide +kernel
theorem dX10_preempted_100 : decode cX10_preempted 100 = .ok (.invokevirtual 335, 3) := by decide +kernel
theorem dX10_preempted_103 : decode cX10_preempted 103 = .ok (.iadd, 1) := by decide +kernel
theorem dX10_preempted_104 : decode cX10_preempted 104 = .ok (.invokestatic 214, 3) := by decide +kernel
theorem dX10_preempted_107 : decode cX10_preempted 107 = .ok (.goto 4, 3) := by decide +kernel
theorem dX10_preempted_110 : decode cX10_preempted 110 = .ok (.iload_n 2, 1) := by decide +kernel
theorem dX10_preempted_111 : decode cX10_preempted 111 = .ok (.istore_n 2, 1) := by decide +kernel
theorem dX10_preempted_112 : decode cX10_preempted 112 = .ok (.iinc 3 1, 3) := by decide +kernel
theorem dX10_preempted_115 : decode cX10_preempted 115 = .ok (.goto (-67), 3) := by decide +kernel
theorem dX10_preempted_118 : decode cX10_preempted 118 = .ok (.iload_n 2, 1) := by decide +kernel
theorem dX10_preempted_119 : decode cX10_preempted 119 = .ok (.ireturn, 1) := by decide +kernel
theorem dX10_alone_0 : decode cX10_alone 0 = .ok (.aload_n 0, 1) := by decide +kernel
theorem dX10_alone_1 : decode cX10_alone 1 = .ok (.iload_n 1, 1) := by decide +kernel
theorem dX10_alone_2 : decode cX10_alone 2 = .ok (.invokevirtual 345, 3) := by decide +kernel
theorem dX10_alone_5 : decode cX10_alone 5 = .ok (.aload_n 0, 1) := by decide +kernel
theorem dX10_alone_6 : decode cX10_alone 6 = .ok (.getfield 329, 3) := by decide +kernel
theorem dX10_alone_9 : decode cX10_alone 9 = .ok (.ifCond .ne 8, 3) := by decide +kernel
theorem dX10_alone_12 : decode cX10_alone 12 = .ok (.bipush (-2), 2) := by decide +kernel
theorem dX10_alone_14 : decode cX10_alone 14 = .ok (.goto 31, 3) := by decide +kernel
theorem dX10_alone_17 : decode cX10_alone 17 = .ok (.aload_n 0, 1) := by decide +kernel
theorem dX10_alone_18 : decode cX10_alone 18 = .ok (.getfield 329, 3) := by decide +kernel
theorem dX10_alone_21 : decode cX10_alone 21 = .ok (.bipush 6, 2) := by decide +kernel
theorem dX10_alone_23 : decode cX10_alone 23 = .ok (.if_icmp .le 8, 3) := by decide +kernel
theorem dX10_alone_26 : decode cX10_alone 26 = .ok (.bipush (-7), 2) := by decide +kernel
theorem dX10_alone_28 : decode cX10_alone 28 = .ok (.goto 17, 3) := by decide +kernel
theorem dX10_alone_31 : decode cX10_alone 31 = .ok (.aload_n 0, 1) := by decide +kernel
theorem dX10_alone_32 : decode cX10_alone 32 = .ok (.iconst 1, 1) := by decide +kernel
theorem dX10_alone_33 : decode cX10_alone 33 = .ok (.aload_n 0, 1) := by decide +kernel
theorem dX10_alone_34 : decode cX10_alone 34 = .ok (.getfield 329, 3) := by decide +kernel
theorem dX10_alone_37 : decode cX10_alone 37 = .ok (.ishl, 1) := by decide +kernel
theorem dX10_alone_38 : decode cX10_alone 38 = .ok (.iconst 1, 1) := by decide +kernel
theorem dX10_alone_39 : decode cX10_alone 39 = .ok (.isub, 1) := by decide +kernel
theorem dX10_alone_40 : decode cX10_alone 40 = .ok (.iconst 0, 1) := by decide +kernel
theorem dX10_alone_41 : decode cX10_alone 41 = .ok (.iconst 0, 1) := by decide +kernel
theorem dX10_alone_42 : decode cX10_alone 42 = .ok (.invokevirtual 338, 3) := by decide +kernel
theorem dX10_alone_45 : decode cX10_alone 45 = .ok (.ireturn, 1) := by decide +kernel
theorem dX10_machine_0 : decode cX10_machine 0 = .ok (.iload_n 1, 1) := by decide +kernel
theorem dX10_machine_1 : decode cX10_machine 1 = .ok (.invokestatic 181, 3) := by decide +kernel
theorem dX10_machine_4 : decode cX10_machine 4 = .ok (.ifCond .eq 12, 3) := by decide +kernel
theorem dX10_machine_7 : decode cX10_machine 7 = .ok (.iload_n 2, 1) := by decide +kernel
theorem dX10_machine_8 : decode cX10_machine 8 = .ok (.iconst 0, 1) := by decide +kernel
theorem dX10_machine_9 : decode cX10_machine 9 = .ok (.iconst 1, 1) := by decide +kernel
theorem dX10_machine_10 : decode cX10_machine 10 = .ok (.invokestatic 108, 3) := by decide +kernel
theorem dX10_machine_13 : decode cX10_machine 13 = .ok (.ifCond .ne 5, 3) := by decide +kernel
theorem dX10_machine_16 : decode cX10_machine 16 = .ok (.iconst (-1), 1) := by decide +kernel
theorem dX10_machine_17 : decode cX10_machine 17 = .ok (.ireturn, 1) := by decide +kernel
theorem dX10_machine_18 : decode cX10_machine 18 = .ok (.aload_n 0, 1) := by decide +kernel
theorem dX10_machine_19 : decode cX10_machine 19 = .ok (.getfield 105, 3) := by decide +kernel
theorem dX10_machine_22 : decode cX10_machine 22 = .ok (.ifCond .ne 6, 3) := by decide +kernel
theorem dX10_machine_25 : decode cX10_machine 25 = .ok (.bipush (-5), 2) := by decide +kernel
theorem dX10_machine_27 : decode cX10_machine 27 = .ok (.ireturn, 1) := by decide +kernel
theorem dX10_machine_28 : decode cX10_machine 28 = .ok (.iload_n 2, 1) := by decide +kernel
theorem dX10_machine_29 : decode cX10_machine 29 = .ok (.ifCond .ne 9, 3) := by decide +kernel
theorem dX10_machine_32 : decode cX10_machine 32 = .ok (.aload_n 0, 1) := by decide +kernel
theorem dX10_machine_33 : decode cX10_machine 33 = .ok (.iload_n 1, 1) := by decide +kernel
theorem dX10_machine_34 : decode cX10_machine 34 = .ok (.invokevirtual 348, 3) := by decide +kernel
theorem dX10_machine_37 : decode cX10_machine 37 = .ok (.ireturn, 1) := by decide +kernel
theorem dX10_machine_38 : decode cX10_machine 38 = .ok (.aload_n 0, 1) := by decide +kernel
theorem dX10_machine_39 : decode cX10_machine 39 = .ok (.iload_n 1, 1) := by decide +kernel
theorem dX10_machine_40 : decode cX10_machine 40 = .ok (.invokevirtual 345, 3) := by decide +kernel
theorem dX10_machine_43 : decode cX10_machine 43 = .ok (.aload_n 0, 1) := by decide +kernel
theorem dX10_machine_44 : decode cX10_machine 44 = .ok (.getfield 329, 3) := by decide +kernel
theorem dX10_machine_47 : decode cX10_machine 47 = .ok (.ifCond .ne 8, 3) := by decide +kernel
theorem dX10_machine_50 : decode cX10_machine 50 = .ok (.bipush (-2), 2) := by decide +kernel
theorem dX10_machine_52 : decode cX10_machine 52 = .ok (.goto 7, 3) := by decide +kernel
theorem dX10_machine_55 : decode cX10_machine 55 = .ok (.aload_n 0, 1) := by decide +kernel
theorem dX10_machine_56 : decode cX10_machine 56 = .ok (.invokevirtual 351, 3) := by decide +kernel
theorem dX10_machine_59 : decode cX10_machine 59 = .ok (.ireturn, 1) := by decide +kernel
theorem dX10_bound_0 : decode cX10_bound 0 = .ok (.aload_n 0, 1) := by decide +kernel
theorem dX10_bound_1 : decode cX10_bound 1 = .ok (.getfield 105, 3) := by decide +kernel
theorem dX10_bound_4 : decode cX10_bound 4 = .ok (.ifCond .ne 6, 3) := by decide +kernel
theorem dX10_bound_7 : decode cX10_bound 7 = .ok (.bipush (-5), 2) := by decide +kernel
theorem dX10_bound_9 : decode cX10_bound 9 = .ok (.ireturn, 1) := by decide +kernel
theorem dX10_bound_10 : decode cX10_bound 10 = .ok (.iconst 0, 1) := by decide +kernel
theorem dX10_bound_11 : decode cX10_bound 11 = .ok (.istore_n 1, 1) := by decide +kernel
theorem dX10_bound_12 : decode cX10_bound 12 = .ok (.iconst 0, 1) := by decide +kernel
theorem dX10_bound_13 : decode cX10_bound 13 = .ok (.istore_n 2, 1) := by decide +kernel
theorem dX10_bound_14 : decode cX10_bound 14 = .ok (.iload_n 2, 1) := by decide +kernel
theorem dX10_bound_15 : decode cX10_bound 15 = .ok (.iconst 5, 1) := by decide +kernel
theorem dX10_bound_16 : decode cX10_bound 16 = .ok (.if_icmp .ge 30, 3) := by decide +kernel
theorem dX10_bound_19 : decode cX10_bound 19 = .ok (.aload_n 0, 1) := by decide +kernel
theorem dX10_bound_20 : decode cX10_bound 20 = .ok (.iload_n 2, 1) := by decide +kernel
theorem dX10_bound_21 : decode cX10_bound 21 = .ok (.invokevirtual 348, 3) := by decide +kernel
theorem dX10_bound_24 : decode cX10_bound 24 = .ok (.istore_n 3, 1) := by decide +kernel
theorem dX10_bound_25 : decode cX10_bound 25 = .ok (.iload_n 3, 1) := by decide +kernel
theorem dX10_bound_26 : decode cX10_bound 26 = .ok (.bipush (-7), 2) := by decide +kernel
theorem dX10_bound_28 : decode cX10_bound 28 = .ok (.if_icmp .ne 6, 3) := by decide +kernel
theorem dX10_bound_31 : decode cX10_bound 31 = .ok (.bipush (-7), 2) := by decide +kernel
theorem dX10_bound_33 : decode cX10_bound 33 = .ok (.ireturn, 1) := by decide +kernel
theorem dX10_bound_34 : decode cX10_bound 34 = .ok (.iload_n 1, 1) := by decide +kernel
theorem dX10_bound_35 : decode cX10_bound 35 = .ok (.iload_n 3, 1) := by decide +kernel
theorem dX10_bound_36 : decode cX10_bound 36 = .ok (.invokestatic 214, 3) := by decide +kernel
theorem dX10_bound_39 : decode cX10_bound 39 = .ok (.istore_n 1, 1) := by decide +kernel
theorem dX10_bound_40 : decode cX10_bound 40 = .ok (.iinc 2 1, 3) := by decide +kernel
theorem dX10_bound_43 : decode cX10_bound 43 = .ok (.goto (-29), 3) := by decide +kernel
theorem dX10_bound_46 : decode cX10_bound 46 = .ok (.iconst 0, 1) := by decide +kernel
theorem dX10_bound_47 : decode cX10_bound 47 = .ok (.istore_n 2, 1) := by decide +kernel
theorem dX10_bound_48 : decode cX10_bound 48 = .ok (.iload_n 2, 1) := by decide +kernel
theorem dX10_bound_49 : decode cX10_bound 49 = .ok (.aload_n 0, 1) := by decide +kernel
theorem dX10_bound_50 : decode cX10_bound 50 = .ok (.getfield 150, 3) := by decide +kernel
theorem dX10_bound_53 : decode cX10_bound 53 = .ok (.if_icmp .ge 23, 3) := by decide +kernel
theorem dX10_bound_56 : decode cX10_bound 56 = .ok (.iload_n 1, 1) := by decide +kernel
theorem dX10_bound_57 : decode cX10_bound 57 = .ok (.aload_n 0, 1) := by decide +kernel
theorem dX10_bound_58 : decode cX10_bound 58 = .ok (.aload_n 0, 1) := by decide +kernel
theorem dX10_bound_59 : decode cX10_bound 59 = .ok (.iload_n 2, 1) := by decide +kernel
theorem dX10_bound_60 : decode cX10_bound 60 = .ok (.invokevirtual 317, 3) := by decide +kernel
theorem dX10_bound_63 : decode cX10_bound 63 = .ok (.invokevirtual 308, 3) := by decide +kernel
theorem dX10_bound_66 : decode cX10_bound 66 = .ok (.invokestatic 214, 3) := by decide +kernel
theorem dX10_bound_69 : decode cX10_bound 69 = .ok (.istore_n 1, 1) := by decide +kernel
theorem dX10_bound_70 : decode cX10_bound 70 = .ok (.iinc 2 1, 3) := by decide +kernel
theorem dX10_bound_73 : decode cX10_bound 73 = .ok (.goto (-25), 3) := by decide +kernel
theorem dX10_bound_76 : decode cX10_bound 76 = .ok (.iload_n 1, 1) := by decide +kernel
theorem dX10_bound_77 : decode cX10_bound 77 = .ok (.ireturn, 1) := by decide +kernel
theorem dX10_triesFrom_0 : decode cX10_triesFrom 0 = .ok (.iload_n 1, 1) := by decide +kernel
theorem dX10_triesFrom_1 : decode cX10_triesFrom 1 = .ok (.iconst 5, 1) := by decide +kernel
theorem dX10_triesFrom_2 : decode cX10_triesFrom 2 = .ok (.if_icmp .ne 50, 3) := by decide +kernel
theorem dX10_triesFrom_5 : decode cX10_triesFrom 5 = .ok (.aload_n 0, 1) := by decide +kernel
theorem dX10_triesFrom_6 : decode cX10_triesFrom 6 = .ok (.invokevirtual 191, 3) := by decide +kernel
theorem dX10_triesFrom_9 : decode cX10_triesFrom 9 = .ok (.ifCond .eq 42, 3) := by decide +kernel
theorem dX10_triesFrom_12 : decode cX10_triesFrom 12 = .ok (.aload_n 0, 1) := by decide +kernel
theorem dX10_triesFrom_13 : decode cX10_triesFrom 13 = .ok (.dup, 1) := by decide +kernel
theorem dX10_triesFrom_14 : decode cX10_triesFrom 14 = .ok (.getfield 354, 3) := by decide +kernel
theorem dX10_triesFrom_17 : decode cX10_triesFrom 17 = .ok (.iconst 1, 1) := by decide +kernel
theorem dX10_triesFrom_18 : decode cX10_triesFrom 18 = .ok (.iadd, 1) := by decide +kernel
theorem dX10_triesFrom_19 : decode cX10_triesFrom 19 = .ok (.putfield 354, 3) := by decide +kernel
theorem dX10_triesFrom_22 : decode cX10_triesFrom 22 = .ok (.aload_n 0, 1) := by decide +kernel
theorem dX10_triesFrom_23 : decode cX10_triesFrom 23 = .ok (.aload_n 0, 1) := by decide +kernel
theorem dX10_triesFrom_24 : decode cX10_triesFrom 24 = .ok (.getfield 357, 3) := by decide +kernel
theorem dX10_triesFrom_27 : decode cX10_triesFrom 27 = .ok (.ifCond .ge 10, 3) := by decide +kernel
theorem dX10_triesFrom_30 : decode cX10_triesFrom 30 = .ok (.aload_n 0, 1) := by decide +kernel
theorem dX10_triesFrom_31 : decode cX10_triesFrom 31 = .ok (.getfield 195, 3) := by decide +kernel
theorem dX10_triesFrom_34 : decode cX10_triesFrom 34 = .ok (.goto 14, 3) := by decide +kernel
theorem dX10_triesFrom_37 : decode cX10_triesFrom 37 = .ok (.aload_n 0, 1) := by decide +kernel
theorem dX10_triesFrom_38 : decode cX10_triesFrom 38 = .ok (.getfield 357, 3) := by decide +kernel
theorem dX10_triesFrom_41 : decode cX10_triesFrom 41 = .ok (.aload_n 0, 1) := by decide +kernel
theorem dX10_triesFrom_42 : decode cX10_triesFrom 42 = .ok (.getfield 195, 3) := by decide +kernel
theorem dX10_triesFrom_45 : decode cX10_triesFrom 45 = .ok (.invokestatic 263, 3) := by decide +kernel
theorem dX10_triesFrom_48 : decode cX10_triesFrom 48 = .ok (.putfield 357, 3) := by decide +kernel
theorem dX10_triesFrom_51 : decode cX10_triesFrom 51 = .ok (.return_, 1) := by decide +kernel
theorem dX10_triesFrom_52 : decode cX10_triesFrom 52 = .ok (.iload_n 2, 1) := by decide +kernel
theorem dX10_triesFrom_53 : decode cX10_triesFrom 53 = .ok (.aload_n 0, 1) := by decide +kernel
theorem dX10_triesFrom_54 : decode cX10_triesFrom 54 = .ok (.getfield 25, 3) := by decide +kernel
theorem dX10_triesFrom_57 : decode cX10_triesFrom 57 = .ok (.iload_n 1, 1) := by decide +kernel
theorem dX10_triesFrom_58 : decode cX10_triesFrom 58 = .ok (.iaload, 1) := by decide +kernel
theorem dX10_triesFrom_59 : decode cX10_triesFrom 59 = .ok (.if_icmp .lt 12, 3) := by decide +kernel
theorem dX10_triesFrom_62 : decode cX10_triesFrom 62 = .ok (.aload_n 0, 1) := by decide +kernel
theorem dX10_triesFrom_63 : decode cX10_triesFrom 63 = .ok (.iload_n 1, 1) := by decide +kernel
theorem dX10_triesFrom_64 : decode cX10_triesFrom 64 = .ok (.iconst 1, 1) := by decide +kernel
theorem dX10_triesFrom_65 : decode cX10_triesFrom 65 = .ok (.iadd, 1) := by decide +kernel
theorem dX10_triesFrom_66 : decode cX10_triesFrom 66 = .ok (.iconst 0, 1) := by decide +kernel
theorem dX10_triesFrom_67 : decode cX10_triesFrom 67 = .ok (.invokevirtual 360, 3) := by decide +kernel
theorem dX10_triesFrom_70 : decode cX10_triesFrom 70 = .ok (.return_, 1) := by decide +kernel
theorem dX10_triesFrom_71 : decode cX10_triesFrom 71 = .ok (.iload_n 2, 1) := by decide +kernel
theorem dX10_triesFrom_72 : decode cX10_triesFrom 72 = .ok (.istore_n 3, 1) := by decide +kernel
theorem dX10_triesFrom_73 : decode cX10_triesFrom 73 = .ok (.iload_n 3, 1) := by decide +kernel
theorem dX10_triesFrom_74 : decode cX10_triesFrom 74 = .ok (.aload_n 0, 1) := by decide +kernel
theorem dX10_triesFrom_75 : decode cX10_triesFrom 75 = .ok (.getfield 25, 3) := by decide +kernel
theorem dX10_triesFrom_78 : decode cX10_triesFrom 78 = .ok (.iload_n 1, 1) := by decide +kernel
theorem dX10_triesFrom_79 : decode cX10_triesFrom 79 = .ok (.iaload, 1) := by decide +kernel
theorem dX10_triesFrom_80 : decode cX10_triesFrom 80 = .ok (.if_icmp .ge 49, 3) := by decide +kernel
theorem dX10_triesFrom_83 : decode cX10_triesFrom 83 = .ok (.aload_n 0, 1) := by decide +kernel
theorem dX10_triesFrom_84 : decode cX10_triesFrom 84 = .ok (.bipush 24, 2) := by decide +kernel
theorem dX10_triesFrom_86 : decode cX10_triesFrom 86 = .ok (.iload_n 1, 1) := by decide +kernel
theorem dX10_triesFrom_87 : decode cX10_triesFrom 87 = .ok (.imul, 1) := by decide +kernel
theorem dX10_triesFrom_88 : decode cX10_triesFrom 88 = .ok (.iload_n 2, 1) := by decide +kernel
theorem dX10_triesFrom_89 : decode cX10_triesFrom 89 = .ok (.iadd, 1) := by decide +kernel
theorem dX10_triesFrom_90 : decode cX10_triesFrom 90 = .ok (.bipush 24, 2) := by decide +kernel
theorem dX10_triesFrom_92 : decode cX10_triesFrom 92 = .ok (.iload_n 1, 1) := by decide +kernel
theorem dX10_triesFrom_93 : decode cX10_triesFrom 93 = .ok (.imul, 1) := by decide +kernel
theorem dX10_triesFrom_94 : decode cX10_triesFrom 94 = .ok (.iload_n 3, 1) := by decide +kernel
theorem dX10_triesFrom_95 : decode cX10_triesFrom 95 = .ok (.iadd, 1) := by decide +kernel
theorem dX10_triesFrom_96 : decode cX10_triesFrom 96 = .ok (.invokevirtual 363, 3) := by decide +kernel
theorem dX10_triesFrom_99 : decode cX10_triesFrom 99 = .ok (.aload_n 0, 1) := by decide +kernel
theorem dX10_triesFrom_100 : decode cX10_triesFrom 100 = .ok (.iload_n 1, 1) := by decide +kernel
theorem dX10_triesFrom_101 : decode cX10_triesFrom 101 = .ok (.iload_n 2, 1) := by decide +kernel
theorem dX10_triesFrom_102 : decode cX10_triesFrom 102 = .ok (.iconst 1, 1) := by decide +kernel
theorem dX10_triesFrom_103 : decode cX10_triesFrom 103 = .ok (.iadd, 1) := by decide +kernel
theorem dX10_triesFrom_104 : decode cX10_triesFrom 104 = .ok (.invokevirtual 360, 3) := by decide +kernel
theorem dX10_triesFrom_107 : decode cX10_triesFrom 107 = .ok (.aload_n 0, 1) := by decide +kernel
theorem dX10_triesFrom_108 : decode cX10_triesFrom 108 = .ok (.bipush 24, 2) := by decide +kernel
theorem dX10_triesFrom_110 : decode cX10_triesFrom 110 = .ok (.iload_n 1, 1) := by decide +kernel
theorem dX10_triesFrom_111 : decode cX10_triesFrom 111 = .ok (.imul, 1) := by decide +kernel
theorem dX10_triesFrom_112 : decode cX10_triesFrom 112 = .ok (.iload_n 2, 1) := by decide +kernel
theorem dX10_triesFrom_113 : decode cX10_triesFrom 113 = .ok (.iadd, 1) := by decide +kernel
theorem dX10_triesFrom_114 : decode cX10_triesFrom 114 = .ok (.bipush 24, 2) := by decide +kernel
theorem dX10_triesFrom_116 : decode cX10_triesFrom 116 = .ok (.iload_n 1, 1) := by decide +kernel
theorem dX10_triesFrom_117 : decode cX10_triesFrom 117 = .ok (.imul, 1) := by decide +kernel
theorem dX10_triesFrom_118 : decode cX10_triesFrom 118 = .ok (.iload_n 3, 1) := by decide +kernel
theorem dX10_triesFrom_119 : decode cX10_triesFrom 119 = .ok (.iadd, 1) := by decide +kernel
theorem dX10_triesFrom_120 : decode cX10_triesFrom 120 = .ok (.invokevirtual 363, 3) := by decide +kernel
theorem dX10_triesFrom_123 : decode cX10_triesFrom 123 = .ok (.iinc 3 1, 3) := by decide +kernel
theorem dX10_triesFrom_126 : decode cX10_triesFrom 126 = .ok (.goto (-53), 3) := by decide +kernel
theorem dX10_triesFrom_129 : decode cX10_triesFrom 129 = .ok (.return_, 1) := by decide +kernel
theorem dX10_changesOver_0 : decode cX10_changesOver 0 = .ok (.aload_n 0, 1) := by decide +kernel
theorem dX10_changesOver_1 : decode cX10_changesOver 1 = .ok (.getfield 22, 3) := by decide +kernel
theorem dX10_changesOver_4 : decode cX10_changesOver 4 = .ok (.iload_n 1, 1) := by decide +kernel
theorem dX10_changesOver_5 : decode cX10_changesOver 5 = .ok (.iaload, 1) := by decide +kernel
theorem dX10_changesOver_6 : decode cX10_changesOver 6 = .ok (.istore_n 3, 1) := by decide +kernel
theorem dX10_changesOver_7 : decode cX10_changesOver 7 = .ok (.aload_n 0, 1) := by decide +kernel
theorem dX10_changesOver_8 : decode cX10_changesOver 8 = .ok (.getfield 22, 3) := by decide +kernel
theorem dX10_changesOver_11 : decode cX10_changesOver 11 = .ok (.iload_n 1, 1) := by decide +kernel
theorem dX10_changesOver_12 : decode cX10_changesOver 12 = .ok (.aload_n 0, 1) := by decide +kernel
theorem dX10_changesOver_13 : decode cX10_changesOver 13 = .ok (.getfield 22, 3) := by decide +kernel
theorem dX10_changesOver_16 : decode cX10_changesOver 16 = .ok (.iload_n 2, 1) := by decide +kernel
theorem dX10_changesOver_17 : decode cX10_changesOver 17 = .ok (.iaload, 1) := by decide +kernel
theorem dX10_changesOver_18 : decode cX10_changesOver 18 = .ok (.iastore, 1) := by decide +kernel
theorem dX10_changesOver_19 : decode cX10_changesOver 19 = .ok (.aload_n 0, 1) := by decide +kernel
theorem dX10_changesOver_20 : decode cX10_changesOver 20 = .ok (.getfield 22, 3) := by decide +kernel
theorem dX10_changesOver_23 : decode cX10_changesOver 23 = .ok (.iload_n 2, 1) := by decide +kernel
theorem dX10_changesOver_24 : decode cX10_changesOver 24 = .ok (.iload_n 3, 1) := by decide +kernel
theorem dX10_changesOver_25 : decode cX10_changesOver 25 = .ok (.iastore, 1) := by decide +kernel
theorem dX10_changesOver_26 : decode cX10_changesOver 26 = .ok (.return_, 1) := by decide +kernel
theorem dX10_waysAll_0 : decode cX10_waysAll 0 = .ok (.lconst 1, 1) := by decide +kernel
theorem dX10_waysAll_1 : decode cX10_waysAll 1 = .ok (.lstore_n 1, 1) := by decide +kernel
theorem dX10_waysAll_2 : decode cX10_waysAll 2 = .ok (.iconst 0, 1) := by decide +kernel
theorem dX10_waysAll_3 : decode cX10_waysAll 3 = .ok (.istore_n 3, 1) := by decide +kernel
theorem dX10_waysAll_4 : decode cX10_waysAll 4 = .ok (.iload_n 3, 1) := by decide +kernel
theorem dX10_waysAll_5 : decode cX10_waysAll 5 = .ok (.iconst 5, 1) := by decide +kernel
theorem dX10_waysAll_6 : decode cX10_waysAll 6 = .ok (.if_icmp .ge 43, 3) := by decide +kernel
theorem dX10_waysAll_9 : decode cX10_waysAll 9 = .ok (.iconst 2, 1) := by decide +kernel
theorem dX10_waysAll_10 : decode cX10_waysAll 10 = .ok (.istore 4, 2) := by decide +kernel
theorem dX10_waysAll_12 : decode cX10_waysAll 12 = .ok (.iload 4, 2) := by decide +kernel
theorem dX10_waysAll_14 : decode cX10_waysAll 14 = .ok (.aload_n 0, 1) := by decide +kernel
theorem dX10_waysAll_15 : decode cX10_waysAll 15 = .ok (.getfield 25, 3) := by decide +kernel
theorem dX10_waysAll_18 : decode cX10_waysAll 18 = .ok (.iload_n 3, 1) := by decide +kernel
theorem dX10_waysAll_19 : decode cX10_waysAll 19 = .ok (.iaload, 1) := by decide +kernel
theorem dX10_waysAll_20 : decode cX10_waysAll 20 = .ok (.if_icmp .gt 23, 3) := by decide +kernel
theorem dX10_waysAll_23 : decode cX10_waysAll 23 = .ok (.lload_n 1, 1) := by decide +kernel
theorem dX10_waysAll_24 : decode cX10_waysAll 24 = .ok (.ldc2_w 366, 3) := by decide +kernel
theorem dX10_waysAll_27 : decode cX10_waysAll 27 = .ok (.lcmp, 1) := by decide +kernel
theorem dX10_waysAll_28 : decode cX10_waysAll 28 = .ok (.ifCond .gt 15, 3) := by decide +kernel
theorem dX10_waysAll_31 : decode cX10_waysAll 31 = .ok (.lload_n 1, 1) := by decide +kernel
theorem dX10_waysAll_32 : decode cX10_waysAll 32 = .ok (.iload 4, 2) := by decide +kernel
theorem dX10_waysAll_34 : decode cX10_waysAll 34 = .ok (.i2l, 1) := by decide +kernel
theorem dX10_waysAll_35 : decode cX10_waysAll 35 = .ok (.lmul, 1) := by decide +kernel
theorem dX10_waysAll_36 : decode cX10_waysAll 36 = .ok (.lstore_n 1, 1) := by decide +kernel
theorem dX10_waysAll_37 : decode cX10_waysAll 37 = .ok (.iinc 4 1, 3) := by decide +kernel
theorem dX10_waysAll_40 : decode cX10_waysAll 40 = .ok (.goto (-28), 3) := by decide +kernel
theorem dX10_waysAll_43 : decode cX10_waysAll 43 = .ok (.iinc 3 1, 3) := by decide +kernel
theorem dX10_waysAll_46 : decode cX10_waysAll 46 = .ok (.goto (-42), 3) := by decide +kernel
theorem dX10_waysAll_49 : decode cX10_waysAll 49 = .ok (.lload_n 1, 1) := by decide +kernel
theorem dX10_waysAll_50 : decode cX10_waysAll 50 = .ok (.ldc2_w 366, 3) := by decide +kernel
theorem dX10_waysAll_53 : decode cX10_waysAll 53 = .ok (.lcmp, 1) := by decide +kernel
theorem dX10_waysAll_54 : decode cX10_waysAll 54 = .ok (.ifCond .le 8, 3) := by decide +kernel
theorem dX10_waysAll_57 : decode cX10_waysAll 57 = .ok (.bipush (-7), 2) := by decide +kernel
theorem dX10_waysAll_59 : decode cX10_waysAll 59 = .ok (.goto 5, 3) := by decide +kernel
theorem dX10_waysAll_62 : decode cX10_waysAll 62 = .ok (.lload_n 1, 1) := by decide +kernel
theorem dX10_waysAll_63 : decode cX10_waysAll 63 = .ok (.l2i, 1) := by decide +kernel
theorem dX10_waysAll_64 : decode cX10_waysAll 64 = .ok (.ireturn, 1) := by decide +kernel
theorem dX10_all_0 : decode cX10_all 0 = .ok (.iload_n 1, 1) := by decide +kernel
theorem dX10_all_1 : decode cX10_all 1 = .ok (.iconst 0, 1) := by decide +kernel
theorem dX10_all_2 : decode cX10_all 2 = .ok (.iconst 1, 1) := by decide +kernel
theorem dX10_all_3 : decode cX10_all 3 = .ok (.invokestatic 108, 3) := by decide +kernel
theorem dX10_all_6 : decode cX10_all 6 = .ok (.ifCond .ne 5, 3) := by decide +kernel
theorem dX10_all_9 : decode cX10_all 9 = .ok (.iconst (-1), 1) := by decide +kernel
theorem dX10_all_10 : decode cX10_all 10 = .ok (.ireturn, 1) := by decide +kernel
theorem dX10_all_11 : decode cX10_all 11 = .ok (.aload_n 0, 1) := by decide +kernel
theorem dX10_all_12 : decode cX10_all 12 = .ok (.getfield 105, 3) := by decide +kernel
theorem dX10_all_15 : decode cX10_all 15 = .ok (.ifCond .ne 6, 3) := by decide +kernel
theorem dX10_all_18 : decode cX10_all 18 = .ok (.bipush (-5), 2) := by decide +kernel
theorem dX10_all_20 : decode cX10_all 20 = .ok (.ireturn, 1) := by decide +kernel
theorem dX10_all_21 : decode cX10_all 21 = .ok (.aload_n 0, 1) := by decide +kernel
theorem dX10_all_22 : decode cX10_all 22 = .ok (.invokevirtual 368, 3) := by decide +kernel
theorem dX10_all_25 : decode cX10_all 25 = .ok (.bipush (-7), 2) := by decide +kernel
theorem dX10_all_27 : decode cX10_all 27 = .ok (.if_icmp .ne 6, 3) := by decide +kernel
theorem dX10_all_30 : decode cX10_all 30 = .ok (.bipush (-7), 2) := by decide +kernel
theorem dX10_all_32 : decode cX10_all 32 = .ok (.ireturn, 1) := by decide +kernel
theorem dX10_all_33 : decode cX10_all 33 = .ok (.aload_n 0, 1) := by decide +kernel
theorem dX10_all_34 : decode cX10_all 34 = .ok (.iconst 0, 1) := by decide +kernel
theorem dX10_all_35 : decode cX10_all 35 = .ok (.putfield 354, 3) := by decide +kernel
theorem dX10_all_38 : decode cX10_all 38 = .ok (.aload_n 0, 1) := by decide +kernel
theorem dX10_all_39 : decode cX10_all 39 = .ok (.iconst (-1), 1) := by decide +kernel
theorem dX10_all_40 : decode cX10_all 40 = .ok (.putfield 357, 3) := by decide +kernel
theorem dX10_all_43 : decode cX10_all 43 = .ok (.aload_n 0, 1) := by decide +kernel
theorem dX10_all_44 : decode cX10_all 44 = .ok (.iconst 0, 1) := by decide +kernel
theorem dX10_all_45 : decode cX10_all 45 = .ok (.iconst 0, 1) := by decide +kernel
theorem dX10_all_46 : decode cX10_all 46 = .ok (.invokevirtual 360, 3) := by decide +kernel
theorem dX10_all_49 : decode cX10_all 49 = .ok (.iload_n 1, 1) := by decide +kernel
theorem dX10_all_50 : decode cX10_all 50 = .ok (.ifCond .ne 10, 3) := by decide +kernel
theorem dX10_all_53 : decode cX10_all 53 = .ok (.aload_n 0, 1) := by decide +kernel
theorem dX10_all_54 : decode cX10_all 54 = .ok (.getfield 354, 3) := by decide +kernel
theorem dX10_all_57 : decode cX10_all 57 = .ok (.goto 7, 3) := by decide +kernel
theorem dX10_all_60 : decode cX10_all 60 = .ok (.aload_n 0, 1) := by decide +kernel
theorem dX10_all_61 : decode cX10_all 61 = .ok (.getfield 357, 3) := by decide +kernel
theorem dX10_all_64 : decode cX10_all 64 = .ok (.ireturn, 1) := by decide +kernel
theorem dX10_byteAt_0 : decode cX10_byteAt 0 = .ok (.iload_n 2, 1) := by decide +kernel
theorem dX10_byteAt_1 : decode cX10_byteAt 1 = .ok (.aload_n 0, 1) := by decide +kernel
theorem dX10_byteAt_2 : decode cX10_byteAt 2 = .ok (.getfield 195, 3) := by decide +kernel
theorem dX10_byteAt_5 : decode cX10_byteAt 5 = .ok (.if_icmp .ne 6, 3) := by decide +kernel
theorem dX10_byteAt_8 : decode cX10_byteAt 8 = .ok (.bipush 10, 2) := by decide +kernel
theorem dX10_byteAt_10 : decode cX10_byteAt 10 = .ok (.ireturn, 1) := by decide +kernel
theorem dX10_byteAt_11 : decode cX10_byteAt 11 = .ok (.iconst 0, 1) := by decide +kernel
theorem dX10_byteAt_12 : decode cX10_byteAt 12 = .ok (.istore_n 3, 1) := by decide +kernel
theorem dX10_byteAt_13 : decode cX10_byteAt 13 = .ok (.iload_n 3, 1) := by decide +kernel
theorem dX10_byteAt_14 : decode cX10_byteAt 14 = .ok (.aload_n 0, 1) := by decide +kernel
theorem dX10_byteAt_15 : decode cX10_byteAt 15 = .ok (.getfield 25, 3) := by decide +kernel
theorem dX10_byteAt_18 : decode cX10_byteAt 18 = .ok (.iload_n 1, 1) := by decide +kernel
theorem dX10_byteAt_19 : decode cX10_byteAt 19 = .ok (.iaload, 1) := by decide +kernel
theorem dX10_byteAt_20 : decode cX10_byteAt 20 = .ok (.if_icmp .ge 55, 3) := by decide +kernel
theorem dX10_byteAt_23 : decode cX10_byteAt 23 = .ok (.aload_n 0, 1) := by decide +kernel
theorem dX10_byteAt_24 : decode cX10_byteAt 24 = .ok (.getfield 22, 3) := by decide +kernel
theorem dX10_byteAt_27 : decode cX10_byteAt 27 = .ok (.bipush 24, 2) := by decide +kernel
theorem dX10_byteAt_29 : decode cX10_byteAt 29 = .ok (.iload_n 1, 1) := by decide +kernel
theorem dX10_byteAt_30 : decode cX10_byteAt 30 = .ok (.imul, 1) := by decide +kernel
theorem dX10_byteAt_31 : decode cX10_byteAt 31 = .ok (.iload_n 3, 1) := by decide +kernel
theorem dX10_byteAt_32 : decode cX10_byteAt 32 = .ok (.iadd, 1) := by decide +kernel
theorem dX10_byteAt_33 : decode cX10_byteAt 33 = .ok (.iaload, 1) := by decide +kernel
theorem dX10_byteAt_34 : decode cX10_byteAt 34 = .ok (.istore 4, 2) := by decide +kernel
theorem dX10_byteAt_36 : decode cX10_byteAt 36 = .ok (.iload_n 2, 1) := by decide +kernel
theorem dX10_byteAt_37 : decode cX10_byteAt 37 = .ok (.aload_n 0, 1) := by decide +kernel
theorem dX10_byteAt_38 : decode cX10_byteAt 38 = .ok (.getfield 49, 3) := by decide +kernel
theorem dX10_byteAt_41 : decode cX10_byteAt 41 = .ok (.iload 4, 2) := by decide +kernel
theorem dX10_byteAt_43 : decode cX10_byteAt 43 = .ok (.iaload, 1) := by decide +kernel
theorem dX10_byteAt_44 : decode cX10_byteAt 44 = .ok (.aload_n 0, 1) := by decide +kernel
theorem dX10_byteAt_45 : decode cX10_byteAt 45 = .ok (.iload 4, 2) := by decide +kernel
theorem dX10_byteAt_47 : decode cX10_byteAt 47 = .ok (.invokevirtual 211, 3) := by decide +kernel
theorem dX10_byteAt_50 : decode cX10_byteAt 50 = .ok (.iconst 1, 1) := by decide +kernel
theorem dX10_byteAt_51 : decode cX10_byteAt 51 = .ok (.isub, 1) := by decide +kernel
theorem dX10_byteAt_52 : decode cX10_byteAt 52 = .ok (.invokestatic 108, 3) := by decide +kernel
theorem dX10_byteAt_55 : decode cX10_byteAt 55 = .ok (.ifCond .eq 14, 3) := by decide +kernel
theorem dX10_byteAt_58 : decode cX10_byteAt 58 = .ok (.bipush 48, 2) := by decide +kernel
theorem dX10_byteAt_60 : decode cX10_byteAt 60 = .ok (.aload_n 0, 1) := by decide +kernel
theorem dX10_byteAt_61 : decode cX10_byteAt 61 = .ok (.getfield 9, 3) := by decide +kernel
theorem dX10_byteAt_64 : decode cX10_byteAt 64 = .ok (.iload 4, 2) := by decide +kernel
theorem dX10_byteAt_66 : decode cX10_byteAt 66 = .ok (.iaload, 1) := by decide +kernel
theorem dX10_byteAt_67 : decode cX10_byteAt 67 = .ok (.iadd, 1) := by decide +kernel
theorem dX10_byteAt_68 : decode cX10_byteAt 68 = .ok (.ireturn, 1) := by decide +kernel
theorem dX10_byteAt_69 : decode cX10_byteAt 69 = .ok (.iinc 3 1, 3) := by decide +kernel
theorem dX10_byteAt_72 : decode cX10_byteAt 72 = .ok (.goto (-59), 3) := by decide +kernel
theorem dX10_byteAt_75 : decode cX10_byteAt 75 = .ok (.bipush 46, 2) := by decide +kernel
theorem dX10_byteAt_77 : decode cX10_byteAt 77 = .ok (.ireturn, 1) := by decide +kernel
theorem dX10_chart_0 : decode cX10_chart 0 = .ok (.iload_n 1, 1) := by decide +kernel
theorem dX10_chart_1 : decode cX10_chart 1 = .ok (.iconst (-1), 1) := by decide +kernel
theorem dX10_chart_2 : decode cX10_chart 2 = .ok (.if_icmp .ge 5, 3) := by decide +kernel
theorem dX10_chart_5 : decode cX10_chart 5 = .ok (.iconst (-1), 1) := by decide +kernel
theorem dX10_chart_6 : decode cX10_chart 6 = .ok (.ireturn, 1) := by decide +kernel
theorem dX10_chart_7 : decode cX10_chart 7 = .ok (.aload_n 0, 1) := by decide +kernel
theorem dX10_chart_8 : decode cX10_chart 8 = .ok (.invokevirtual 244, 3) := by decide +kernel
theorem dX10_chart_11 : decode cX10_chart 11 = .ok (.istore_n 2, 1) := by decide +kernel
theorem dX10_chart_12 : decode cX10_chart 12 = .ok (.iload_n 2, 1) := by decide +kernel
theorem dX10_chart_13 : decode cX10_chart 13 = .ok (.ifCond .ge 5, 3) := by decide +kernel
theorem dX10_chart_16 : decode cX10_chart 16 = .ok (.iload_n 2, 1) := by decide +kernel
theorem dX10_chart_17 : decode cX10_chart 17 = .ok (.ireturn, 1) := by decide +kernel
theorem dX10_chart_18 : decode cX10_chart 18 = .ok (.iconst 5, 1) := by decide +kernel
theorem dX10_chart_19 : decode cX10_chart 19 = .ok (.aload_n 0, 1) := by decide +kernel
theorem dX10_chart_20 : decode cX10_chart 20 = .ok (.getfield 195, 3) := by decide +kernel
theorem dX10_chart_23 : decode cX10_chart 23 = .ok (.iconst 1, 1) := by decide +kernel
theorem dX10_chart_24 : decode cX10_chart 24 = .ok (.iadd, 1) := by decide +kernel
theorem dX10_chart_25 : decode cX10_chart 25 = .ok (.imul, 1) := by decide +kernel
theorem dX10_chart_26 : decode cX10_chart 26 = .ok (.istore_n 3, 1) := by decide +kernel
theorem dX10_chart_27 : decode cX10_chart 27 = .ok (.iload_n 1, 1) := by decide +kernel
theorem dX10_chart_28 : decode cX10_chart 28 = .ok (.ifCond .ge 7, 3) := by decide +kernel
theorem dX10_chart_31 : decode cX10_chart 31 = .ok (.iload_n 3, 1) := by decide +kernel
theorem dX10_chart_32 : decode cX10_chart 32 = .ok (.goto 33, 3) := by decide +kernel
theorem dX10_chart_35 : decode cX10_chart 35 = .ok (.iload_n 1, 1) := by decide +kernel
theorem dX10_chart_36 : decode cX10_chart 36 = .ok (.iload_n 3, 1) := by decide +kernel
theorem dX10_chart_37 : decode cX10_chart 37 = .ok (.if_icmp .ge 26, 3) := by decide +kernel
theorem dX10_chart_40 : decode cX10_chart 40 = .ok (.aload_n 0, 1) := by decide +kernel
theorem dX10_chart_41 : decode cX10_chart 41 = .ok (.iload_n 1, 1) := by decide +kernel
theorem dX10_chart_42 : decode cX10_chart 42 = .ok (.aload_n 0, 1) := by decide +kernel
theorem dX10_chart_43 : decode cX10_chart 43 = .ok (.getfield 195, 3) := by decide +kernel
theorem dX10_chart_46 : decode cX10_chart 46 = .ok (.iconst 1, 1) := by decide +kernel
theorem dX10_chart_47 : decode cX10_chart 47 = .ok (.iadd, 1) := by decide +kernel
theorem dX10_chart_48 : decode cX10_chart 48 = .ok (.idiv, 1) := by decide +kernel
theorem dX10_chart_49 : decode cX10_chart 49 = .ok (.iload_n 1, 1) := by decide +kernel
theorem dX10_chart_50 : decode cX10_chart 50 = .ok (.aload_n 0, 1) := by decide +kernel
theorem dX10_chart_51 : decode cX10_chart 51 = .ok (.getfield 195, 3) := by decide +kernel
theorem dX10_chart_54 : decode cX10_chart 54 = .ok (.iconst 1, 1) := by decide +kernel
theorem dX10_chart_55 : decode cX10_chart 55 = .ok (.iadd, 1) := by decide +kernel
theorem dX10_chart_56 : decode cX10_chart 56 = .ok (.irem, 1) := by decide +kernel
theorem dX10_chart_57 : decode cX10_chart 57 = .ok (.invokevirtual 371, 3) := by decide +kernel
theorem dX10_chart_60 : decode cX10_chart 60 = .ok (.goto 5, 3) := by decide +kernel
theorem dX10_chart_63 : decode cX10_chart 63 = .ok (.bipush (-2), 2) := by decide +kernel
theorem dX10_chart_65 : decode cX10_chart 65 = .ok (.ireturn, 1) := by decide +kernel
theorem dX10_passes_0 : decode cX10_passes 0 = .ok (.aload_n 0, 1) := by decide +kernel
theorem dX10_passes_1 : decode cX10_passes 1 = .ok (.getfield 374, 3) := by decide +kernel
theorem dX10_passes_4 : decode cX10_passes 4 = .ok (.ifCond .eq 7, 3) := by decide +kernel
theorem dX10_passes_7 : decode cX10_passes 7 = .ok (.iload_n 1, 1) := by decide +kernel
theorem dX10_passes_8 : decode cX10_passes 8 = .ok (.goto 12, 3) := by decide +kernel
theorem dX10_passes_11 : decode cX10_passes 11 = .ok (.aload_n 0, 1) := by decide +kernel
theorem dX10_passes_12 : decode cX10_passes 12 = .ok (.getfield 102, 3) := by decide +kernel
theorem dX10_passes_15 : decode cX10_passes 15 = .ok (.aload_n 0, 1) := by decide +kernel
theorem dX10_passes_16 : decode cX10_passes 16 = .ok (.getfield 377, 3) := by decide +kernel
theorem dX10_passes_19 : decode cX10_passes 19 = .ok (.iaload, 1) := by decide +kernel
theorem dX10_passes_20 : decode cX10_passes 20 = .ok (.istore_n 2, 1) := by decide +kernel
theorem dX10_passes_21 : decode cX10_passes 21 = .ok (.aload_n 0, 1) := by decide +kernel
theorem dX10_passes_22 : decode cX10_passes 22 = .ok (.getfield 102, 3) := by decide +kernel
theorem dX10_passes_25 : decode cX10_passes 25 = .ok (.aload_n 0, 1) := by decide +kernel
theorem dX10_passes_26 : decode cX10_passes 26 = .ok (.getfield 377, 3) := by decide +kernel
theorem dX10_passes_29 : decode cX10_passes 29 = .ok (.iload_n 2, 1) := by decide +kernel
theorem dX10_passes_30 : decode cX10_passes 30 = .ok (.iastore, 1) := by decide +kernel
theorem dX10_passes_31 : decode cX10_passes 31 = .ok (.aload_n 0, 1) := by decide +kernel
theorem dX10_passes_32 : decode cX10_passes 32 = .ok (.dup, 1) := by decide +kernel
theorem dX10_passes_33 : decode cX10_passes 33 = .ok (.getfield 377, 3) := by decide +kernel
theorem dX10_passes_36 : decode cX10_passes 36 = .ok (.iconst 1, 1) := by decide +kernel
theorem dX10_passes_37 : decode cX10_passes 37 = .ok (.iadd, 1) := by decide +kernel
theorem dX10_passes_38 : decode cX10_passes 38 = .ok (.putfield 377, 3) := by decide +kernel
theorem dX10_passes_41 : decode cX10_passes 41 = .ok (.iload_n 2, 1) := by decide +kernel
theorem dX10_passes_42 : decode cX10_passes 42 = .ok (.ireturn, 1) := by decide +kernel
theorem dX10_passesRow_0 : decode cX10_passesRow 0 = .ok (.iconst 0, 1) := by decide +kernel
theorem dX10_passesRow_1 : decode cX10_passesRow 1 = .ok (.istore_n 2, 1) := by decide +kernel
theorem dX10_passesRow_2 : decode cX10_passesRow 2 = .ok (.iload_n 2, 1) := by decide +kernel
theorem dX10_passesRow_3 : decode cX10_passesRow 3 = .ok (.aload_n 1, 1) := by decide +kernel
theorem dX10_passesRow_4 : decode cX10_passesRow 4 = .ok (.arraylength, 1) := by decide +kernel
theorem dX10_passesRow_5 : decode cX10_passesRow 5 = .ok (.if_icmp .ge 19, 3) := by decide +kernel
theorem dX10_passesRow_8 : decode cX10_passesRow 8 = .ok (.aload_n 1, 1) := by decide +kernel
theorem dX10_passesRow_9 : decode cX10_passesRow 9 = .ok (.iload_n 2, 1) := by decide +kernel
theorem dX10_passesRow_10 : decode cX10_passesRow 10 = .ok (.aload_n 0, 1) := by decide +kernel
theorem dX10_passesRow_11 : decode cX10_passesRow 11 = .ok (.aload_n 1, 1) := by decide +kernel
theorem dX10_passesRow_12 : decode cX10_passesRow 12 = .ok (.iload_n 2, 1) := by decide +kernel
theorem dX10_passesRow_13 : decode cX10_passesRow 13 = .ok (.iaload, 1) := by decide +kernel
theorem dX10_passesRow_14 : decode cX10_passesRow 14 = .ok (.invokevirtual 380, 3) := by decide +kernel
theorem dX10_passesRow_17 : decode cX10_passesRow 17 = .ok (.iastore, 1) := by decide +kernel
theorem dX10_passesRow_18 : decode cX10_passesRow 18 = .ok (.iinc 2 1, 3) := by decide +kernel
theorem dX10_passesRow_21 : decode cX10_passesRow 21 = .ok (.goto (-19), 3) := by decide +kernel
theorem dX10_passesRow_24 : decode cX10_passesRow 24 = .ok (.return_, 1) := by decide +kernel
theorem dX10_passesAll_0 : decode cX10_passesAll 0 = .ok (.aload_n 0, 1) := by decide +kernel
theorem dX10_passesAll_1 : decode cX10_passesAll 1 = .ok (.iload_n 1, 1) := by decide +kernel
theorem dX10_passesAll_2 : decode cX10_passesAll 2 = .ok (.putfield 374, 3) := by decide +kernel
theorem dX10_passesAll_5 : decode cX10_passesAll 5 = .ok (.aload_n 0, 1) := by decide +kernel
theorem dX10_passesAll_6 : decode cX10_passesAll 6 = .ok (.iconst 0, 1) := by decide +kernel
theorem dX10_passesAll_7 : decode cX10_passesAll 7 = .ok (.putfield 377, 3) := by decide +kernel
theorem dX10_passesAll_10 : decode cX10_passesAll 10 = .ok (.aload_n 0, 1) := by decide +kernel
theorem dX10_passesAll_11 : decode cX10_passesAll 11 = .ok (.aload_n 0, 1) := by decide +kernel
theorem dX10_passesAll_12 : decode cX10_passesAll 12 = .ok (.aload_n 0, 1) := by decide +kernel
theorem dX10_passesAll_13 : decode cX10_passesAll 13 = .ok (.getfield 150, 3) := by decide +kernel
theorem dX10_passesAll_16 : decode cX10_passesAll 16 = .ok (.invokevirtual 380, 3) := by decide +kernel
theorem dX10_passesAll_19 : decode cX10_passesAll 19 = .ok (.putfield 150, 3) := by decide +kernel
theorem dX10_passesAll_22 : decode cX10_passesAll 22 = .ok (.aload_n 0, 1) := by decide +kernel
theorem dX10_passesAll_23 : decode cX10_passesAll 23 = .ok (.aload_n 0, 1) := by decide +kernel
theorem dX10_passesAll_24 : decode cX10_passesAll 24 = .ok (.aload_n 0, 1) := by decide +kernel
theorem dX10_passesAll_25 : decode cX10_passesAll 25 = .ok (.getfield 105, 3) := by decide +kernel
theorem dX10_passesAll_28 : decode cX10_passesAll 28 = .ok (.invokevirtual 380, 3) := by decide +kernel
theorem dX10_passesAll_31 : decode cX10_passesAll 31 = .ok (.putfield 105, 3) := by decide +kernel
theorem dX10_passesAll_34 : decode cX10_passesAll 34 = .ok (.aload_n 0, 1) := by decide +kernel
theorem dX10_passesAll_35 : decode cX10_passesAll 35 = .ok (.aload_n 0, 1) := by decide +kernel
theorem dX10_passesAll_36 : decode cX10_passesAll 36 = .ok (.getfield 25, 3) := by decide +kernel
theorem dX10_passesAll_39 : decode cX10_passesAll 39 = .ok (.invokevirtual 383, 3) := by decide +kernel
theorem dX10_passesAll_42 : decode cX10_passesAll 42 = .ok (.aload_n 0, 1) := by decide +kernel
theorem dX10_passesAll_43 : decode cX10_passesAll 43 = .ok (.aload_n 0, 1) := by decide +kernel
theorem dX10_passesAll_44 : decode cX10_passesAll 44 = .ok (.getfield 9, 3) := by decide +kernel
theorem dX10_passesAll_47 : decode cX10_passesAll 47 = .ok (.invokevirtual 383, 3) := by decide +kernel
theorem dX10_passesAll_50 : decode cX10_passesAll 50 = .ok (.aload_n 0, 1) := by decide +kernel
theorem dX10_passesAll_51 : decode cX10_passesAll 51 = .ok (.aload_n 0, 1) := by decide +kernel
theorem dX10_passesAll_52 : decode cX10_passesAll 52 = .ok (.getfield 13, 3) := by decide +kernel
theorem dX10_passesAll_55 : decode cX10_passesAll 55 = .ok (.invokevirtual 383, 3) := by decide +kernel
theorem dX10_passesAll_58 : decode cX10_passesAll 58 = .ok (.aload_n 0, 1) := by decide +kernel
theorem dX10_passesAll_59 : decode cX10_passesAll 59 = .ok (.aload_n 0, 1) := by decide +kernel
theorem dX10_passesAll_60 : decode cX10_passesAll 60 = .ok (.getfield 16, 3) := by decide +kernel
theorem dX10_passesAll_63 : decode cX10_passesAll 63 = .ok (.invokevirtual 383, 3) := by decide +kernel
theorem dX10_passesAll_66 : decode cX10_passesAll 66 = .ok (.aload_n 0, 1) := by decide +kernel
theorem dX10_passesAll_67 : decode cX10_passesAll 67 = .ok (.aload_n 0, 1) := by decide +kernel
theorem dX10_passesAll_68 : decode cX10_passesAll 68 = .ok (.getfield 19, 3) := by decide +kernel
theorem dX10_passesAll_71 : decode cX10_passesAll 71 = .ok (.invokevirtual 383, 3) := by decide +kernel
theorem dX10_passesAll_74 : decode cX10_passesAll 74 = .ok (.aload_n 0, 1) := by decide +kernel
theorem dX10_passesAll_75 : decode cX10_passesAll 75 = .ok (.aload_n 0, 1) := by decide +kernel
theorem dX10_passesAll_76 : decode cX10_passesAll 76 = .ok (.getfield 22, 3) := by decide +kernel
theorem dX10_passesAll_79 : decode cX10_passesAll 79 = .ok (.invokevirtual 383, 3) := by decide +kernel
theorem dX10_passesAll_82 : decode cX10_passesAll 82 = .ok (.return_, 1) := by decide +kernel
theorem dX10_image_0 : decode cX10_image 0 = .ok (.aload_n 0, 1) := by decide +kernel
theorem dX10_image_1 : decode cX10_image 1 = .ok (.getfield 105, 3) := by decide +kernel
theorem dX10_image_4 : decode cX10_image 4 = .ok (.ifCond .ne 6, 3) := by decide +kernel
theorem dX10_image_7 : decode cX10_image 7 = .ok (.bipush (-5), 2) := by decide +kernel
theorem dX10_image_9 : decode cX10_image 9 = .ok (.ireturn, 1) := by decide +kernel
theorem dX10_image_10 : decode cX10_image 10 = .ok (.aload_n 0, 1) := by decide +kernel
theorem dX10_image_11 : decode cX10_image 11 = .ok (.iconst 1, 1) := by decide +kernel
theorem dX10_image_12 : decode cX10_image 12 = .ok (.putfield 387, 3) := by decide +kernel
theorem dX10_image_15 : decode cX10_image 15 = .ok (.aload_n 0, 1) := by decide +kernel
theorem dX10_image_16 : decode cX10_image 16 = .ok (.iconst 1, 1) := by decide +kernel
theorem dX10_image_17 : decode cX10_image 17 = .ok (.invokevirtual 390, 3) := by decide +kernel
theorem dX10_image_20 : decode cX10_image 20 = .ok (.aload_n 0, 1) := by decide +kernel
theorem dX10_image_21 : decode cX10_image 21 = .ok (.getfield 105, 3) := by decide +kernel
theorem dX10_image_24 : decode cX10_image 24 = .ok (.ireturn, 1) := by decide +kernel
theorem dX10_back_0 : decode cX10_back 0 = .ok (.aload_n 0, 1) := by decide +kernel
theorem dX10_back_1 : decode cX10_back 1 = .ok (.getfield 387, 3) := by decide +kernel
theorem dX10_back_4 : decode cX10_back 4 = .ok (.ifCond .ne 6, 3) := by decide +kernel
theorem dX10_back_7 : decode cX10_back 7 = .ok (.bipush (-5), 2) := by decide +kernel
theorem dX10_back_9 : decode cX10_back 9 = .ok (.ireturn, 1) := by decide +kernel
theorem dX10_back_10 : decode cX10_back 10 = .ok (.aload_n 0, 1) := by decide +kernel
theorem dX10_back_11 : decode cX10_back 11 = .ok (.iconst 0, 1) := by decide +kernel
theorem dX10_back_12 : decode cX10_back 12 = .ok (.invokevirtual 390, 3) := by decide +kernel
theorem dX10_back_15 : decode cX10_back 15 = .ok (.aload_n 0, 1) := by decide +kernel
theorem dX10_back_16 : decode cX10_back 16 = .ok (.invokevirtual 156, 3) := by decide +kernel
theorem dX10_back_19 : decode cX10_back 19 = .ok (.aload_n 0, 1) := by decide +kernel
theorem dX10_back_20 : decode cX10_back 20 = .ok (.getfield 105, 3) := by decide +kernel
theorem dX10_back_23 : decode cX10_back 23 = .ok (.ireturn, 1) := by decide +kernel
theorem dX10_count_0 : decode cX10_count 0 = .ok (.iload_n 1, 1) := by decide +kernel
theorem dX10_count_1 : decode cX10_count 1 = .ok (.tableswitch 69 0 5 #[39, 44, 49, 54, 59, 64], 39) := by decide +kernel
theorem dX10_count_40 : decode cX10_count 40 = .ok (.aload_n 0, 1) := by decide +kernel
theorem dX10_count_41 : decode cX10_count 41 = .ok (.getfield 150, 3) := by decide +kernel
theorem dX10_count_44 : decode cX10_count 44 = .ok (.ireturn, 1) := by decide +kernel
theorem dX10_count_45 : decode cX10_count 45 = .ok (.aload_n 0, 1) := by decide +kernel
theorem dX10_count_46 : decode cX10_count 46 = .ok (.getfield 105, 3) := by decide +kernel
theorem dX10_count_49 : decode cX10_count 49 = .ok (.ireturn, 1) := by decide +kernel
theorem dX10_count_50 : decode cX10_count 50 = .ok (.aload_n 0, 1) := by decide +kernel
theorem dX10_count_51 : decode cX10_count 51 = .ok (.getfield 112, 3) := by decide +kernel
theorem dX10_count_54 : decode cX10_count 54 = .ok (.ireturn, 1) := by decide +kernel
theorem dX10_count_55 : decode cX10_count 55 = .ok (.aload_n 0, 1) := by decide +kernel
theorem dX10_count_56 : decode cX10_count 56 = .ok (.getfield 159, 3) := by decide +kernel
theorem dX10_count_59 : decode cX10_count 59 = .ok (.ireturn, 1) := by decide +kernel
theorem dX10_count_60 : decode cX10_count 60 = .ok (.aload_n 0, 1) := by decide +kernel
theorem dX10_count_61 : decode cX10_count 61 = .ok (.getfield 162, 3) := by decide +kernel
theorem dX10_count_64 : decode cX10_count 64 = .ok (.ireturn, 1) := by decide +kernel
theorem dX10_count_65 : decode cX10_count 65 = .ok (.aload_n 0, 1) := by decide +kernel
theorem dX10_count_66 : decode cX10_count 66 = .ok (.getfield 299, 3) := by decide +kernel
theorem dX10_count_69 : decode cX10_count 69 = .ok (.ireturn, 1) := by decide +kernel
theorem dX10_count_70 : decode cX10_count 70 = .ok (.iconst (-1), 1) := by decide +kernel
theorem dX10_count_71 : decode cX10_count 71 = .ok (.ireturn, 1) := by decide +kernel
theorem dL_law_0 : decode cL_law 0 = .ok (.new 7, 3) := by decide +kernel
theorem dL_law_3 : decode cL_law 3 = .ok (.dup, 1) := by decide +kernel
theorem dL_law_4 : decode cL_law 4 = .ok (.invokespecial 9, 3) := by decide +kernel
theorem dL_law_7 : decode cL_law 7 = .ok (.astore_n 1, 1) := by decide +kernel
theorem dL_law_8 : decode cL_law 8 = .ok (.new 10, 3) := by decide +kernel
theorem dL_law_11 : decode cL_law 11 = .ok (.dup, 1) := by decide +kernel
theorem dL_law_12 : decode cL_law 12 = .ok (.invokespecial 12, 3) := by decide +kernel
theorem dL_law_15 : decode cL_law 15 = .ok (.astore_n 2, 1) := by decide +kernel
theorem dL_law_16 : decode cL_law 16 = .ok (.iconst 0, 1) := by decide +kernel
theorem dL_law_17 : decode cL_law 17 = .ok (.istore_n 3, 1) := by decide +kernel
theorem dL_law_18 : decode cL_law 18 = .ok (.iload_n 3, 1) := by decide +kernel
theorem dL_law_19 : decode cL_law 19 = .ok (.aload_n 0, 1) := by decide +kernel
theorem dL_law_20 : decode cL_law 20 = .ok (.arraylength, 1) := by decide +kernel
theorem dL_law_21 : decode cL_law 21 = .ok (.iconst 3, 1) := by decide +kernel
theorem dL_law_22 : decode cL_law 22 = .ok (.isub, 1) := by decide +kernel
theorem dL_law_23 : decode cL_law 23 = .ok (.if_icmp .gt 750, 3) := by decide +kernel
theorem dL_law_26 : decode cL_law 26 = .ok (.aload_n 0, 1) := by decide +kernel
theorem dL_law_27 : decode cL_law 27 = .ok (.iload_n 3, 1) := by decide +kernel
theorem dL_law_28 : decode cL_law 28 = .ok (.iaload, 1) := by decide +kernel
theorem dL_law_29 : decode cL_law 29 = .ok (.bipush 31, 2) := by decide +kernel
theorem dL_law_31 : decode cL_law 31 = .ok (.iand, 1) := by decide +kernel
theorem dL_law_32 : decode cL_law 32 = .ok (.tableswitch 735 0 26 #[124, 147, 160, 193, 226, 259, 272, 305, 328, 351, 374, 407, 430, 453, 476, 499, 522, 545, 568, 601, 614, 637, 660, 673, 686, 699, 712], 124) := by decide +kernel
theorem dL_law_156 : decode cL_law 156 = .ok (.aload_n 1, 1) := by decide +kernel
theorem dL_law_157 : decode cL_law 157 = .ok (.aload_n 0, 1) := by decide +kernel
theorem dL_law_158 : decode cL_law 158 = .ok (.iload_n 3, 1) := by decide +kernel
theorem dL_law_159 : decode cL_law 159 = .ok (.iconst 1, 1) := by decide +kernel
theorem dL_law_160 : decode cL_law 160 = .ok (.iadd, 1) := by decide +kernel
theorem dL_law_161 : decode cL_law 161 = .ok (.iaload, 1) := by decide +kernel
theorem dL_law_162 : decode cL_law 162 = .ok (.invokevirtual 13, 3) := by decide +kernel
theorem dL_law_165 : decode cL_law 165 = .ok (.aload_n 2, 1) := by decide +kernel
theorem dL_law_166 : decode cL_law 166 = .ok (.aload_n 0, 1) := by decide +kernel
theorem dL_law_167 : decode cL_law 167 = .ok (.iload_n 3, 1) := by decide +kernel
theorem dL_law_168 : decode cL_law 168 = .ok (.iconst 1, 1) := by decide +kernel
theorem dL_law_169 : decode cL_law 169 = .ok (.iadd, 1) := by decide +kernel
theorem dL_law_170 : decode cL_law 170 = .ok (.iaload, 1) := by decide +kernel
theorem dL_law_171 : decode cL_law 171 = .ok (.invokevirtual 17, 3) := by decide +kernel
theorem dL_law_174 : decode cL_law 174 = .ok (.if_icmp .eq 593, 3) := by decide +kernel
theorem dL_law_177 : decode cL_law 177 = .ok (.iconst 0, 1) := by decide +kernel
theorem dL_law_178 : decode cL_law 178 = .ok (.ireturn, 1) := by decide +kernel
theorem dL_law_179 : decode cL_law 179 = .ok (.aload_n 1, 1) := by decide +kernel
theorem dL_law_180 : decode cL_law 180 = .ok (.invokevirtual 18, 3) := by decide +kernel
theorem dL_law_183 : decode cL_law 183 = .ok (.aload_n 2, 1) := by decide +kernel
theorem dL_law_184 : decode cL_law 184 = .ok (.invokevirtual 22, 3) := by decide +kernel
theorem dL_law_187 : decode cL_law 187 = .ok (.if_icmp .eq 580, 3) := by decide +kernel
theorem dL_law_190 : decode cL_law 190 = .ok (.iconst 0, 1) := by decide +kernel
theorem dL_law_191 : decode cL_law 191 = .ok (.ireturn, 1) := by decide +kernel
theorem dL_law_192 : decode cL_law 192 = .ok (.aload_n 1, 1) := by decide +kernel
theorem dL_law_193 : decode cL_law 193 = .ok (.aload_n 0, 1) := by decide +kernel
theorem dL_law_194 : decode cL_law 194 = .ok (.iload_n 3, 1) := by decide +kernel
theorem dL_law_195 : decode cL_law 195 = .ok (.iconst 1, 1) := by decide +kernel
theorem dL_law_196 : decode cL_law 196 = .ok (.iadd, 1) := by decide +kernel
theorem dL_law_197 : decode cL_law 197 = .ok (.iaload, 1) := by decide +kernel
theorem dL_law_198 : decode cL_law 198 = .ok (.aload_n 0, 1) := by decide +kernel
theorem dL_law_199 : decode cL_law 199 = .ok (.iload_n 3, 1) := by decide +kernel
theorem dL_law_200 : decode cL_law 200 = .ok (.iconst 2, 1) := by decide +kernel
theorem dL_law_201 : decode cL_law 201 = .ok (.iadd, 1) := by decide +kernel
theorem dL_law_202 : decode cL_law 202 = .ok (.iaload, 1) := by decide +kernel
theorem dL_law_203 : decode cL_law 203 = .ok (.invokevirtual 23, 3) := by decide +kernel
theorem dL_law_206 : decode cL_law 206 = .ok (.aload_n 2, 1) := by decide +kernel
theorem dL_law_207 : decode cL_law 207 = .ok (.aload_n 0, 1) := by decide +kernel
theorem dL_law_208 : decode cL_law 208 = .ok (.iload_n 3, 1) := by decide +kernel
theorem dL_law_209 : decode cL_law 209 = .ok (.iconst 1, 1) := by decide +kernel
theorem dL_law_210 : decode cL_law 210 = .ok (.iadd, 1) := by decide +kernel
theorem dL_law_211 : decode cL_law 211 = .ok (.iaload, 1) := by decide +kernel
theorem dL_law_212 : decode cL_law 212 = .ok (.aload_n 0, 1) := by decide +kernel
theorem dL_law_213 : decode cL_law 213 = .ok (.iload_n 3, 1) := by decide +kernel
theorem dL_law_214 : decode cL_law 214 = .ok (.iconst 2, 1) := by decide +kernel
theorem dL_law_215 : decode cL_law 215 = .ok (.iadd, 1) := by decide +kernel
theorem dL_law_216 : decode cL_law 216 = .ok (.iaload, 1) := by decide +kernel
theorem dL_law_217 : decode cL_law 217 = .ok (.invokevirtual 27, 3) := by decide +kernel
theorem dL_law_220 : decode cL_law 220 = .ok (.if_icmp .eq 547, 3) := by decide +kernel
theorem dL_law_223 : decode cL_law 223 = .ok (.iconst 0, 1) := by decide +kernel
theorem dL_law_224 : decode cL_law 224 = .ok (.ireturn, 1) := by decide +kernel
theorem dL_law_225 : decode cL_law 225 = .ok (.aload_n 1, 1) := by decide +kernel
theorem dL_law_226 : decode cL_law 226 = .ok (.aload_n 0, 1) := by decide +kernel
theorem dL_law_227 : decode cL_law 227 = .ok (.iload_n 3, 1) := by decide +kernel
theorem dL_law_228 : decode cL_law 228 = .ok (.iconst 1, 1) := by decide +kernel
theorem dL_law_229 : decode cL_law 229 = .ok (.iadd, 1) := by decide +kernel
theorem dL_law_230 : decode cL_law 230 = .ok (.iaload, 1) := by decide +kernel
theorem dL_law_231 : decode cL_law 231 = .ok (.aload_n 0, 1) := by decide +kernel
theorem dL_law_232 : decode cL_law 232 = .ok (.iload_n 3, 1) := by decide +kernel
theorem dL_law_233 : decode cL_law 233 = .ok (.iconst 2, 1) := by decide +kernel
theorem dL_law_234 : decode cL_law 234 = .ok (.iadd, 1) := by decide +kernel
theorem dL_law_235 : decode cL_law 235 = .ok (.iaload, 1) := by decide +kernel
theorem dL_law_236 : decode cL_law 236 = .ok (.invokevirtual 28, 3) := by decide +kernel
theorem dL_law_239 : decode cL_law 239 = .ok (.aload_n 2, 1) := by decide +kernel
theorem dL_law_240 : decode cL_law 240 = .ok (.aload_n 0, 1) := by decide +kernel
theorem dL_law_241 : decode cL_law 241 = .ok (.iload_n 3, 1) := by decide +kernel
theorem dL_law_242 : decode cL_law 242 = .ok (.iconst 1, 1) := by decide +kernel
theorem dL_law_243 : decode cL_law 243 = .ok (.iadd, 1) := by decide +kernel
theorem dL_law_244 : decode cL_law 244 = .ok (.iaload, 1) := by decide +kernel
theorem dL_law_245 : decode cL_law 245 = .ok (.aload_n 0, 1) := by decide +kernel
theorem dL_law_246 : decode cL_law 246 = .ok (.iload_n 3, 1) := by decide +kernel
theorem dL_law_247 : decode cL_law 247 = .ok (.iconst 2, 1) := by decide +kernel
theorem dL_law_248 : decode cL_law 248 = .ok (.iadd, 1) := by decide +kernel
theorem dL_law_249 : decode cL_law 249 = .ok (.iaload, 1) := by decide +kernel
theorem dL_law_250 : decode cL_law 250 = .ok (.invokevirtual 31, 3) := by decide +kernel
theorem dL_law_253 : decode cL_law 253 = .ok (.if_icmp .eq 514, 3) := by decide +kernel
theorem dL_law_256 : decode cL_law 256 = .ok (.iconst 0, 1) := by decide +kernel
theorem dL_law_257 : decode cL_law 257 = .ok (.ireturn, 1) := by decide +kernel
theorem dL_law_258 : decode cL_law 258 = .ok (.aload_n 1, 1) := by decide +kernel
theorem dL_law_259 : decode cL_law 259 = .ok (.aload_n 0, 1) := by decide +kernel
theorem dL_law_260 : decode cL_law 260 = .ok (.iload_n 3, 1) := by decide +kernel
theorem dL_law_261 : decode cL_law 261 = .ok (.iconst 1, 1) := by decide +kernel
theorem dL_law_262 : decode cL_law 262 = .ok (.iadd, 1) := by decide +kernel
theorem dL_law_263 : decode cL_law 263 = .ok (.iaload, 1) := by decide +kernel
theorem dL_law_264 : decode cL_law 264 = .ok (.aload_n 0, 1) := by decide +kernel
theorem dL_law_265 : decode cL_law 265 = .ok (.iload_n 3, 1) := by decide +kernel
theorem dL_law_266 : decode cL_law 266 = .ok (.iconst 2, 1) := by decide +kernel
theorem dL_law_267 : decode cL_law 267 = .ok (.iadd, 1) := by decide +kernel
theorem dL_law_268 : decode cL_law 268 = .ok (.iaload, 1) := by decide +kernel
theorem dL_law_269 : decode cL_law 269 = .ok (.invokevirtual 32, 3) := by decide +kernel
theorem dL_law_272 : decode cL_law 272 = .ok (.aload_n 2, 1) := by decide +kernel
theorem dL_law_273 : decode cL_law 273 = .ok (.aload_n 0, 1) := by decide +kernel
theorem dL_law_274 : decode cL_law 274 = .ok (.iload_n 3, 1) := by decide +kernel
theorem dL_law_275 : decode cL_law 275 = .ok (.iconst 1, 1) := by decide +kernel
theorem dL_law_276 : decode cL_law 276 = .ok (.iadd, 1) := by decide +kernel
theorem dL_law_277 : decode cL_law 277 = .ok (.iaload, 1) := by decide +kernel
theorem dL_law_278 : decode cL_law 278 = .ok (.aload_n 0, 1) := by decide +kernel
theorem dL_law_279 : decode cL_law 279 = .ok (.iload_n 3, 1) := by decide +kernel
theorem dL_law_280 : decode cL_law 280 = .ok (.iconst 2, 1) := by decide +kernel
theorem dL_law_281 : decode cL_law 281 = .ok (.iadd, 1) := by decide +kernel
theorem dL_law_282 : decode cL_law 282 = .ok (.iaload, 1) := by decide +kernel
theorem dL_law_283 : decode cL_law 283 = .ok (.invokevirtual 35, 3) := by decide +kernel
theorem dL_law_286 : decode cL_law 286 = .ok (.if_icmp .eq 481, 3) := by decide +kernel
theorem dL_law_289 : decode cL_law 289 = .ok (.iconst 0, 1) := by decide +kernel
theorem dL_law_290 : decode cL_law 290 = .ok (.ireturn, 1) := by decide +kernel
theorem dL_law_291 : decode cL_law 291 = .ok (.aload_n 1, 1) := by decide +kernel
theorem dL_law_292 : decode cL_law 292 = .ok (.invokevirtual 36, 3) := by decide +kernel
theorem dL_law_295 : decode cL_law 295 = .ok (.aload_n 2, 1) := by decide +kernel
theorem dL_law_296 : decode cL_law 296 = .ok (.invokevirtual 39, 3) := by decide +kernel
theorem dL_law_299 : decode cL_law 299 = .ok (.if_icmp .eq 468, 3) := by decide +kernel
theorem dL_law_302 : decode cL_law 302 = .ok (.iconst 0, 1) := by decide +kernel
theorem dL_law_303 : decode cL_law 303 = .ok (.ireturn, 1) := by decide +kernel
theorem dL_law_304 : decode cL_law 304 = .ok (.aload_n 1, 1) := by decide +kernel
theorem dL_law_305 : decode cL_law 305 = .ok (.aload_n 0, 1) := by decide +kernel
theorem dL_law_306 : decode cL_law 306 = .ok (.iload_n 3, 1) := by decide +kernel
theorem dL_law_307 : decode cL_law 307 = .ok (.iconst 1, 1) := by decide +kernel
theorem dL_law_308 : decode cL_law 308 = .ok (.iadd, 1) := by decide +kernel
theorem dL_law_309 : decode cL_law 309 = .ok (.iaload, 1) := by decide +kernel
theorem dL_law_310 : decode cL_law 310 = .ok (.aload_n 0, 1) := by decide +kernel
theorem dL_law_311 : decode cL_law 311 = .ok (.iload_n 3, 1) := by decide +kernel
theorem dL_law_312 : decode cL_law 312 = .ok (.iconst 2, 1) := by decide +kernel
theorem dL_law_313 : decode cL_law 313 = .ok (.iadd, 1) := by decide +kernel
theorem dL_law_314 : decode cL_law 314 = .ok (.iaload, 1) := by decide +kernel
theorem dL_law_315 : decode cL_law 315 = .ok (.invokevirtual 40, 3) := by decide +kernel
theorem dL_law_318 : decode cL_law 318 = .ok (.aload_n 2, 1) := by decide +kernel
theorem dL_law_319 : decode cL_law 319 = .ok (.aload_n 0, 1) := by decide +kernel
theorem dL_law_320 : decode cL_law 320 = .ok (.iload_n 3, 1) := by decide +kernel
theorem dL_law_321 : decode cL_law 321 = .ok (.iconst 1, 1) := by decide +kernel
theorem dL_law_322 : decode cL_law 322 = .ok (.iadd, 1) := by decide +kernel
theorem dL_law_323 : decode cL_law 323 = .ok (.iaload, 1) := by decide +kernel
theorem dL_law_324 : decode cL_law 324 = .ok (.aload_n 0, 1) := by decide +kernel
theorem dL_law_325 : decode cL_law 325 = .ok (.iload_n 3, 1) := by decide +kernel
theorem dL_law_326 : decode cL_law 326 = .ok (.iconst 2, 1) := by decide +kernel
theorem dL_law_327 : decode cL_law 327 = .ok (.iadd, 1) := by decide +kernel
theorem dL_law_328 : decode cL_law 328 = .ok (.iaload, 1) := by decide +kernel
theorem dL_law_329 : decode cL_law 329 = .ok (.invokevirtual 43, 3) := by decide +kernel
theorem dL_law_332 : decode cL_law 332 = .ok (.if_icmp .eq 435, 3) := by decide +kernel
theorem dL_law_335 : decode cL_law 335 = .ok (.iconst 0, 1) := by decide +kernel
theorem dL_law_336 : decode cL_law 336 = .ok (.ireturn, 1) := by decide +kernel
theorem dL_law_337 : decode cL_law 337 = .ok (.aload_n 1, 1) := by decide +kernel
theorem dL_law_338 : decode cL_law 338 = .ok (.aload_n 0, 1) := by decide +kernel
theorem dL_law_339 : decode cL_law 339 = .ok (.iload_n 3, 1) := by decide +kernel
theorem dL_law_340 : decode cL_law 340 = .ok (.iconst 1, 1) := by decide +kernel
theorem dL_law_341 : decode cL_law 341 = .ok (.iadd, 1) := by decide +kernel
theorem dL_law_342 : decode cL_law 342 = .ok (.iaload, 1) := by decide +kernel
theorem dL_law_343 : decode cL_law 343 = .ok (.invokevirtual 44, 3) := by decide +kernel
theorem dL_law_346 : decode cL_law 346 = .ok (.aload_n 2, 1) := by decide +kernel
theorem dL_law_347 : decode cL_law 347 = .ok (.aload_n 0, 1) := by decide +kernel
theorem dL_law_348 : decode cL_law 348 = .ok (.iload_n 3, 1) := by decide +kernel
theorem dL_law_349 : decode cL_law 349 = .ok (.iconst 1, 1) := by decide +kernel
theorem dL_law_350 : decode cL_law 350 = .ok (.iadd, 1) := by decide +kernel
theorem dL_law_351 : decode cL_law 351 = .ok (.iaload, 1) := by decide +kernel
theorem dL_law_352 : decode cL_law 352 = .ok (.invokevirtual 47, 3) := by decide +kernel
theorem dL_law_355 : decode cL_law 355 = .ok (.if_icmp .eq 412, 3) := by decide +kernel
theorem dL_law_358 : decode cL_law 358 = .ok (.iconst 0, 1) := by decide +kernel
theorem dL_law_359 : decode cL_law 359 = .ok (.ireturn, 1) := by decide +kernel
theorem dL_law_360 : decode cL_law 360 = .ok (.aload_n 1, 1) := by decide +kernel
theorem dL_law_361 : decode cL_law 361 = .ok (.aload_n 0, 1) := by decide +kernel
theorem dL_law_362 : decode cL_law 362 = .ok (.iload_n 3, 1) := by decide +kernel
theorem dL_law_363 : decode cL_law 363 = .ok (.iconst 1, 1) := by decide +kernel
theorem dL_law_364 : decode cL_law 364 = .ok (.iadd, 1) := by decide +kernel
theorem dL_law_365 : decode cL_law 365 = .ok (.iaload, 1) := by decide +kernel
theorem dL_law_366 : decode cL_law 366 = .ok (.invokevirtual 48, 3) := by decide +kernel
theorem dL_law_369 : decode cL_law 369 = .ok (.aload_n 2, 1) := by decide +kernel
theorem dL_law_370 : decode cL_law 370 = .ok (.aload_n 0, 1) := by decide +kernel
theorem dL_law_371 : decode cL_law 371 = .ok (.iload_n 3, 1) := by decide +kernel
theorem dL_law_372 : decode cL_law 372 = .ok (.iconst 1, 1) := by decide +kernel
theorem dL_law_373 : decode cL_law 373 = .ok (.iadd, 1) := by decide +kernel
theorem dL_law_374 : decode cL_law 374 = .ok (.iaload, 1) := by decide +kernel
theorem dL_law_375 : decode cL_law 375 = .ok (.invokevirtual 51, 3) := by decide +kernel
theorem dL_law_378 : decode cL_law 378 = .ok (.if_icmp .eq 389, 3) := by decide +kernel
theorem dL_law_381 : decode cL_law 381 = .ok (.iconst 0, 1) := by decide +kernel
theorem dL_law_382 : decode cL_law 382 = .ok (.ireturn, 1) := by decide +kernel
theorem dL_law_383 : decode cL_law 383 = .ok (.aload_n 1, 1) := by decide +kernel
theorem dL_law_384 : decode cL_law 384 = .ok (.aload_n 0, 1) := by decide +kernel
theorem dL_law_385 : decode cL_law 385 = .ok (.iload_n 3, 1) := by decide +kernel
theorem dL_law_386 : decode cL_law 386 = .ok (.iconst 1, 1) := by decide +kernel
theorem dL_law_387 : decode cL_law 387 = .ok (.iadd, 1) := by decide +kernel
theorem dL_law_388 : decode cL_law 388 = .ok (.iaload, 1) := by decide +kernel
theorem dL_law_389 : decode cL_law 389 = .ok (.invokevirtual 52, 3) := by decide +kernel
theorem dL_law_392 : decode cL_law 392 = .ok (.aload_n 2, 1) := by decide +kernel
theorem dL_law_393 : decode cL_law 393 = .ok (.aload_n 0, 1) := by decide +kernel
theorem dL_law_394 : decode cL_law 394 = .ok (.iload_n 3, 1) := by decide +kernel
theorem dL_law_395 : decode cL_law 395 = .ok (.iconst 1, 1) := by decide +kernel
theorem dL_law_396 : decode cL_law 396 = .ok (.iadd, 1) := by decide +kernel
theorem dL_law_397 : decode cL_law 397 = .ok (.iaload, 1) := by decide +kernel
theorem dL_law_398 : decode cL_law 398 = .ok (.invokevirtual 55, 3) := by decide +kernel
theorem dL_law_401 : decode cL_law 401 = .ok (.if_icmp .eq 366, 3) := by decide +kernel
theorem dL_law_404 : decode cL_law 404 = .ok (.iconst 0, 1) := by decide +kernel
theorem dL_law_405 : decode cL_law 405 = .ok (.ireturn, 1) := by decide +kernel
theorem dL_law_406 : decode cL_law 406 = .ok (.aload_n 1, 1) := by decide +kernel
theorem dL_law_407 : decode cL_law 407 = .ok (.aload_n 0, 1) := by decide +kernel
theorem dL_law_408 : decode cL_law 408 = .ok (.iload_n 3, 1) := by decide +kernel
theorem dL_law_409 : decode cL_law 409 = .ok (.iconst 1, 1) := by decide +kernel
theorem dL_law_410 : decode cL_law 410 = .ok (.iadd, 1) := by decide +kernel
theorem dL_law_411 : decode cL_law 411 = .ok (.iaload, 1) := by decide +kernel
theorem dL_law_412 : decode cL_law 412 = .ok (.aload_n 0, 1) := by decide +kernel
theorem dL_law_413 : decode cL_law 413 = .ok (.iload_n 3, 1) := by decide +kernel
theorem dL_law_414 : decode cL_law 414 = .ok (.iconst 2, 1) := by decide +kernel
theorem dL_law_415 : decode cL_law 415 = .ok (.iadd, 1) := by decide +kernel
theorem dL_law_416 : decode cL_law 416 = .ok (.iaload, 1) := by decide +kernel
theorem dL_law_417 : decode cL_law 417 = .ok (.invokevirtual 56, 3) := by decide +kernel
theorem dL_law_420 : decode cL_law 420 = .ok (.aload_n 2, 1) := by decide +kernel
theorem dL_law_421 : decode cL_law 421 = .ok (.aload_n 0, 1) := by decide +kernel
theorem dL_law_422 : decode cL_law 422 = .ok (.iload_n 3, 1) := by decide +kernel
theorem dL_law_423 : decode cL_law 423 = .ok (.iconst 1, 1) := by decide +kernel
theorem dL_law_424 : decode cL_law 424 = .ok (.iadd, 1) := by decide +kernel
theorem dL_law_425 : decode cL_law 425 = .ok (.iaload, 1) := by decide +kernel
theorem dL_law_426 : decode cL_law 426 = .ok (.aload_n 0, 1) := by decide +kernel
theorem dL_law_427 : decode cL_law 427 = .ok (.iload_n 3, 1) := by decide +kernel
theorem dL_law_428 : decode cL_law 428 = .ok (.iconst 2, 1) := by decide +kernel
theorem dL_law_429 : decode cL_law 429 = .ok (.iadd, 1) := by decide +kernel
theorem dL_law_430 : decode cL_law 430 = .ok (.iaload, 1) := by decide +kernel
theorem dL_law_431 : decode cL_law 431 = .ok (.invokevirtual 59, 3) := by decide +kernel
theorem dL_law_434 : decode cL_law 434 = .ok (.if_icmp .eq 333, 3) := by decide +kernel
theorem dL_law_437 : decode cL_law 437 = .ok (.iconst 0, 1) := by decide +kernel
theorem dL_law_438 : decode cL_law 438 = .ok (.ireturn, 1) := by decide +kernel
theorem dL_law_439 : decode cL_law 439 = .ok (.aload_n 1, 1) := by decide +kernel
theorem dL_law_440 : decode cL_law 440 = .ok (.aload_n 0, 1) := by decide +kernel
theorem dL_law_441 : decode cL_law 441 = .ok (.iload_n 3, 1) := by decide +kernel
theorem dL_law_442 : decode cL_law 442 = .ok (.iconst 1, 1) := by decide +kernel
theorem dL_law_443 : decode cL_law 443 = .ok (.iadd, 1) := by decide +kernel
theorem dL_law_444 : decode cL_law 444 = .ok (.iaload, 1) := by decide +kernel
theorem dL_law_445 : decode cL_law 445 = .ok (.invokevirtual 60, 3) := by decide +kernel
theorem dL_law_448 : decode cL_law 448 = .ok (.aload_n 2, 1) := by decide +kernel
theorem dL_law_449 : decode cL_law 449 = .ok (.aload_n 0, 1) := by decide +kernel
theorem dL_law_450 : decode cL_law 450 = .ok (.iload_n 3, 1) := by decide +kernel
theorem dL_law_451 : decode cL_law 451 = .ok (.iconst 1, 1) := by decide +kernel
theorem dL_law_452 : decode cL_law 452 = .ok (.iadd, 1) := by decide +kernel
theorem dL_law_453 : decode cL_law 453 = .ok (.iaload, 1) := by decide +kernel
theorem dL_law_454 : decode cL_law 454 = .ok (.invokevirtual 63, 3) := by decide +kernel
theorem dL_law_457 : decode cL_law 457 = .ok (.if_icmp .eq 310, 3) := by decide +kernel
theorem dL_law_460 : decode cL_law 460 = .ok (.iconst 0, 1) := by decide +kernel
theorem dL_law_461 : decode cL_law 461 = .ok (.ireturn, 1) := by decide +kernel
theorem dL_law_462 : decode cL_law 462 = .ok (.aload_n 1, 1) := by decide +kernel
theorem dL_law_463 : decode cL_law 463 = .ok (.aload_n 0, 1) := by decide +kernel
theorem dL_law_464 : decode cL_law 464 = .ok (.iload_n 3, 1) := by decide +kernel
theorem dL_law_465 : decode cL_law 465 = .ok (.iconst 1, 1) := by decide +kernel
theorem dL_law_466 : decode cL_law 466 = .ok (.iadd, 1) := by decide +kernel
theorem dL_law_467 : decode cL_law 467 = .ok (.iaload, 1) := by decide +kernel
theorem dL_law_468 : decode cL_law 468 = .ok (.invokevirtual 64, 3) := by decide +kernel
theorem dL_law_471 : decode cL_law 471 = .ok (.aload_n 2, 1) := by decide +kernel
theorem dL_law_472 : decode cL_law 472 = .ok (.aload_n 0, 1) := by decide +kernel
theorem dL_law_473 : decode cL_law 473 = .ok (.iload_n 3, 1) := by decide +kernel
theorem dL_law_474 : decode cL_law 474 = .ok (.iconst 1, 1) := by decide +kernel
theorem dL_law_475 : decode cL_law 475 = .ok (.iadd, 1) := by decide +kernel
theorem dL_law_476 : decode cL_law 476 = .ok (.iaload, 1) := by decide +kernel
theorem dL_law_477 : decode cL_law 477 = .ok (.invokevirtual 67, 3) := by decide +kernel
theorem dL_law_480 : decode cL_law 480 = .ok (.if_icmp .eq 287, 3) := by decide +kernel
theorem dL_law_483 : decode cL_law 483 = .ok (.iconst 0, 1) := by decide +kernel
theorem dL_law_484 : decode cL_law 484 = .ok (.ireturn, 1) := by decide +kernel
theorem dL_law_485 : decode cL_law 485 = .ok (.aload_n 1, 1) := by decide +kernel
theorem dL_law_486 : decode cL_law 486 = .ok (.aload_n 0, 1) := by decide +kernel
theorem dL_law_487 : decode cL_law 487 = .ok (.iload_n 3, 1) := by decide +kernel
theorem dL_law_488 : decode cL_law 488 = .ok (.iconst 1, 1) := by decide +kernel
theorem dL_law_489 : decode cL_law 489 = .ok (.iadd, 1) := by decide +kernel
theorem dL_law_490 : decode cL_law 490 = .ok (.iaload, 1) := by decide +kernel
theorem dL_law_491 : decode cL_law 491 = .ok (.invokevirtual 68, 3) := by decide +kernel
theorem dL_law_494 : decode cL_law 494 = .ok (.aload_n 2, 1) := by decide +kernel
theorem dL_law_495 : decode cL_law 495 = .ok (.aload_n 0, 1) := by decide +kernel
theorem dL_law_496 : decode cL_law 496 = .ok (.iload_n 3, 1) := by decide +kernel
theorem dL_law_497 : decode cL_law 497 = .ok (.iconst 1, 1) := by decide +kernel
theorem dL_law_498 : decode cL_law 498 = .ok (.iadd, 1) := by decide +kernel
theorem dL_law_499 : decode cL_law 499 = .ok (.iaload, 1) := by decide +kernel
theorem dL_law_500 : decode cL_law 500 = .ok (.invokevirtual 71, 3) := by decide +kernel
theorem dL_law_503 : decode cL_law 503 = .ok (.if_icmp .eq 264, 3) := by decide +kernel
theorem dL_law_506 : decode cL_law 506 = .ok (.iconst 0, 1) := by decide +kernel
theorem dL_law_507 : decode cL_law 507 = .ok (.ireturn, 1) := by decide +kernel
theorem dL_law_508 : decode cL_law 508 = .ok (.aload_n 1, 1) := by decide +kernel
theorem dL_law_509 : decode cL_law 509 = .ok (.aload_n 0, 1) := by decide +kernel
theorem dL_law_510 : decode cL_law 510 = .ok (.iload_n 3, 1) := by decide +kernel
theorem dL_law_511 : decode cL_law 511 = .ok (.iconst 1, 1) := by decide +kernel
theorem dL_law_512 : decode cL_law 512 = .ok (.iadd, 1) := by decide +kernel
theorem dL_law_513 : decode cL_law 513 = .ok (.iaload, 1) := by decide +kernel
theorem dL_law_514 : decode cL_law 514 = .ok (.invokevirtual 72, 3) := by decide +kernel
theorem dL_law_517 : decode cL_law 517 = .ok (.aload_n 2, 1) := by decide +kernel
theorem dL_law_518 : decode cL_law 518 = .ok (.aload_n 0, 1) := by decide +kernel
theorem dL_law_519 : decode cL_law 519 = .ok (.iload_n 3, 1) := by decide +kernel
theorem dL_law_520 : decode cL_law 520 = .ok (.iconst 1, 1) := by decide +kernel
theorem dL_law_521 : decode cL_law 521 = .ok (.iadd, 1) := by decide +kernel
theorem dL_law_522 : decode cL_law 522 = .ok (.iaload, 1) := by decide +kernel
theorem dL_law_523 : decode cL_law 523 = .ok (.invokevirtual 75, 3) := by decide +kernel
theorem dL_law_526 : decode cL_law 526 = .ok (.if_icmp .eq 241, 3) := by decide +kernel
theorem dL_law_529 : decode cL_law 529 = .ok (.iconst 0, 1) := by decide +kernel
theorem dL_law_530 : decode cL_law 530 = .ok (.ireturn, 1) := by decide +kernel
theorem dL_law_531 : decode cL_law 531 = .ok (.aload_n 1, 1) := by decide +kernel
theorem dL_law_532 : decode cL_law 532 = .ok (.aload_n 0, 1) := by decide +kernel
theorem dL_law_533 : decode cL_law 533 = .ok (.iload_n 3, 1) := by decide +kernel
theorem dL_law_534 : decode cL_law 534 = .ok (.iconst 1, 1) := by decide +kernel
theorem dL_law_535 : decode cL_law 535 = .ok (.iadd, 1) := by decide +kernel
theorem dL_law_536 : decode cL_law 536 = .ok (.iaload, 1) := by decide +kernel
theorem dL_law_537 : decode cL_law 537 = .ok (.invokevirtual 76, 3) := by decide +kernel
theorem dL_law_540 : decode cL_law 540 = .ok (.aload_n 2, 1) := by decide +kernel
theorem dL_law_541 : decode cL_law 541 = .ok (.aload_n 0, 1) := by decide +kernel
theorem dL_law_542 : decode cL_law 542 = .ok (.iload_n 3, 1) := by decide +kernel
theorem dL_law_543 : decode cL_law 543 = .ok (.iconst 1, 1) := by decide +kernel
theorem dL_law_544 : decode cL_law 544 = .ok (.iadd, 1) := by decide +kernel
theorem dL_law_545 : decode cL_law 545 = .ok (.iaload, 1) := by decide +kernel
theorem dL_law_546 : decode cL_law 546 = .ok (.invokevirtual 79, 3) := by decide +kernel
theorem dL_law_549 : decode cL_law 549 = .ok (.if_icmp .eq 218, 3) := by decide +kernel
theorem dL_law_552 : decode cL_law 552 = .ok (.iconst 0, 1) := by decide +kernel
theorem dL_law_553 : decode cL_law 553 = .ok (.ireturn, 1) := by decide +kernel
theorem dL_law_554 : decode cL_law 554 = .ok (.aload_n 1, 1) := by decide +kernel
theorem dL_law_555 : decode cL_law 555 = .ok (.aload_n 0, 1) := by decide +kernel
theorem dL_law_556 : decode cL_law 556 = .ok (.iload_n 3, 1) := by decide +kernel
theorem dL_law_557 : decode cL_law 557 = .ok (.iconst 1, 1) := by decide +kernel
theorem dL_law_558 : decode cL_law 558 = .ok (.iadd, 1) := by decide +kernel
theorem dL_law_559 : decode cL_law 559 = .ok (.iaload, 1) := by decide +kernel
theorem dL_law_560 : decode cL_law 560 = .ok (.invokevirtual 80, 3) := by decide +kernel
theorem dL_law_563 : decode cL_law 563 = .ok (.aload_n 2, 1) := by decide +kernel
theorem dL_law_564 : decode cL_law 564 = .ok (.aload_n 0, 1) := by decide +kernel
theorem dL_law_565 : decode cL_law 565 = .ok (.iload_n 3, 1) := by decide +kernel
theorem dL_law_566 : decode cL_law 566 = .ok (.iconst 1, 1) := by decide +kernel
theorem dL_law_567 : decode cL_law 567 = .ok (.iadd, 1) := by decide +kernel
theorem dL_law_568 : decode cL_law 568 = .ok (.iaload, 1) := by decide +kernel
theorem dL_law_569 : decode cL_law 569 = .ok (.invokevirtual 83, 3) := by decide +kernel
theorem dL_law_572 : decode cL_law 572 = .ok (.if_icmp .eq 195, 3) := by decide +kernel
theorem dL_law_575 : decode cL_law 575 = .ok (.iconst 0, 1) := by decide +kernel
theorem dL_law_576 : decode cL_law 576 = .ok (.ireturn, 1) := by decide +kernel
theorem dL_law_577 : decode cL_law 577 = .ok (.aload_n 1, 1) := by decide +kernel
theorem dL_law_578 : decode cL_law 578 = .ok (.aload_n 0, 1) := by decide +kernel
theorem dL_law_579 : decode cL_law 579 = .ok (.iload_n 3, 1) := by decide +kernel
theorem dL_law_580 : decode cL_law 580 = .ok (.iconst 1, 1) := by decide +kernel
theorem dL_law_581 : decode cL_law 581 = .ok (.iadd, 1) := by decide +kernel
theorem dL_law_582 : decode cL_law 582 = .ok (.iaload, 1) := by decide +kernel
theorem dL_law_583 : decode cL_law 583 = .ok (.invokevirtual 84, 3) := by decide +kernel
theorem dL_law_586 : decode cL_law 586 = .ok (.aload_n 2, 1) := by decide +kernel
theorem dL_law_587 : decode cL_law 587 = .ok (.aload_n 0, 1) := by decide +kernel
theorem dL_law_588 : decode cL_law 588 = .ok (.iload_n 3, 1) := by decide +kernel
theorem dL_law_589 : decode cL_law 589 = .ok (.iconst 1, 1) := by decide +kernel
theorem dL_law_590 : decode cL_law 590 = .ok (.iadd, 1) := by decide +kernel
theorem dL_law_591 : decode cL_law 591 = .ok (.iaload, 1) := by decide +kernel
theorem dL_law_592 : decode cL_law 592 = .ok (.invokevirtual 87, 3) := by decide +kernel
theorem dL_law_595 : decode cL_law 595 = .ok (.if_icmp .eq 172, 3) := by decide +kernel
theorem dL_law_598 : decode cL_law 598 = .ok (.iconst 0, 1) := by decide +kernel
theorem dL_law_599 : decode cL_law 599 = .ok (.ireturn, 1) := by decide +kernel
theorem dL_law_600 : decode cL_law 600 = .ok (.aload_n 1, 1) := by decide +kernel
theorem dL_law_601 : decode cL_law 601 = .ok (.aload_n 0, 1) := by decide +kernel
theorem dL_law_602 : decode cL_law 602 = .ok (.iload_n 3, 1) := by decide +kernel
theorem dL_law_603 : decode cL_law 603 = .ok (.iconst 1, 1) := by decide +kernel
theorem dL_law_604 : decode cL_law 604 = .ok (.iadd, 1) := by decide +kernel
theorem dL_law_605 : decode cL_law 605 = .ok (.iaload, 1) := by decide +kernel
theorem dL_law_606 : decode cL_law 606 = .ok (.aload_n 0, 1) := by decide +kernel
theorem dL_law_607 : decode cL_law 607 = .ok (.iload_n 3, 1) := by decide +kernel
theorem dL_law_608 : decode cL_law 608 = .ok (.iconst 2, 1) := by decide +kernel
theorem dL_law_609 : decode cL_law 609 = .ok (.iadd, 1) := by decide +kernel
theorem dL_law_610 : decode cL_law 610 = .ok (.iaload, 1) := by decide +kernel
theorem dL_law_611 : decode cL_law 611 = .ok (.invokevirtual 88, 3) := by decide +kernel
theorem dL_law_614 : decode cL_law 614 = .ok (.aload_n 2, 1) := by decide +kernel
theorem dL_law_615 : decode cL_law 615 = .ok (.aload_n 0, 1) := by decide +kernel
theorem dL_law_616 : decode cL_law 616 = .ok (.iload_n 3, 1) := by decide +kernel
theorem dL_law_617 : decode cL_law 617 = .ok (.iconst 1, 1) := by decide +kernel
theorem dL_law_618 : decode cL_law 618 = .ok (.iadd, 1) := by decide +kernel
theorem dL_law_619 : decode cL_law 619 = .ok (.iaload, 1) := by decide +kernel
theorem dL_law_620 : decode cL_law 620 = .ok (.aload_n 0, 1) := by decide +kernel
theorem dL_law_621 : decode cL_law 621 = .ok (.iload_n 3, 1) := by decide +kernel
theorem dL_law_622 : decode cL_law 622 = .ok (.iconst 2, 1) := by decide +kernel
theorem dL_law_623 : decode cL_law 623 = .ok (.iadd, 1) := by decide +kernel
theorem dL_law_624 : decode cL_law 624 = .ok (.iaload, 1) := by decide +kernel
theorem dL_law_625 : decode cL_law 625 = .ok (.invokevirtual 91, 3) := by decide +kernel
theorem dL_law_628 : decode cL_law 628 = .ok (.if_icmp .eq 139, 3) := by decide +kernel
theorem dL_law_631 : decode cL_law 631 = .ok (.iconst 0, 1) := by decide +kernel
theorem dL_law_632 : decode cL_law 632 = .ok (.ireturn, 1) := by decide +kernel
theorem dL_law_633 : decode cL_law 633 = .ok (.aload_n 1, 1) := by decide +kernel
theorem dL_law_634 : decode cL_law 634 = .ok (.invokevirtual 92, 3) := by decide +kernel
theorem dL_law_637 : decode cL_law 637 = .ok (.aload_n 2, 1) := by decide +kernel
theorem dL_law_638 : decode cL_law 638 = .ok (.invokevirtual 95, 3) := by decide +kernel
theorem dL_law_641 : decode cL_law 641 = .ok (.if_icmp .eq 126, 3) := by decide +kernel
theorem dL_law_644 : decode cL_law 644 = .ok (.iconst 0, 1) := by decide +kernel
theorem dL_law_645 : decode cL_law 645 = .ok (.ireturn, 1) := by decide +kernel
theorem dL_law_646 : decode cL_law 646 = .ok (.aload_n 1, 1) := by decide +kernel
theorem dL_law_647 : decode cL_law 647 = .ok (.aload_n 0, 1) := by decide +kernel
theorem dL_law_648 : decode cL_law 648 = .ok (.iload_n 3, 1) := by decide +kernel
theorem dL_law_649 : decode cL_law 649 = .ok (.iconst 1, 1) := by decide +kernel
theorem dL_law_650 : decode cL_law 650 = .ok (.iadd, 1) := by decide +kernel
theorem dL_law_651 : decode cL_law 651 = .ok (.iaload, 1) := by decide +kernel
theorem dL_law_652 : decode cL_law 652 = .ok (.invokevirtual 96, 3) := by decide +kernel
theorem dL_law_655 : decode cL_law 655 = .ok (.aload_n 2, 1) := by decide +kernel
theorem dL_law_656 : decode cL_law 656 = .ok (.aload_n 0, 1) := by decide +kernel
theorem dL_law_657 : decode cL_law 657 = .ok (.iload_n 3, 1) := by decide +kernel
theorem dL_law_658 : decode cL_law 658 = .ok (.iconst 1, 1) := by decide +kernel
theorem dL_law_659 : decode cL_law 659 = .ok (.iadd, 1) := by decide +kernel
theorem dL_law_660 : decode cL_law 660 = .ok (.iaload, 1) := by decide +kernel
theorem dL_law_661 : decode cL_law 661 = .ok (.invokevirtual 99, 3) := by decide +kernel
theorem dL_law_664 : decode cL_law 664 = .ok (.if_icmp .eq 103, 3) := by decide +kernel
theorem dL_law_667 : decode cL_law 667 = .ok (.iconst 0, 1) := by decide +kernel
theorem dL_law_668 : decode cL_law 668 = .ok (.ireturn, 1) := by decide +kernel
theorem dL_law_669 : decode cL_law 669 = .ok (.aload_n 1, 1) := by decide +kernel
theorem dL_law_670 : decode cL_law 670 = .ok (.aload_n 0, 1) := by decide +kernel
theorem dL_law_671 : decode cL_law 671 = .ok (.iload_n 3, 1) := by decide +kernel
theorem dL_law_672 : decode cL_law 672 = .ok (.iconst 1, 1) := by decide +kernel
theorem dL_law_673 : decode cL_law 673 = .ok (.iadd, 1) := by decide +kernel
theorem dL_law_674 : decode cL_law 674 = .ok (.iaload, 1) := by decide +kernel
theorem dL_law_675 : decode cL_law 675 = .ok (.invokevirtual 100, 3) := by decide +kernel
theorem dL_law_678 : decode cL_law 678 = .ok (.aload_n 2, 1) := by decide +kernel
theorem dL_law_679 : decode cL_law 679 = .ok (.aload_n 0, 1) := by decide +kernel
theorem dL_law_680 : decode cL_law 680 = .ok (.iload_n 3, 1) := by decide +kernel
theorem dL_law_681 : decode cL_law 681 = .ok (.iconst 1, 1) := by decide +kernel
theorem dL_law_682 : decode cL_law 682 = .ok (.iadd, 1) := by decide +kernel
theorem dL_law_683 : decode cL_law 683 = .ok (.iaload, 1) := by decide +kernel
theorem dL_law_684 : decode cL_law 684 = .ok (.invokevirtual 103, 3) := by decide +kernel
theorem dL_law_687 : decode cL_law 687 = .ok (.if_icmp .eq 80, 3) := by decide +kernel
theorem dL_law_690 : decode cL_law 690 = .ok (.iconst 0, 1) := by decide +kernel
theorem dL_law_691 : decode cL_law 691 = .ok (.ireturn, 1) := by decide +kernel
theorem dL_law_692 : decode cL_law 692 = .ok (.aload_n 1, 1) := by decide +kernel
theorem dL_law_693 : decode cL_law 693 = .ok (.invokevirtual 104, 3) := by decide +kernel
theorem dL_law_696 : decode cL_law 696 = .ok (.aload_n 2, 1) := by decide +kernel
theorem dL_law_697 : decode cL_law 697 = .ok (.invokevirtual 107, 3) := by decide +kernel
theorem dL_law_700 : decode cL_law 700 = .ok (.if_icmp .eq 67, 3) := by decide +kernel
theorem dL_law_703 : decode cL_law 703 = .ok (.iconst 0, 1) := by decide +kernel
theorem dL_law_704 : decode cL_law 704 = .ok (.ireturn, 1) := by decide +kernel
theorem dL_law_705 : decode cL_law 705 = .ok (.aload_n 1, 1) := by decide +kernel
theorem dL_law_706 : decode cL_law 706 = .ok (.invokevirtual 108, 3) := by decide +kernel
theorem dL_law_709 : decode cL_law 709 = .ok (.aload_n 2, 1) := by decide +kernel
theorem dL_law_710 : decode cL_law 710 = .ok (.invokevirtual 111, 3) := by decide +kernel
theorem dL_law_713 : decode cL_law 713 = .ok (.if_icmp .eq 54, 3) := by decide +kernel
theorem dL_law_716 : decode cL_law 716 = .ok (.iconst 0, 1) := by decide +kernel
theorem dL_law_717 : decode cL_law 717 = .ok (.ireturn, 1) := by decide +kernel
theorem dL_law_718 : decode cL_law 718 = .ok (.aload_n 1, 1) := by decide +kernel
theorem dL_law_719 : decode cL_law 719 = .ok (.invokevirtual 112, 3) := by decide +kernel
theorem dL_law_722 : decode cL_law 722 = .ok (.aload_n 2, 1) := by decide +kernel
theorem dL_law_723 : decode cL_law 723 = .ok (.invokevirtual 115, 3) := by decide +kernel
theorem dL_law_726 : decode cL_law 726 = .ok (.if_icmp .eq 41, 3) := by decide +kernel
theorem dL_law_729 : decode cL_law 729 = .ok (.iconst 0, 1) := by decide +kernel
theorem dL_law_730 : decode cL_law 730 = .ok (.ireturn, 1) := by decide +kernel
theorem dL_law_731 : decode cL_law 731 = .ok (.aload_n 1, 1) := by decide +kernel
theorem dL_law_732 : decode cL_law 732 = .ok (.invokevirtual 116, 3) := by decide +kernel
theorem dL_law_735 : decode cL_law 735 = .ok (.aload_n 2, 1) := by decide +kernel
theorem dL_law_736 : decode cL_law 736 = .ok (.invokevirtual 119, 3) := by decide +kernel
theorem dL_law_739 : decode cL_law 739 = .ok (.if_icmp .eq 28, 3) := by decide +kernel
theorem dL_law_742 : decode cL_law 742 = .ok (.iconst 0, 1) := by decide +kernel
theorem dL_law_743 : decode cL_law 743 = .ok (.ireturn, 1) := by decide +kernel
theorem dL_law_744 : decode cL_law 744 = .ok (.aload_n 1, 1) := by decide +kernel
theorem dL_law_745 : decode cL_law 745 = .ok (.aload_n 0, 1) := by decide +kernel
theorem dL_law_746 : decode cL_law 746 = .ok (.iload_n 3, 1) := by decide +kernel
theorem dL_law_747 : decode cL_law 747 = .ok (.iconst 1, 1) := by decide +kernel
theorem dL_law_748 : decode cL_law 748 = .ok (.iadd, 1) := by decide +kernel
theorem dL_law_749 : decode cL_law 749 = .ok (.iaload, 1) := by decide +kernel
theorem dL_law_750 : decode cL_law 750 = .ok (.invokevirtual 120, 3) := by decide +kernel
theorem dL_law_753 : decode cL_law 753 = .ok (.aload_n 2, 1) := by decide +kernel
theorem dL_law_754 : decode cL_law 754 = .ok (.aload_n 0, 1) := by decide +kernel
theorem dL_law_755 : decode cL_law 755 = .ok (.iload_n 3, 1) := by decide +kernel
theorem dL_law_756 : decode cL_law 756 = .ok (.iconst 1, 1) := by decide +kernel
theorem dL_law_757 : decode cL_law 757 = .ok (.iadd, 1) := by decide +kernel
theorem dL_law_758 : decode cL_law 758 = .ok (.iaload, 1) := by decide +kernel
theorem dL_law_759 : decode cL_law 759 = .ok (.invokevirtual 123, 3) := by decide +kernel
theorem dL_law_762 : decode cL_law 762 = .ok (.if_icmp .eq 5, 3) := by decide +kernel
theorem dL_law_765 : decode cL_law 765 = .ok (.iconst 0, 1) := by decide +kernel
theorem dL_law_766 : decode cL_law 766 = .ok (.ireturn, 1) := by decide +kernel
theorem dL_law_767 : decode cL_law 767 = .ok (.iinc 3 3, 3) := by decide +kernel
theorem dL_law_770 : decode cL_law 770 = .ok (.goto (-752), 3) := by decide +kernel
theorem dL_law_773 : decode cL_law 773 = .ok (.iconst 1, 1) := by decide +kernel
theorem dL_law_774 : decode cL_law 774 = .ok (.ireturn, 1) := by decide +kernel
end
section
/-! the cells: what each is (arrays: kind, length, first of its rows; objects: class, fields) -/
abbrev aS : Type := (Nat × Nat × Nat) ⊕ (Nat × List (Option Nat))
def a_T : List aS := [
  .inr (9, [some 4, some 6, some 14, some 1, some 22, some 31, some 40, some 44, some 46, some 65, some 71, some 75, some 77, some 2, some 3, none, none]),
  .inl (0, 24, 0),
  .inl (0, 24, 0),
  .inl (0, 24, 0),
  .inr (7, [some 5, none]),
  .inl (0, 140, 0),
  .inr (5, [none, none, some 7, some 8, some 9, some 10, some 11, some 12, some 13]),
  .inl (0, 24, 0),
  .inl (0, 24, 0),
  .inl (0, 24, 0),
  .inl (0, 24, 0),
  .inl (0, 24, 0),
  .inl (0, 24, 0),
  .inl (0, 6, 0),
  .inr (5, [none, none, some 15, some 16, some 17, some 18, some 19, some 20, some 21]),
  .inl (0, 24, 0),
  .inl (0, 24, 0),
  .inl (0, 24, 0),
  .inl (0, 24, 0),
  .inl (0, 24, 0),
  .inl (0, 24, 0),
  .inl (0, 6, 0),
  .inr (8, [some 23, some 24, some 25, some 26, some 27, some 28, some 29, some 30, none, none, none]),
  .inl (0, 24, 0),
  .inl (0, 24, 0),
  .inl (0, 24, 0),
  .inl (0, 24, 0),
  .inl (0, 24, 0),
  .inl (0, 24, 0),
  .inl (0, 24, 0),
  .inl (0, 24, 0),
  .inr (8, [some 32, some 33, some 34, some 35, some 36, some 37, some 38, some 39, none, none, none]),
  .inl (0, 24, 0),
  .inl (0, 24, 0),
  .inl (0, 24, 0),
  .inl (0, 24, 0),
  .inl (0, 24, 0),
  .inl (0, 24, 0),
  .inl (0, 24, 0),
  .inl (0, 24, 0),
  .inr (6, [some 41, none, some 42, none, some 43, none]),
  .inl (0, 24, 0),
  .inl (0, 25, 0),
  .inl (0, 24, 0),
  .inr (3, [some 45, none, none]),
  .inl (0, 9, 0),
  .inr (4, [some 47, none, none]),
  .inl (2, 17, 48),
  .inl (0, 24, 0),
  .inl (0, 24, 0),
  .inl (0, 24, 0),
  .inl (0, 24, 0),
  .inl (0, 24, 0),
  .inl (0, 24, 0),
  .inl (0, 24, 0),
  .inl (0, 24, 0),
  .inl (0, 24, 0),
  .inl (0, 24, 0),
  .inl (0, 24, 0),
  .inl (0, 24, 0),
  .inl (0, 24, 0),
  .inl (0, 24, 0),
  .inl (0, 24, 0),
  .inl (0, 24, 0),
  .inl (0, 24, 0),
  .inr (1, [some 66, some 67, some 68, some 69, some 70, none]),
  .inl (0, 24, 0),
  .inl (0, 5, 0),
  .inl (0, 5, 0),
  .inl (0, 6, 0),
  .inl (1, 24, 0),
  .inr (0, [some 72, some 73, some 74]),
  .inl (0, 6, 0),
  .inl (0, 24, 0),
  .inl (0, 5, 0),
  .inr (2, [some 76, none, none, none]),
  .inl (0, 24, 0),
  .inr (5, [none, none, some 78, some 79, some 80, some 81, some 82, some 83, some 84]),
  .inl (0, 24, 0),
  .inl (0, 24, 0),
  .inl (0, 24, 0),
  .inl (0, 24, 0),
  .inl (0, 24, 0),
  .inl (0, 24, 0),
  .inl (0, 6, 0),
  .inr (10, [none, none, some 86, some 87, some 88, some 89, some 90, some 91, some 92, none, none, none, none, none, some 93, some 94, some 95, some 96, none, none, some 97, some 98, some 99, some 100, some 101, some 102, none, some 103, none, some 104, none, some 105, some 106, none, none, some 107, none, none, none, some 108, none, some 109, some 110, some 111, some 112, some 113, none, some 114, none, none, some 115, none, none, none]),
  .inl (0, 24, 0),
  .inl (0, 24, 0),
  .inl (0, 24, 0),
  .inl (0, 24, 0),
  .inl (0, 120, 0),
  .inl (0, 5, 0),
  .inl (0, 140, 0),
  .inl (0, 24, 0),
  .inl (0, 24, 0),
  .inl (0, 24, 0),
  .inl (0, 2040, 0),
  .inl (0, 24, 0),
  .inl (0, 24, 0),
  .inl (0, 24, 0),
  .inl (0, 24, 0),
  .inl (0, 24, 0),
  .inl (1, 24, 0),
  .inl (0, 24, 0),
  .inl (0, 25, 0),
  .inl (0, 48, 0),
  .inl (0, 48, 0),
  .inl (0, 10, 0),
  .inl (0, 120, 0),
  .inl (0, 48, 0),
  .inl (0, 6, 0),
  .inl (0, 6, 0),
  .inl (0, 5, 0),
  .inl (0, 24, 0),
  .inl (0, 24, 0),
  .inl (0, 223, 0)]
abbrev a_N : Nat := 116
theorem a_T_len : a_T.length = a_N := by decide +kernel
abbrev aM : Type := MethodName × ByteArray × Nat × Option FieldType
def mX0_atBest : aM := (yX0_atBest, cX0_atBest, 3, some .int)
def mX0_forget : aM := (yX0_forget, cX0_forget, 2, none)
def mX0_init : aM := (yX0_init, cX0_init, 1, none)
def mX0_leastOfAllOrders : aM := (yX0_leastOfAllOrders, cX0_leastOfAllOrders, 7, some .int)
def mX0_nextHead : aM := (yX0_nextHead, cX0_nextHead, 5, some .int)
def mX0_over : aM := (yX0_over, cX0_over, 7, some .int)
def mX0_preempted : aM := (yX0_preempted, cX0_preempted, 9, some .int)
def mX0_workedOn : aM := (yX0_workedOn, cX0_workedOn, 5, some .int)
def mX10_all : aM := (yX10_all, cX10_all, 2, some .int)
def mX10_alone : aM := (yX10_alone, cX10_alone, 2, some .int)
def mX10_back : aM := (yX10_back, cX10_back, 1, some .int)
def mX10_begins : aM := (yX10_begins, cX10_begins, 1, none)
def mX10_best : aM := (yX10_best, cX10_best, 3, some .int)
def mX10_bestOf : aM := (yX10_bestOf, cX10_bestOf, 8, some .int)
def mX10_block : aM := (yX10_block, cX10_block, 3, some .int)
def mX10_bound : aM := (yX10_bound, cX10_bound, 4, some .int)
def mX10_brings : aM := (yX10_brings, cX10_brings, 4, some .int)
def mX10_byteAt : aM := (yX10_byteAt, cX10_byteAt, 5, some .int)
def mX10_changed : aM := (yX10_changed, cX10_changed, 2, none)
def mX10_changesOver : aM := (yX10_changesOver, cX10_changesOver, 4, none)
def mX10_chart : aM := (yX10_chart, cX10_chart, 4, some .int)
def mX10_chosen : aM := (yX10_chosen, cX10_chosen, 4, some .int)
def mX10_comesBehind : aM := (yX10_comesBehind, cX10_comesBehind, 3, some .boolean)
def mX10_comesMove : aM := (yX10_comesMove, cX10_comesMove, 4, none)
def mX10_count : aM := (yX10_count, cX10_count, 2, some .int)
def mX10_dispatch : aM := (yX10_dispatch, cX10_dispatch, 3, some .int)
def mX10_dispatchedBy : aM := (yX10_dispatchedBy, cX10_dispatchedBy, 6, some .int)
def mX10_does : aM := (yX10_does, cX10_does, 3, some .int)
def mX10_endOf : aM := (yX10_endOf, cX10_endOf, 2, some .int)
def mX10_feed : aM := (yX10_feed, cX10_feed, 2, some .int)
def mX10_fetches : aM := (yX10_fetches, cX10_fetches, 2, none)
def mX10_findsMoves : aM := (yX10_findsMoves, cX10_findsMoves, 4, none)
def mX10_firstOf : aM := (yX10_firstOf, cX10_firstOf, 3, some .int)
def mX10_forgets : aM := (yX10_forgets, cX10_forgets, 1, none)
def mX10_headOf : aM := (yX10_headOf, cX10_headOf, 4, some .int)
def mX10_image : aM := (yX10_image, cX10_image, 1, some .int)
def mX10_in : aM := (yX10_in, cX10_in, 3, some .boolean)
def mX10_init : aM := (yX10_init, cX10_init, 1, none)
def mX10_is : aM := (yX10_is, cX10_is, 2, some .boolean)
def mX10_isBetter : aM := (yX10_isBetter, cX10_isBetter, 4, some .boolean)
def mX10_isCritical : aM := (yX10_isCritical, cX10_isCritical, 2, some .boolean)
def mX10_isFigure : aM := (yX10_isFigure, cX10_isFigure, 3, some .boolean)
def mX10_isLongest : aM := (yX10_isLongest, cX10_isLongest, 4, some .boolean)
def mX10_isMachine : aM := (yX10_isMachine, cX10_isMachine, 1, some .boolean)
def mX10_isOpen : aM := (yX10_isOpen, cX10_isOpen, 2, some .boolean)
def mX10_isReady : aM := (yX10_isReady, cX10_isReady, 2, some .boolean)
def mX10_isTask : aM := (yX10_isTask, cX10_isTask, 2, some .boolean)
def mX10_jobAhead : aM := (yX10_jobAhead, cX10_jobAhead, 2, some .int)
def mX10_jobBehind : aM := (yX10_jobBehind, cX10_jobBehind, 2, some .int)
def mX10_keepsMove : aM := (yX10_keepsMove, cX10_keepsMove, 2, none)
def mX10_kept : aM := (yX10_kept, cX10_kept, 2, some .int)
def mX10_lays : aM := (yX10_lays, cX10_lays, 2, none)
def mX10_leastBy : aM := (yX10_leastBy, cX10_leastBy, 7, some .int)
def mX10_leftOf : aM := (yX10_leftOf, cX10_leftOf, 4, some .int)
def mX10_machine : aM := (yX10_machine, cX10_machine, 3, some .int)
def mX10_mayStart : aM := (yX10_mayStart, cX10_mayStart, 2, some .int)
def mX10_move : aM := (yX10_move, cX10_move, 3, some .int)
def mX10_must : aM := (yX10_must, cX10_must, 2, none)
def mX10_neighbours : aM := (yX10_neighbours, cX10_neighbours, 4, none)
def mX10_nextAt : aM := (yX10_nextAt, cX10_nextAt, 5, some .int)
def mX10_nextOnWay : aM := (yX10_nextOnWay, cX10_nextOnWay, 6, some .int)
def mX10_nextReady : aM := (yX10_nextReady, cX10_nextReady, 2, some .int)
def mX10_notes : aM := (yX10_notes, cX10_notes, 3, none)
def mX10_of : aM := (yX10_of, cX10_of, 3, some .int)
def mX10_order : aM := (yX10_order, cX10_order, 3, some .int)
def mX10_parts : aM := (yX10_parts, cX10_parts, 2, none)
def mX10_passes : aM := (yX10_passes, cX10_passes, 3, some .int)
def mX10_passesAll : aM := (yX10_passesAll, cX10_passesAll, 2, none)
def mX10_passesRow : aM := (yX10_passesRow, cX10_passesRow, 3, none)
def mX10_placeOf : aM := (yX10_placeOf, cX10_placeOf, 3, some .int)
def mX10_preempted : aM := (yX10_preempted, cX10_preempted, 5, some .int)
def mX10_puts : aM := (yX10_puts, cX10_puts, 3, none)
def mX10_readsAll : aM := (yX10_readsAll, cX10_readsAll, 2, none)
def mX10_readsJob : aM := (yX10_readsJob, cX10_readsJob, 3, none)
def mX10_readsTask : aM := (yX10_readsTask, cX10_readsTask, 2, none)
def mX10_reckons : aM := (yX10_reckons, cX10_reckons, 3, some .boolean)
def mX10_redo : aM := (yX10_redo, cX10_redo, 1, some .int)
def mX10_restOf : aM := (yX10_restOf, cX10_restOf, 2, some .int)
def mX10_shop : aM := (yX10_shop, cX10_shop, 2, some .int)
def mX10_span : aM := (yX10_span, cX10_span, 1, some .int)
def mX10_spanBehind : aM := (yX10_spanBehind, cX10_spanBehind, 3, some .int)
def mX10_step : aM := (yX10_step, cX10_step, 4, some .int)
def mX10_steps : aM := (yX10_steps, cX10_steps, 4, some .boolean)
def mX10_swaps : aM := (yX10_swaps, cX10_swaps, 5, none)
def mX10_swapsMove : aM := (yX10_swapsMove, cX10_swapsMove, 4, none)
def mX10_tabu : aM := (yX10_tabu, cX10_tabu, 3, some .int)
def mX10_tabuAt : aM := (yX10_tabuAt, cX10_tabuAt, 3, some .int)
def mX10_tailOf : aM := (yX10_tailOf, cX10_tailOf, 2, some .int)
def mX10_takes : aM := (yX10_takes, cX10_takes, 3, none)
def mX10_takesOff : aM := (yX10_takesOff, cX10_takesOff, 3, none)
def mX10_task : aM := (yX10_task, cX10_task, 3, some .int)
def mX10_toldAt : aM := (yX10_toldAt, cX10_toldAt, 3, some .int)
def mX10_triesFrom : aM := (yX10_triesFrom, cX10_triesFrom, 4, none)
def mX10_turn : aM := (yX10_turn, cX10_turn, 3, some .int)
def mX10_undo : aM := (yX10_undo, cX10_undo, 1, some .int)
def mX10_walks : aM := (yX10_walks, cX10_walks, 2, none)
def mX10_way : aM := (yX10_way, cX10_way, 3, some .int)
def mX10_waysAll : aM := (yX10_waysAll, cX10_waysAll, 5, some .int)
def mX10_worthOf : aM := (yX10_worthOf, cX10_worthOf, 3, some .int)
def mX10_would : aM := (yX10_would, cX10_would, 3, some .int)
def mX10_wrong : aM := (yX10_wrong, cX10_wrong, 1, some .int)
def mX1_choose : aM := (yX1_choose, cX1_choose, 9, some .int)
def mX1_clear : aM := (yX1_clear, cX1_clear, 2, none)
def mX1_init : aM := (yX1_init, cX1_init, 1, none)
def mX1_isNext : aM := (yX1_isNext, cX1_isNext, 4, some .boolean)
def mX1_key : aM := (yX1_key, cX1_key, 3, some .int)
def mX1_lay : aM := (yX1_lay, cX1_lay, 5, none)
def mX1_putLast : aM := (yX1_putLast, cX1_putLast, 5, none)
def mX1_startOf : aM := (yX1_startOf, cX1_startOf, 3, some .int)
def mX2_forget : aM := (yX2_forget, cX2_forget, 1, none)
def mX2_init : aM := (yX2_init, cX2_init, 1, none)
def mX2_look : aM := (yX2_look, cX2_look, 4, some .boolean)
def mX2_lookAtAll : aM := (yX2_lookAtAll, cX2_lookAtAll, 5, none)
def mX2_nextOfAll : aM := (yX2_nextOfAll, cX2_nextOfAll, 3, none)
def mX2_waysOf : aM := (yX2_waysOf, cX2_waysOf, 4, some .int)
def mX3_find : aM := (yX3_find, cX3_find, 3, some .int)
def mX3_init : aM := (yX3_init, cX3_init, 1, none)
def mX3_keep : aM := (yX3_keep, cX3_keep, 3, none)
def mX3_takeOff : aM := (yX3_takeOff, cX3_takeOff, 3, none)
def mX4_begin : aM := (yX4_begin, cX4_begin, 2, none)
def mX4_goAhead : aM := (yX4_goAhead, cX4_goAhead, 2, some .boolean)
def mX4_goBack : aM := (yX4_goBack, cX4_goBack, 2, some .boolean)
def mX4_init : aM := (yX4_init, cX4_init, 1, none)
def mX4_note : aM := (yX4_note, cX4_note, 3, none)
def mX5_add : aM := (yX5_add, cX5_add, 5, none)
def mX5_clear : aM := (yX5_clear, cX5_clear, 1, none)
def mX5_copyOf : aM := (yX5_copyOf, cX5_copyOf, 2, none)
def mX5_finish : aM := (yX5_finish, cX5_finish, 4, none)
def mX5_init : aM := (yX5_init, cX5_init, 1, none)
def mX5_jobAhead : aM := (yX5_jobAhead, cX5_jobAhead, 2, some .int)
def mX5_jobNext : aM := (yX5_jobNext, cX5_jobNext, 2, some .int)
def mX5_longestJob : aM := (yX5_longestJob, cX5_longestJob, 3, some .int)
def mX5_orderByNumbers : aM := (yX5_orderByNumbers, cX5_orderByNumbers, 5, none)
def mX5_tasksOn : aM := (yX5_tasksOn, cX5_tasksOn, 2, some .int)
def mX6_addMove : aM := (yX6_addMove, cX6_addMove, 4, none)
def mX6_beginning : aM := (yX6_beginning, cX6_beginning, 3, some .int)
def mX6_cutBlocks : aM := (yX6_cutBlocks, cX6_cutBlocks, 3, none)
def mX6_find : aM := (yX6_find, cX6_find, 3, none)
def mX6_findMoves : aM := (yX6_findMoves, cX6_findMoves, 6, none)
def mX6_first : aM := (yX6_first, cX6_first, 2, some .int)
def mX6_goesOn : aM := (yX6_goesOn, cX6_goesOn, 3, some .int)
def mX6_init : aM := (yX6_init, cX6_init, 1, none)
def mX6_second : aM := (yX6_second, cX6_second, 2, some .int)
def mX6_walk : aM := (yX6_walk, cX6_walk, 7, none)
def mX7_init : aM := (yX7_init, cX7_init, 1, none)
def mX7_isFigure : aM := (yX7_isFigure, cX7_isFigure, 5, some .boolean)
def mX7_isTask : aM := (yX7_isTask, cX7_isTask, 2, some .boolean)
def mX7_letterAt : aM := (yX7_letterAt, cX7_letterAt, 2, some .int)
def mX7_number : aM := (yX7_number, cX7_number, 5, some .int)
def mX7_put : aM := (yX7_put, cX7_put, 2, none)
def mX7_readInto : aM := (yX7_readInto, cX7_readInto, 7, some .int)
def mX7_taskEnd : aM := (yX7_taskEnd, cX7_taskEnd, 2, some .int)
def mX8_atLeast : aM := (yX8_atLeast, cX8_atLeast, 8, some .int)
def mX8_endOf : aM := (yX8_endOf, cX8_endOf, 3, some .int)
def mX8_init : aM := (yX8_init, cX8_init, 1, none)
def mX8_lay : aM := (yX8_lay, cX8_lay, 6, none)
def mX8_layTails : aM := (yX8_layTails, cX8_layTails, 4, none)
def mX8_link : aM := (yX8_link, cX8_link, 8, none)
def mX8_queueFree : aM := (yX8_queueFree, cX8_queueFree, 3, none)
def mX8_release : aM := (yX8_release, cX8_release, 3, none)
def mX8_toCome : aM := (yX8_toCome, cX8_toCome, 3, some .int)
def mX9_all : aM := (yX9_all, cX9_all, 2, some .int)
def mX9_back : aM := (yX9_back, cX9_back, 1, some .int)
def mX9_best : aM := (yX9_best, cX9_best, 2, some .int)
def mX9_block : aM := (yX9_block, cX9_block, 3, some .int)
def mX9_bound : aM := (yX9_bound, cX9_bound, 4, some .int)
def mX9_brings : aM := (yX9_brings, cX9_brings, 4, some .int)
def mX9_changePlaces : aM := (yX9_changePlaces, cX9_changePlaces, 3, none)
def mX9_changed : aM := (yX9_changed, cX9_changed, 1, none)
def mX9_chart : aM := (yX9_chart, cX9_chart, 4, some .int)
def mX9_chartByte : aM := (yX9_chartByte, cX9_chartByte, 6, some .int)
def mX9_chosen : aM := (yX9_chosen, cX9_chosen, 8, some .int)
def mX9_copyRow : aM := (yX9_copyRow, cX9_copyRow, 2, none)
def mX9_count : aM := (yX9_count, cX9_count, 2, some .int)
def mX9_dispatch : aM := (yX9_dispatch, cX9_dispatch, 3, some .int)
def mX9_does : aM := (yX9_does, cX9_does, 3, some .int)
def mX9_feed : aM := (yX9_feed, cX9_feed, 2, some .int)
def mX9_forgetSteps : aM := (yX9_forgetSteps, cX9_forgetSteps, 1, none)
def mX9_goOn : aM := (yX9_goOn, cX9_goOn, 4, some .boolean)
def mX9_image : aM := (yX9_image, cX9_image, 1, some .int)
def mX9_init : aM := (yX9_init, cX9_init, 1, none)
def mX9_kept : aM := (yX9_kept, cX9_kept, 2, some .int)
def mX9_keptSince : aM := (yX9_keptSince, cX9_keptSince, 2, some .int)
def mX9_lookForLeast : aM := (yX9_lookForLeast, cX9_lookForLeast, 1, none)
def mX9_machine : aM := (yX9_machine, cX9_machine, 3, some .int)
def mX9_move : aM := (yX9_move, cX9_move, 3, some .int)
def mX9_nextOrder : aM := (yX9_nextOrder, cX9_nextOrder, 7, some .boolean)
def mX9_noMachine : aM := (yX9_noMachine, cX9_noMachine, 1, some .boolean)
def mX9_noShop : aM := (yX9_noShop, cX9_noShop, 1, some .boolean)
def mX9_noTask : aM := (yX9_noTask, cX9_noTask, 2, some .boolean)
def mX9_of : aM := (yX9_of, cX9_of, 4, some .int)
def mX9_order : aM := (yX9_order, cX9_order, 4, some .int)
def mX9_pair : aM := (yX9_pair, cX9_pair, 2, some .int)
def mX9_redo : aM := (yX9_redo, cX9_redo, 1, some .int)
def mX9_refusedByState : aM := (yX9_refusedByState, cX9_refusedByState, 1, some .int)
def mX9_settle : aM := (yX9_settle, cX9_settle, 1, none)
def mX9_shop : aM := (yX9_shop, cX9_shop, 2, some .int)
def mX9_slotOf : aM := (yX9_slotOf, cX9_slotOf, 2, some .int)
def mX9_span : aM := (yX9_span, cX9_span, 2, some .int)
def mX9_spanBehind : aM := (yX9_spanBehind, cX9_spanBehind, 3, some .int)
def mX9_spanOrRing : aM := (yX9_spanOrRing, cX9_spanOrRing, 1, some .int)
def mX9_startAnew : aM := (yX9_startAnew, cX9_startAnew, 1, none)
def mX9_step : aM := (yX9_step, cX9_step, 4, some .int)
def mX9_tabu : aM := (yX9_tabu, cX9_tabu, 3, some .int)
def mX9_task : aM := (yX9_task, cX9_task, 3, some .int)
def mX9_turn : aM := (yX9_turn, cX9_turn, 3, some .int)
def mX9_undo : aM := (yX9_undo, cX9_undo, 1, some .int)
def mX9_way : aM := (yX9_way, cX9_way, 3, some .int)
def mX9_would : aM := (yX9_would, cX9_would, 2, some .int)
/-- the words that go with a method into another -/
def a_ws : List Cond := lw_tbl.filter goodWord
theorem a_in (i : Nat) {w : Cond} (h : lw_tbl[i]? = some w) (hg : goodWord w = true) : w ∈ a_ws := List.mem_filter.mpr ⟨List.mem_of_getElem? h, hg⟩
theorem a_ws_good : GoodIn a_ws a_ws := fun _ hw => ⟨hw, good_of_word (List.mem_filter.mp hw).2⟩
def a_inst (M : aM) : Prop := Cond.code M.1 M.2.1 M.2.2.1 M.2.2.2 ∈ a_ws ∧ Cond.initialized M.1.cls ∈ a_ws ∧ (Cond.instanceMethod M.1 ∈ a_ws ∧ Cond.selects M.1.cls M.1 M.1 ∈ a_ws) ∧ M.1.cls ≠ "java/lang/invoke/MethodHandle" ∧ M.1.cls ≠ "java/lang/invoke/VarHandle" ∧ M.2.2.1 ≤ 20
def a_stat (M : aM) : Prop := Cond.code M.1 M.2.1 M.2.2.1 M.2.2.2 ∈ a_ws ∧ Cond.initialized M.1.cls ∈ a_ws ∧ Cond.static M.1 ∈ a_ws ∧ M.1.cls ≠ "java/lang/invoke/MethodHandle" ∧ M.1.cls ≠ "java/lang/invoke/VarHandle" ∧ M.2.2.1 ≤ 20
theorem iw_9 : Cond.initialized RX9 ∈ a_ws := a_in 104 (by decide +kernel) (by decide +kernel)
theorem iw_0 : Cond.initialized RX0 ∈ a_ws := a_in 112 (by decide +kernel) (by decide +kernel)
theorem iw_1 : Cond.initialized RX1 ∈ a_ws := a_in 111 (by decide +kernel) (by decide +kernel)
theorem iw_2 : Cond.initialized RX2 ∈ a_ws := a_in 113 (by decide +kernel) (by decide +kernel)
theorem iw_3 : Cond.initialized RX3 ∈ a_ws := a_in 109 (by decide +kernel) (by decide +kernel)
theorem iw_4 : Cond.initialized RX4 ∈ a_ws := a_in 110 (by decide +kernel) (by decide +kernel)
theorem iw_5 : Cond.initialized RX5 ∈ a_ws := a_in 106 (by decide +kernel) (by decide +kernel)
theorem iw_6 : Cond.initialized RX6 ∈ a_ws := a_in 108 (by decide +kernel) (by decide +kernel)
theorem iw_7 : Cond.initialized RX7 ∈ a_ws := a_in 105 (by decide +kernel) (by decide +kernel)
theorem iw_8 : Cond.initialized RX8 ∈ a_ws := a_in 107 (by decide +kernel) (by decide +kernel)
theorem iw_10 : Cond.initialized RX10 ∈ a_ws := a_in 114 (by decide +kernel) (by decide +kernel)
theorem iw_Math : Cond.initialized "java/lang/Math" ∈ a_ws := a_in 116 (by decide +kernel) (by decide +kernel)
theorem iw_System : Cond.initialized "java/lang/System" ∈ a_ws := a_in 115 (by decide +kernel) (by decide +kernel)
theorem cw_max : Cond.code Lib.Math.max.name Lib.Math.max.code 2 (some .int) ∈ a_ws := a_in 547 (by decide +kernel) (by decide +kernel)
theorem sw_max : Cond.static Lib.Math.max.name ∈ a_ws := a_in 546 (by decide +kernel) (by decide +kernel)
theorem cw_min : Cond.code Lib.Math.min.name Lib.Math.min.code 2 (some .int) ∈ a_ws := a_in 579 (by decide +kernel) (by decide +kernel)
theorem sw_min : Cond.static Lib.Math.min.name ∈ a_ws := a_in 578 (by decide +kernel) (by decide +kernel)
theorem nw_copy : Cond.native arraycopyName ∈ a_ws := a_in 501 (by decide +kernel) (by decide +kernel)
theorem sw_copy : Cond.static arraycopyName ∈ a_ws := a_in 500 (by decide +kernel) (by decide +kernel)
theorem kX0_atBest : a_inst mX0_atBest := ⟨a_in 785 (by decide +kernel) (by decide +kernel), iw_0, ⟨a_in 783 (by decide +kernel) (by decide +kernel), a_in 784 (by decide +kernel) (by decide +kernel)⟩, by decide +kernel, by decide +kernel, by decide⟩
theorem kX0_forget : a_inst mX0_forget := ⟨a_in 523 (by decide +kernel) (by decide +kernel), iw_0, ⟨a_in 521 (by decide +kernel) (by decide +kernel), a_in 522 (by decide +kernel) (by decide +kernel)⟩, by decide +kernel, by decide +kernel, by decide⟩
theorem kX0_leastOfAllOrders : a_inst mX0_leastOfAllOrders := ⟨a_in 790 (by decide +kernel) (by decide +kernel), iw_0, ⟨a_in 789 (by decide +kernel) (by decide +kernel), a_in 34 (by decide +kernel) (by decide +kernel)⟩, by decide +kernel, by decide +kernel, by decide⟩
theorem kX0_nextHead : a_inst mX0_nextHead := ⟨a_in 812 (by decide +kernel) (by decide +kernel), iw_0, ⟨a_in 811 (by decide +kernel) (by decide +kernel), a_in 37 (by decide +kernel) (by decide +kernel)⟩, by decide +kernel, by decide +kernel, by decide⟩
theorem kX0_over : a_inst mX0_over := ⟨a_in 794 (by decide +kernel) (by decide +kernel), iw_0, ⟨a_in 793 (by decide +kernel) (by decide +kernel), a_in 35 (by decide +kernel) (by decide +kernel)⟩, by decide +kernel, by decide +kernel, by decide⟩
theorem kX0_preempted : a_inst mX0_preempted := ⟨a_in 804 (by decide +kernel) (by decide +kernel), iw_0, ⟨a_in 802 (by decide +kernel) (by decide +kernel), a_in 803 (by decide +kernel) (by decide +kernel)⟩, by decide +kernel, by decide +kernel, by decide⟩
theorem kX0_workedOn : a_inst mX0_workedOn := ⟨a_in 808 (by decide +kernel) (by decide +kernel), iw_0, ⟨a_in 807 (by decide +kernel) (by decide +kernel), a_in 36 (by decide +kernel) (by decide +kernel)⟩, by decide +kernel, by decide +kernel, by decide⟩
theorem kX10_all : a_inst mX10_all := ⟨a_in 1373 (by decide +kernel) (by decide +kernel), iw_10, ⟨a_in 1371 (by decide +kernel) (by decide +kernel), a_in 1372 (by decide +kernel) (by decide +kernel)⟩, by decide +kernel, by decide +kernel, by decide⟩
theorem kX10_alone : a_inst mX10_alone := ⟨a_in 1341 (by decide +kernel) (by decide +kernel), iw_10, ⟨a_in 1340 (by decide +kernel) (by decide +kernel), a_in 89 (by decide +kernel) (by decide +kernel)⟩, by decide +kernel, by decide +kernel, by decide⟩
theorem kX10_back : a_inst mX10_back := ⟨a_in 1414 (by decide +kernel) (by decide +kernel), iw_10, ⟨a_in 1412 (by decide +kernel) (by decide +kernel), a_in 1413 (by decide +kernel) (by decide +kernel)⟩, by decide +kernel, by decide +kernel, by decide⟩
theorem kX10_begins : a_inst mX10_begins := ⟨a_in 1093 (by decide +kernel) (by decide +kernel), iw_10, ⟨a_in 1092 (by decide +kernel) (by decide +kernel), a_in 48 (by decide +kernel) (by decide +kernel)⟩, by decide +kernel, by decide +kernel, by decide⟩
theorem kX10_best : a_inst mX10_best := ⟨a_in 1297 (by decide +kernel) (by decide +kernel), iw_10, ⟨a_in 1295 (by decide +kernel) (by decide +kernel), a_in 1296 (by decide +kernel) (by decide +kernel)⟩, by decide +kernel, by decide +kernel, by decide⟩
theorem kX10_bestOf : a_inst mX10_bestOf := ⟨a_in 1349 (by decide +kernel) (by decide +kernel), iw_10, ⟨a_in 1348 (by decide +kernel) (by decide +kernel), a_in 91 (by decide +kernel) (by decide +kernel)⟩, by decide +kernel, by decide +kernel, by decide⟩
theorem kX10_block : a_inst mX10_block := ⟨a_in 1216 (by decide +kernel) (by decide +kernel), iw_10, ⟨a_in 1214 (by decide +kernel) (by decide +kernel), a_in 1215 (by decide +kernel) (by decide +kernel)⟩, by decide +kernel, by decide +kernel, by decide⟩
theorem kX10_bound : a_inst mX10_bound := ⟨a_in 1369 (by decide +kernel) (by decide +kernel), iw_10, ⟨a_in 1367 (by decide +kernel) (by decide +kernel), a_in 1368 (by decide +kernel) (by decide +kernel)⟩, by decide +kernel, by decide +kernel, by decide⟩
theorem kX10_brings : a_inst mX10_brings := ⟨a_in 1240 (by decide +kernel) (by decide +kernel), iw_10, ⟨a_in 1238 (by decide +kernel) (by decide +kernel), a_in 1239 (by decide +kernel) (by decide +kernel)⟩, by decide +kernel, by decide +kernel, by decide⟩
theorem kX10_byteAt : a_inst mX10_byteAt := ⟨a_in 1394 (by decide +kernel) (by decide +kernel), iw_10, ⟨a_in 1393 (by decide +kernel) (by decide +kernel), a_in 99 (by decide +kernel) (by decide +kernel)⟩, by decide +kernel, by decide +kernel, by decide⟩
theorem kX10_changed : a_inst mX10_changed := ⟨a_in 1144 (by decide +kernel) (by decide +kernel), iw_10, ⟨a_in 1143 (by decide +kernel) (by decide +kernel), a_in 55 (by decide +kernel) (by decide +kernel)⟩, by decide +kernel, by decide +kernel, by decide⟩
theorem kX10_changesOver : a_inst mX10_changesOver := ⟨a_in 1386 (by decide +kernel) (by decide +kernel), iw_10, ⟨a_in 1385 (by decide +kernel) (by decide +kernel), a_in 98 (by decide +kernel) (by decide +kernel)⟩, by decide +kernel, by decide +kernel, by decide⟩
theorem kX10_chart : a_inst mX10_chart := ⟨a_in 1390 (by decide +kernel) (by decide +kernel), iw_10, ⟨a_in 1388 (by decide +kernel) (by decide +kernel), a_in 1389 (by decide +kernel) (by decide +kernel)⟩, by decide +kernel, by decide +kernel, by decide⟩
theorem kX10_chosen : a_inst mX10_chosen := ⟨a_in 1277 (by decide +kernel) (by decide +kernel), iw_10, ⟨a_in 1276 (by decide +kernel) (by decide +kernel), a_in 78 (by decide +kernel) (by decide +kernel)⟩, by decide +kernel, by decide +kernel, by decide⟩
theorem kX10_comesBehind : a_inst mX10_comesBehind := ⟨a_in 1209 (by decide +kernel) (by decide +kernel), iw_10, ⟨a_in 1208 (by decide +kernel) (by decide +kernel), a_in 68 (by decide +kernel) (by decide +kernel)⟩, by decide +kernel, by decide +kernel, by decide⟩
theorem kX10_comesMove : a_inst mX10_comesMove := ⟨a_in 1232 (by decide +kernel) (by decide +kernel), iw_10, ⟨a_in 1231 (by decide +kernel) (by decide +kernel), a_in 71 (by decide +kernel) (by decide +kernel)⟩, by decide +kernel, by decide +kernel, by decide⟩
theorem kX10_count : a_inst mX10_count := ⟨a_in 1418 (by decide +kernel) (by decide +kernel), iw_10, ⟨a_in 1416 (by decide +kernel) (by decide +kernel), a_in 1417 (by decide +kernel) (by decide +kernel)⟩, by decide +kernel, by decide +kernel, by decide⟩
theorem kX10_dispatch : a_inst mX10_dispatch := ⟨a_in 1301 (by decide +kernel) (by decide +kernel), iw_10, ⟨a_in 1299 (by decide +kernel) (by decide +kernel), a_in 1300 (by decide +kernel) (by decide +kernel)⟩, by decide +kernel, by decide +kernel, by decide⟩
theorem kX10_dispatchedBy : a_inst mX10_dispatchedBy := ⟨a_in 1305 (by decide +kernel) (by decide +kernel), iw_10, ⟨a_in 1304 (by decide +kernel) (by decide +kernel), a_in 82 (by decide +kernel) (by decide +kernel)⟩, by decide +kernel, by decide +kernel, by decide⟩
theorem kX10_does : a_inst mX10_does := ⟨a_in 1257 (by decide +kernel) (by decide +kernel), iw_10, ⟨a_in 1255 (by decide +kernel) (by decide +kernel), a_in 1256 (by decide +kernel) (by decide +kernel)⟩, by decide +kernel, by decide +kernel, by decide⟩
theorem kX10_endOf : a_inst mX10_endOf := ⟨a_in 1168 (by decide +kernel) (by decide +kernel), iw_10, ⟨a_in 1167 (by decide +kernel) (by decide +kernel), a_in 61 (by decide +kernel) (by decide +kernel)⟩, by decide +kernel, by decide +kernel, by decide⟩
theorem kX10_feed : a_inst mX10_feed := ⟨a_in 1054 (by decide +kernel) (by decide +kernel), iw_10, ⟨a_in 1052 (by decide +kernel) (by decide +kernel), a_in 1053 (by decide +kernel) (by decide +kernel)⟩, by decide +kernel, by decide +kernel, by decide⟩
theorem kX10_fetches : a_inst mX10_fetches := ⟨a_in 1109 (by decide +kernel) (by decide +kernel), iw_10, ⟨a_in 1108 (by decide +kernel) (by decide +kernel), a_in 51 (by decide +kernel) (by decide +kernel)⟩, by decide +kernel, by decide +kernel, by decide⟩
theorem kX10_findsMoves : a_inst mX10_findsMoves := ⟨a_in 1228 (by decide +kernel) (by decide +kernel), iw_10, ⟨a_in 1227 (by decide +kernel) (by decide +kernel), a_in 70 (by decide +kernel) (by decide +kernel)⟩, by decide +kernel, by decide +kernel, by decide⟩
theorem kX10_firstOf : a_inst mX10_firstOf := ⟨a_in 1309 (by decide +kernel) (by decide +kernel), iw_10, ⟨a_in 1308 (by decide +kernel) (by decide +kernel), a_in 83 (by decide +kernel) (by decide +kernel)⟩, by decide +kernel, by decide +kernel, by decide⟩
theorem kX10_forgets : a_inst mX10_forgets := ⟨a_in 1101 (by decide +kernel) (by decide +kernel), iw_10, ⟨a_in 1100 (by decide +kernel) (by decide +kernel), a_in 50 (by decide +kernel) (by decide +kernel)⟩, by decide +kernel, by decide +kernel, by decide⟩
theorem kX10_headOf : a_inst mX10_headOf := ⟨a_in 1353 (by decide +kernel) (by decide +kernel), iw_10, ⟨a_in 1352 (by decide +kernel) (by decide +kernel), a_in 92 (by decide +kernel) (by decide +kernel)⟩, by decide +kernel, by decide +kernel, by decide⟩
theorem kX10_image : a_inst mX10_image := ⟨a_in 1398 (by decide +kernel) (by decide +kernel), iw_10, ⟨a_in 1396 (by decide +kernel) (by decide +kernel), a_in 1397 (by decide +kernel) (by decide +kernel)⟩, by decide +kernel, by decide +kernel, by decide⟩
theorem kX10_in : a_stat mX10_in := ⟨a_in 1057 (by decide +kernel) (by decide +kernel), iw_10, a_in 1056 (by decide +kernel) (by decide +kernel), by decide +kernel, by decide +kernel, by decide⟩
theorem kX10_is : a_inst mX10_is := ⟨a_in 1085 (by decide +kernel) (by decide +kernel), iw_10, ⟨a_in 1084 (by decide +kernel) (by decide +kernel), a_in 46 (by decide +kernel) (by decide +kernel)⟩, by decide +kernel, by decide +kernel, by decide⟩
theorem kX10_isBetter : a_inst mX10_isBetter := ⟨a_in 1317 (by decide +kernel) (by decide +kernel), iw_10, ⟨a_in 1316 (by decide +kernel) (by decide +kernel), a_in 85 (by decide +kernel) (by decide +kernel)⟩, by decide +kernel, by decide +kernel, by decide⟩
theorem kX10_isCritical : a_inst mX10_isCritical := ⟨a_in 1189 (by decide +kernel) (by decide +kernel), iw_10, ⟨a_in 1188 (by decide +kernel) (by decide +kernel), a_in 64 (by decide +kernel) (by decide +kernel)⟩, by decide +kernel, by decide +kernel, by decide⟩
theorem kX10_isFigure : a_inst mX10_isFigure := ⟨a_in 1077 (by decide +kernel) (by decide +kernel), iw_10, ⟨a_in 1076 (by decide +kernel) (by decide +kernel), a_in 44 (by decide +kernel) (by decide +kernel)⟩, by decide +kernel, by decide +kernel, by decide⟩
theorem kX10_isLongest : a_inst mX10_isLongest := ⟨a_in 1281 (by decide +kernel) (by decide +kernel), iw_10, ⟨a_in 1280 (by decide +kernel) (by decide +kernel), a_in 79 (by decide +kernel) (by decide +kernel)⟩, by decide +kernel, by decide +kernel, by decide⟩
theorem kX10_isMachine : a_stat mX10_isMachine := ⟨a_in 1132 (by decide +kernel) (by decide +kernel), iw_10, a_in 1131 (by decide +kernel) (by decide +kernel), by decide +kernel, by decide +kernel, by decide⟩
theorem kX10_isOpen : a_inst mX10_isOpen := ⟨a_in 1313 (by decide +kernel) (by decide +kernel), iw_10, ⟨a_in 1312 (by decide +kernel) (by decide +kernel), a_in 84 (by decide +kernel) (by decide +kernel)⟩, by decide +kernel, by decide +kernel, by decide⟩
theorem kX10_isReady : a_inst mX10_isReady := ⟨a_in 1160 (by decide +kernel) (by decide +kernel), iw_10, ⟨a_in 1159 (by decide +kernel) (by decide +kernel), a_in 59 (by decide +kernel) (by decide +kernel)⟩, by decide +kernel, by decide +kernel, by decide⟩
theorem kX10_isTask : a_inst mX10_isTask := ⟨a_in 1121 (by decide +kernel) (by decide +kernel), iw_10, ⟨a_in 1120 (by decide +kernel) (by decide +kernel), a_in 52 (by decide +kernel) (by decide +kernel)⟩, by decide +kernel, by decide +kernel, by decide⟩
theorem kX10_jobAhead : a_inst mX10_jobAhead := ⟨a_in 1164 (by decide +kernel) (by decide +kernel), iw_10, ⟨a_in 1163 (by decide +kernel) (by decide +kernel), a_in 60 (by decide +kernel) (by decide +kernel)⟩, by decide +kernel, by decide +kernel, by decide⟩
theorem kX10_jobBehind : a_inst mX10_jobBehind := ⟨a_in 1173 (by decide +kernel) (by decide +kernel), iw_10, ⟨a_in 1172 (by decide +kernel) (by decide +kernel), a_in 62 (by decide +kernel) (by decide +kernel)⟩, by decide +kernel, by decide +kernel, by decide⟩
theorem kX10_keepsMove : a_inst mX10_keepsMove := ⟨a_in 1285 (by decide +kernel) (by decide +kernel), iw_10, ⟨a_in 1284 (by decide +kernel) (by decide +kernel), a_in 80 (by decide +kernel) (by decide +kernel)⟩, by decide +kernel, by decide +kernel, by decide⟩
theorem kX10_kept : a_inst mX10_kept := ⟨a_in 1293 (by decide +kernel) (by decide +kernel), iw_10, ⟨a_in 1291 (by decide +kernel) (by decide +kernel), a_in 1292 (by decide +kernel) (by decide +kernel)⟩, by decide +kernel, by decide +kernel, by decide⟩
theorem kX10_lays : a_inst mX10_lays := ⟨a_in 1097 (by decide +kernel) (by decide +kernel), iw_10, ⟨a_in 1096 (by decide +kernel) (by decide +kernel), a_in 49 (by decide +kernel) (by decide +kernel)⟩, by decide +kernel, by decide +kernel, by decide⟩
theorem kX10_leastBy : a_inst mX10_leastBy := ⟨a_in 1236 (by decide +kernel) (by decide +kernel), iw_10, ⟨a_in 1235 (by decide +kernel) (by decide +kernel), a_in 72 (by decide +kernel) (by decide +kernel)⟩, by decide +kernel, by decide +kernel, by decide⟩
theorem kX10_leftOf : a_inst mX10_leftOf := ⟨a_in 1329 (by decide +kernel) (by decide +kernel), iw_10, ⟨a_in 1328 (by decide +kernel) (by decide +kernel), a_in 88 (by decide +kernel) (by decide +kernel)⟩, by decide +kernel, by decide +kernel, by decide⟩
theorem kX10_machine : a_inst mX10_machine := ⟨a_in 1337 (by decide +kernel) (by decide +kernel), iw_10, ⟨a_in 1335 (by decide +kernel) (by decide +kernel), a_in 1336 (by decide +kernel) (by decide +kernel)⟩, by decide +kernel, by decide +kernel, by decide⟩
theorem kX10_mayStart : a_inst mX10_mayStart := ⟨a_in 1321 (by decide +kernel) (by decide +kernel), iw_10, ⟨a_in 1320 (by decide +kernel) (by decide +kernel), a_in 86 (by decide +kernel) (by decide +kernel)⟩, by decide +kernel, by decide +kernel, by decide⟩
theorem kX10_move : a_inst mX10_move := ⟨a_in 1224 (by decide +kernel) (by decide +kernel), iw_10, ⟨a_in 1222 (by decide +kernel) (by decide +kernel), a_in 1223 (by decide +kernel) (by decide +kernel)⟩, by decide +kernel, by decide +kernel, by decide⟩
theorem kX10_must : a_inst mX10_must := ⟨a_in 1081 (by decide +kernel) (by decide +kernel), iw_10, ⟨a_in 1080 (by decide +kernel) (by decide +kernel), a_in 45 (by decide +kernel) (by decide +kernel)⟩, by decide +kernel, by decide +kernel, by decide⟩
theorem kX10_neighbours : a_inst mX10_neighbours := ⟨a_in 1152 (by decide +kernel) (by decide +kernel), iw_10, ⟨a_in 1151 (by decide +kernel) (by decide +kernel), a_in 57 (by decide +kernel) (by decide +kernel)⟩, by decide +kernel, by decide +kernel, by decide⟩
theorem kX10_nextAt : a_inst mX10_nextAt := ⟨a_in 1365 (by decide +kernel) (by decide +kernel), iw_10, ⟨a_in 1364 (by decide +kernel) (by decide +kernel), a_in 95 (by decide +kernel) (by decide +kernel)⟩, by decide +kernel, by decide +kernel, by decide⟩
theorem kX10_nextOnWay : a_inst mX10_nextOnWay := ⟨a_in 1205 (by decide +kernel) (by decide +kernel), iw_10, ⟨a_in 1204 (by decide +kernel) (by decide +kernel), a_in 67 (by decide +kernel) (by decide +kernel)⟩, by decide +kernel, by decide +kernel, by decide⟩
theorem kX10_nextReady : a_inst mX10_nextReady := ⟨a_in 1156 (by decide +kernel) (by decide +kernel), iw_10, ⟨a_in 1155 (by decide +kernel) (by decide +kernel), a_in 58 (by decide +kernel) (by decide +kernel)⟩, by decide +kernel, by decide +kernel, by decide⟩
theorem kX10_notes : a_inst mX10_notes := ⟨a_in 1273 (by decide +kernel) (by decide +kernel), iw_10, ⟨a_in 1272 (by decide +kernel) (by decide +kernel), a_in 77 (by decide +kernel) (by decide +kernel)⟩, by decide +kernel, by decide +kernel, by decide⟩
theorem kX10_of : a_inst mX10_of := ⟨a_in 1185 (by decide +kernel) (by decide +kernel), iw_10, ⟨a_in 1183 (by decide +kernel) (by decide +kernel), a_in 1184 (by decide +kernel) (by decide +kernel)⟩, by decide +kernel, by decide +kernel, by decide⟩
theorem kX10_order : a_inst mX10_order := ⟨a_in 1129 (by decide +kernel) (by decide +kernel), iw_10, ⟨a_in 1127 (by decide +kernel) (by decide +kernel), a_in 1128 (by decide +kernel) (by decide +kernel)⟩, by decide +kernel, by decide +kernel, by decide⟩
theorem kX10_parts : a_inst mX10_parts := ⟨a_in 1220 (by decide +kernel) (by decide +kernel), iw_10, ⟨a_in 1219 (by decide +kernel) (by decide +kernel), a_in 69 (by decide +kernel) (by decide +kernel)⟩, by decide +kernel, by decide +kernel, by decide⟩
theorem kX10_passes : a_inst mX10_passes := ⟨a_in 1406 (by decide +kernel) (by decide +kernel), iw_10, ⟨a_in 1405 (by decide +kernel) (by decide +kernel), a_in 101 (by decide +kernel) (by decide +kernel)⟩, by decide +kernel, by decide +kernel, by decide⟩
theorem kX10_passesAll : a_inst mX10_passesAll := ⟨a_in 1402 (by decide +kernel) (by decide +kernel), iw_10, ⟨a_in 1401 (by decide +kernel) (by decide +kernel), a_in 100 (by decide +kernel) (by decide +kernel)⟩, by decide +kernel, by decide +kernel, by decide⟩
theorem kX10_passesRow : a_inst mX10_passesRow := ⟨a_in 1410 (by decide +kernel) (by decide +kernel), iw_10, ⟨a_in 1409 (by decide +kernel) (by decide +kernel), a_in 102 (by decide +kernel) (by decide +kernel)⟩, by decide +kernel, by decide +kernel, by decide⟩
theorem kX10_placeOf : a_inst mX10_placeOf := ⟨a_in 1125 (by decide +kernel) (by decide +kernel), iw_10, ⟨a_in 1124 (by decide +kernel) (by decide +kernel), a_in 53 (by decide +kernel) (by decide +kernel)⟩, by decide +kernel, by decide +kernel, by decide⟩
theorem kX10_preempted : a_inst mX10_preempted := ⟨a_in 1361 (by decide +kernel) (by decide +kernel), iw_10, ⟨a_in 1360 (by decide +kernel) (by decide +kernel), a_in 94 (by decide +kernel) (by decide +kernel)⟩, by decide +kernel, by decide +kernel, by decide⟩
theorem kX10_puts : a_inst mX10_puts := ⟨a_in 1089 (by decide +kernel) (by decide +kernel), iw_10, ⟨a_in 1088 (by decide +kernel) (by decide +kernel), a_in 47 (by decide +kernel) (by decide +kernel)⟩, by decide +kernel, by decide +kernel, by decide⟩
theorem kX10_readsAll : a_inst mX10_readsAll := ⟨a_in 1065 (by decide +kernel) (by decide +kernel), iw_10, ⟨a_in 1064 (by decide +kernel) (by decide +kernel), a_in 41 (by decide +kernel) (by decide +kernel)⟩, by decide +kernel, by decide +kernel, by decide⟩
theorem kX10_readsJob : a_inst mX10_readsJob := ⟨a_in 1069 (by decide +kernel) (by decide +kernel), iw_10, ⟨a_in 1068 (by decide +kernel) (by decide +kernel), a_in 42 (by decide +kernel) (by decide +kernel)⟩, by decide +kernel, by decide +kernel, by decide⟩
theorem kX10_readsTask : a_inst mX10_readsTask := ⟨a_in 1073 (by decide +kernel) (by decide +kernel), iw_10, ⟨a_in 1072 (by decide +kernel) (by decide +kernel), a_in 43 (by decide +kernel) (by decide +kernel)⟩, by decide +kernel, by decide +kernel, by decide⟩
theorem kX10_reckons : a_inst mX10_reckons := ⟨a_in 1148 (by decide +kernel) (by decide +kernel), iw_10, ⟨a_in 1147 (by decide +kernel) (by decide +kernel), a_in 56 (by decide +kernel) (by decide +kernel)⟩, by decide +kernel, by decide +kernel, by decide⟩
theorem kX10_redo : a_inst mX10_redo := ⟨a_in 1113 (by decide +kernel) (by decide +kernel), iw_10, ⟨a_in 1111 (by decide +kernel) (by decide +kernel), a_in 1112 (by decide +kernel) (by decide +kernel)⟩, by decide +kernel, by decide +kernel, by decide⟩
theorem kX10_restOf : a_inst mX10_restOf := ⟨a_in 1177 (by decide +kernel) (by decide +kernel), iw_10, ⟨a_in 1176 (by decide +kernel) (by decide +kernel), a_in 63 (by decide +kernel) (by decide +kernel)⟩, by decide +kernel, by decide +kernel, by decide⟩
theorem kX10_shop : a_inst mX10_shop := ⟨a_in 1061 (by decide +kernel) (by decide +kernel), iw_10, ⟨a_in 1059 (by decide +kernel) (by decide +kernel), a_in 1060 (by decide +kernel) (by decide +kernel)⟩, by decide +kernel, by decide +kernel, by decide⟩
theorem kX10_span : a_inst mX10_span := ⟨a_in 1181 (by decide +kernel) (by decide +kernel), iw_10, ⟨a_in 1179 (by decide +kernel) (by decide +kernel), a_in 1180 (by decide +kernel) (by decide +kernel)⟩, by decide +kernel, by decide +kernel, by decide⟩
theorem kX10_spanBehind : a_inst mX10_spanBehind := ⟨a_in 1244 (by decide +kernel) (by decide +kernel), iw_10, ⟨a_in 1243 (by decide +kernel) (by decide +kernel), a_in 73 (by decide +kernel) (by decide +kernel)⟩, by decide +kernel, by decide +kernel, by decide⟩
theorem kX10_step : a_inst mX10_step := ⟨a_in 1265 (by decide +kernel) (by decide +kernel), iw_10, ⟨a_in 1263 (by decide +kernel) (by decide +kernel), a_in 1264 (by decide +kernel) (by decide +kernel)⟩, by decide +kernel, by decide +kernel, by decide⟩
theorem kX10_steps : a_inst mX10_steps := ⟨a_in 1269 (by decide +kernel) (by decide +kernel), iw_10, ⟨a_in 1268 (by decide +kernel) (by decide +kernel), a_in 76 (by decide +kernel) (by decide +kernel)⟩, by decide +kernel, by decide +kernel, by decide⟩
theorem kX10_swaps : a_inst mX10_swaps := ⟨a_in 1140 (by decide +kernel) (by decide +kernel), iw_10, ⟨a_in 1139 (by decide +kernel) (by decide +kernel), a_in 54 (by decide +kernel) (by decide +kernel)⟩, by decide +kernel, by decide +kernel, by decide⟩
theorem kX10_swapsMove : a_inst mX10_swapsMove := ⟨a_in 1248 (by decide +kernel) (by decide +kernel), iw_10, ⟨a_in 1247 (by decide +kernel) (by decide +kernel), a_in 74 (by decide +kernel) (by decide +kernel)⟩, by decide +kernel, by decide +kernel, by decide⟩
theorem kX10_tabu : a_inst mX10_tabu := ⟨a_in 1261 (by decide +kernel) (by decide +kernel), iw_10, ⟨a_in 1259 (by decide +kernel) (by decide +kernel), a_in 1260 (by decide +kernel) (by decide +kernel)⟩, by decide +kernel, by decide +kernel, by decide⟩
theorem kX10_tabuAt : a_inst mX10_tabuAt := ⟨a_in 1253 (by decide +kernel) (by decide +kernel), iw_10, ⟨a_in 1252 (by decide +kernel) (by decide +kernel), a_in 75 (by decide +kernel) (by decide +kernel)⟩, by decide +kernel, by decide +kernel, by decide⟩
theorem kX10_tailOf : a_inst mX10_tailOf := ⟨a_in 1357 (by decide +kernel) (by decide +kernel), iw_10, ⟨a_in 1356 (by decide +kernel) (by decide +kernel), a_in 93 (by decide +kernel) (by decide +kernel)⟩, by decide +kernel, by decide +kernel, by decide⟩
theorem kX10_takes : a_inst mX10_takes := ⟨a_in 1345 (by decide +kernel) (by decide +kernel), iw_10, ⟨a_in 1344 (by decide +kernel) (by decide +kernel), a_in 90 (by decide +kernel) (by decide +kernel)⟩, by decide +kernel, by decide +kernel, by decide⟩
theorem kX10_takesOff : a_inst mX10_takesOff := ⟨a_in 1289 (by decide +kernel) (by decide +kernel), iw_10, ⟨a_in 1288 (by decide +kernel) (by decide +kernel), a_in 81 (by decide +kernel) (by decide +kernel)⟩, by decide +kernel, by decide +kernel, by decide⟩
theorem kX10_task : a_inst mX10_task := ⟨a_in 1117 (by decide +kernel) (by decide +kernel), iw_10, ⟨a_in 1115 (by decide +kernel) (by decide +kernel), a_in 1116 (by decide +kernel) (by decide +kernel)⟩, by decide +kernel, by decide +kernel, by decide⟩
theorem kX10_toldAt : a_stat mX10_toldAt := ⟨a_in 1212 (by decide +kernel) (by decide +kernel), iw_10, a_in 1211 (by decide +kernel) (by decide +kernel), by decide +kernel, by decide +kernel, by decide⟩
theorem kX10_triesFrom : a_inst mX10_triesFrom := ⟨a_in 1382 (by decide +kernel) (by decide +kernel), iw_10, ⟨a_in 1381 (by decide +kernel) (by decide +kernel), a_in 97 (by decide +kernel) (by decide +kernel)⟩, by decide +kernel, by decide +kernel, by decide⟩
theorem kX10_turn : a_inst mX10_turn := ⟨a_in 1136 (by decide +kernel) (by decide +kernel), iw_10, ⟨a_in 1134 (by decide +kernel) (by decide +kernel), a_in 1135 (by decide +kernel) (by decide +kernel)⟩, by decide +kernel, by decide +kernel, by decide⟩
theorem kX10_undo : a_inst mX10_undo := ⟨a_in 1105 (by decide +kernel) (by decide +kernel), iw_10, ⟨a_in 1103 (by decide +kernel) (by decide +kernel), a_in 1104 (by decide +kernel) (by decide +kernel)⟩, by decide +kernel, by decide +kernel, by decide⟩
theorem kX10_walks : a_inst mX10_walks := ⟨a_in 1201 (by decide +kernel) (by decide +kernel), iw_10, ⟨a_in 1200 (by decide +kernel) (by decide +kernel), a_in 66 (by decide +kernel) (by decide +kernel)⟩, by decide +kernel, by decide +kernel, by decide⟩
theorem kX10_way : a_inst mX10_way := ⟨a_in 1193 (by decide +kernel) (by decide +kernel), iw_10, ⟨a_in 1191 (by decide +kernel) (by decide +kernel), a_in 1192 (by decide +kernel) (by decide +kernel)⟩, by decide +kernel, by decide +kernel, by decide⟩
theorem kX10_waysAll : a_inst mX10_waysAll := ⟨a_in 1377 (by decide +kernel) (by decide +kernel), iw_10, ⟨a_in 1376 (by decide +kernel) (by decide +kernel), a_in 96 (by decide +kernel) (by decide +kernel)⟩, by decide +kernel, by decide +kernel, by decide⟩
theorem kX10_worthOf : a_inst mX10_worthOf := ⟨a_in 1325 (by decide +kernel) (by decide +kernel), iw_10, ⟨a_in 1324 (by decide +kernel) (by decide +kernel), a_in 87 (by decide +kernel) (by decide +kernel)⟩, by decide +kernel, by decide +kernel, by decide⟩
theorem kX10_would : a_inst mX10_would := ⟨a_in 1333 (by decide +kernel) (by decide +kernel), iw_10, ⟨a_in 1331 (by decide +kernel) (by decide +kernel), a_in 1332 (by decide +kernel) (by decide +kernel)⟩, by decide +kernel, by decide +kernel, by decide⟩
theorem kX10_wrong : a_inst mX10_wrong := ⟨a_in 1197 (by decide +kernel) (by decide +kernel), iw_10, ⟨a_in 1196 (by decide +kernel) (by decide +kernel), a_in 65 (by decide +kernel) (by decide +kernel)⟩, by decide +kernel, by decide +kernel, by decide⟩
theorem kX1_choose : a_inst mX1_choose := ⟨a_in 759 (by decide +kernel) (by decide +kernel), iw_1, ⟨a_in 758 (by decide +kernel) (by decide +kernel), a_in 30 (by decide +kernel) (by decide +kernel)⟩, by decide +kernel, by decide +kernel, by decide⟩
theorem kX1_clear : a_inst mX1_clear := ⟨a_in 755 (by decide +kernel) (by decide +kernel), iw_1, ⟨a_in 754 (by decide +kernel) (by decide +kernel), a_in 29 (by decide +kernel) (by decide +kernel)⟩, by decide +kernel, by decide +kernel, by decide⟩
theorem kX1_isNext : a_inst mX1_isNext := ⟨a_in 763 (by decide +kernel) (by decide +kernel), iw_1, ⟨a_in 762 (by decide +kernel) (by decide +kernel), a_in 31 (by decide +kernel) (by decide +kernel)⟩, by decide +kernel, by decide +kernel, by decide⟩
theorem kX1_key : a_stat mX1_key := ⟨a_in 772 (by decide +kernel) (by decide +kernel), iw_1, a_in 771 (by decide +kernel) (by decide +kernel), by decide +kernel, by decide +kernel, by decide⟩
theorem kX1_lay : a_inst mX1_lay := ⟨a_in 751 (by decide +kernel) (by decide +kernel), iw_1, ⟨a_in 749 (by decide +kernel) (by decide +kernel), a_in 750 (by decide +kernel) (by decide +kernel)⟩, by decide +kernel, by decide +kernel, by decide⟩
theorem kX1_putLast : a_inst mX1_putLast := ⟨a_in 776 (by decide +kernel) (by decide +kernel), iw_1, ⟨a_in 775 (by decide +kernel) (by decide +kernel), a_in 33 (by decide +kernel) (by decide +kernel)⟩, by decide +kernel, by decide +kernel, by decide⟩
theorem kX1_startOf : a_inst mX1_startOf := ⟨a_in 768 (by decide +kernel) (by decide +kernel), iw_1, ⟨a_in 767 (by decide +kernel) (by decide +kernel), a_in 32 (by decide +kernel) (by decide +kernel)⟩, by decide +kernel, by decide +kernel, by decide⟩
theorem kX2_forget : a_inst mX2_forget := ⟨a_in 527 (by decide +kernel) (by decide +kernel), iw_2, ⟨a_in 525 (by decide +kernel) (by decide +kernel), a_in 526 (by decide +kernel) (by decide +kernel)⟩, by decide +kernel, by decide +kernel, by decide⟩
theorem kX2_look : a_inst mX2_look := ⟨a_in 829 (by decide +kernel) (by decide +kernel), iw_2, ⟨a_in 827 (by decide +kernel) (by decide +kernel), a_in 828 (by decide +kernel) (by decide +kernel)⟩, by decide +kernel, by decide +kernel, by decide⟩
theorem kX2_lookAtAll : a_inst mX2_lookAtAll := ⟨a_in 837 (by decide +kernel) (by decide +kernel), iw_2, ⟨a_in 836 (by decide +kernel) (by decide +kernel), a_in 38 (by decide +kernel) (by decide +kernel)⟩, by decide +kernel, by decide +kernel, by decide⟩
theorem kX2_nextOfAll : a_inst mX2_nextOfAll := ⟨a_in 844 (by decide +kernel) (by decide +kernel), iw_2, ⟨a_in 843 (by decide +kernel) (by decide +kernel), a_in 39 (by decide +kernel) (by decide +kernel)⟩, by decide +kernel, by decide +kernel, by decide⟩
theorem kX2_waysOf : a_stat mX2_waysOf := ⟨a_in 832 (by decide +kernel) (by decide +kernel), iw_2, a_in 831 (by decide +kernel) (by decide +kernel), by decide +kernel, by decide +kernel, by decide⟩
theorem kX3_find : a_inst mX3_find := ⟨a_in 697 (by decide +kernel) (by decide +kernel), iw_3, ⟨a_in 695 (by decide +kernel) (by decide +kernel), a_in 696 (by decide +kernel) (by decide +kernel)⟩, by decide +kernel, by decide +kernel, by decide⟩
theorem kX3_keep : a_inst mX3_keep := ⟨a_in 726 (by decide +kernel) (by decide +kernel), iw_3, ⟨a_in 724 (by decide +kernel) (by decide +kernel), a_in 725 (by decide +kernel) (by decide +kernel)⟩, by decide +kernel, by decide +kernel, by decide⟩
theorem kX3_takeOff : a_inst mX3_takeOff := ⟨a_in 731 (by decide +kernel) (by decide +kernel), iw_3, ⟨a_in 730 (by decide +kernel) (by decide +kernel), a_in 28 (by decide +kernel) (by decide +kernel)⟩, by decide +kernel, by decide +kernel, by decide⟩
theorem kX4_begin : a_inst mX4_begin := ⟨a_in 514 (by decide +kernel) (by decide +kernel), iw_4, ⟨a_in 512 (by decide +kernel) (by decide +kernel), a_in 513 (by decide +kernel) (by decide +kernel)⟩, by decide +kernel, by decide +kernel, by decide⟩
theorem kX4_goAhead : a_inst mX4_goAhead := ⟨a_in 869 (by decide +kernel) (by decide +kernel), iw_4, ⟨a_in 867 (by decide +kernel) (by decide +kernel), a_in 868 (by decide +kernel) (by decide +kernel)⟩, by decide +kernel, by decide +kernel, by decide⟩
theorem kX4_goBack : a_inst mX4_goBack := ⟨a_in 861 (by decide +kernel) (by decide +kernel), iw_4, ⟨a_in 859 (by decide +kernel) (by decide +kernel), a_in 860 (by decide +kernel) (by decide +kernel)⟩, by decide +kernel, by decide +kernel, by decide⟩
theorem kX4_note : a_inst mX4_note := ⟨a_in 630 (by decide +kernel) (by decide +kernel), iw_4, ⟨a_in 628 (by decide +kernel) (by decide +kernel), a_in 629 (by decide +kernel) (by decide +kernel)⟩, by decide +kernel, by decide +kernel, by decide⟩
theorem kX5_add : a_inst mX5_add := ⟨a_in 479 (by decide +kernel) (by decide +kernel), iw_5, ⟨a_in 477 (by decide +kernel) (by decide +kernel), a_in 478 (by decide +kernel) (by decide +kernel)⟩, by decide +kernel, by decide +kernel, by decide⟩
theorem kX5_clear : a_inst mX5_clear := ⟨a_in 456 (by decide +kernel) (by decide +kernel), iw_5, ⟨a_in 454 (by decide +kernel) (by decide +kernel), a_in 455 (by decide +kernel) (by decide +kernel)⟩, by decide +kernel, by decide +kernel, by decide⟩
theorem kX5_copyOf : a_inst mX5_copyOf := ⟨a_in 495 (by decide +kernel) (by decide +kernel), iw_5, ⟨a_in 493 (by decide +kernel) (by decide +kernel), a_in 494 (by decide +kernel) (by decide +kernel)⟩, by decide +kernel, by decide +kernel, by decide⟩
theorem kX5_finish : a_inst mX5_finish := ⟨a_in 483 (by decide +kernel) (by decide +kernel), iw_5, ⟨a_in 481 (by decide +kernel) (by decide +kernel), a_in 482 (by decide +kernel) (by decide +kernel)⟩, by decide +kernel, by decide +kernel, by decide⟩
theorem kX5_jobAhead : a_inst mX5_jobAhead := ⟨a_in 487 (by decide +kernel) (by decide +kernel), iw_5, ⟨a_in 485 (by decide +kernel) (by decide +kernel), a_in 486 (by decide +kernel) (by decide +kernel)⟩, by decide +kernel, by decide +kernel, by decide⟩
theorem kX5_jobNext : a_inst mX5_jobNext := ⟨a_in 491 (by decide +kernel) (by decide +kernel), iw_5, ⟨a_in 489 (by decide +kernel) (by decide +kernel), a_in 490 (by decide +kernel) (by decide +kernel)⟩, by decide +kernel, by decide +kernel, by decide⟩
theorem kX5_longestJob : a_inst mX5_longestJob := ⟨a_in 820 (by decide +kernel) (by decide +kernel), iw_5, ⟨a_in 818 (by decide +kernel) (by decide +kernel), a_in 819 (by decide +kernel) (by decide +kernel)⟩, by decide +kernel, by decide +kernel, by decide⟩
theorem kX5_orderByNumbers : a_inst mX5_orderByNumbers := ⟨a_in 506 (by decide +kernel) (by decide +kernel), iw_5, ⟨a_in 504 (by decide +kernel) (by decide +kernel), a_in 505 (by decide +kernel) (by decide +kernel)⟩, by decide +kernel, by decide +kernel, by decide⟩
theorem kX5_tasksOn : a_inst mX5_tasksOn := ⟨a_in 614 (by decide +kernel) (by decide +kernel), iw_5, ⟨a_in 612 (by decide +kernel) (by decide +kernel), a_in 613 (by decide +kernel) (by decide +kernel)⟩, by decide +kernel, by decide +kernel, by decide⟩
theorem kX6_addMove : a_inst mX6_addMove := ⟨a_in 591 (by decide +kernel) (by decide +kernel), iw_6, ⟨a_in 590 (by decide +kernel) (by decide +kernel), a_in 14 (by decide +kernel) (by decide +kernel)⟩, by decide +kernel, by decide +kernel, by decide⟩
theorem kX6_beginning : a_stat mX6_beginning := ⟨a_in 571 (by decide +kernel) (by decide +kernel), iw_6, a_in 570 (by decide +kernel) (by decide +kernel), by decide +kernel, by decide +kernel, by decide⟩
theorem kX6_cutBlocks : a_inst mX6_cutBlocks := ⟨a_in 583 (by decide +kernel) (by decide +kernel), iw_6, ⟨a_in 582 (by decide +kernel) (by decide +kernel), a_in 12 (by decide +kernel) (by decide +kernel)⟩, by decide +kernel, by decide +kernel, by decide⟩
theorem kX6_find : a_inst mX6_find := ⟨a_in 564 (by decide +kernel) (by decide +kernel), iw_6, ⟨a_in 562 (by decide +kernel) (by decide +kernel), a_in 563 (by decide +kernel) (by decide +kernel)⟩, by decide +kernel, by decide +kernel, by decide⟩
theorem kX6_findMoves : a_inst mX6_findMoves := ⟨a_in 587 (by decide +kernel) (by decide +kernel), iw_6, ⟨a_in 586 (by decide +kernel) (by decide +kernel), a_in 13 (by decide +kernel) (by decide +kernel)⟩, by decide +kernel, by decide +kernel, by decide⟩
theorem kX6_first : a_inst mX6_first := ⟨a_in 662 (by decide +kernel) (by decide +kernel), iw_6, ⟨a_in 660 (by decide +kernel) (by decide +kernel), a_in 661 (by decide +kernel) (by decide +kernel)⟩, by decide +kernel, by decide +kernel, by decide⟩
theorem kX6_goesOn : a_stat mX6_goesOn := ⟨a_in 575 (by decide +kernel) (by decide +kernel), iw_6, a_in 574 (by decide +kernel) (by decide +kernel), by decide +kernel, by decide +kernel, by decide⟩
theorem kX6_second : a_inst mX6_second := ⟨a_in 666 (by decide +kernel) (by decide +kernel), iw_6, ⟨a_in 664 (by decide +kernel) (by decide +kernel), a_in 665 (by decide +kernel) (by decide +kernel)⟩, by decide +kernel, by decide +kernel, by decide⟩
theorem kX6_walk : a_inst mX6_walk := ⟨a_in 568 (by decide +kernel) (by decide +kernel), iw_6, ⟨a_in 567 (by decide +kernel) (by decide +kernel), a_in 11 (by decide +kernel) (by decide +kernel)⟩, by decide +kernel, by decide +kernel, by decide⟩
theorem kX7_isFigure : a_inst mX7_isFigure := ⟨a_in 464 (by decide +kernel) (by decide +kernel), iw_7, ⟨a_in 463 (by decide +kernel) (by decide +kernel), a_in 1 (by decide +kernel) (by decide +kernel)⟩, by decide +kernel, by decide +kernel, by decide⟩
theorem kX7_isTask : a_stat mX7_isTask := ⟨a_in 471 (by decide +kernel) (by decide +kernel), iw_7, a_in 470 (by decide +kernel) (by decide +kernel), by decide +kernel, by decide +kernel, by decide⟩
theorem kX7_letterAt : a_inst mX7_letterAt := ⟨a_in 468 (by decide +kernel) (by decide +kernel), iw_7, ⟨a_in 467 (by decide +kernel) (by decide +kernel), a_in 2 (by decide +kernel) (by decide +kernel)⟩, by decide +kernel, by decide +kernel, by decide⟩
theorem kX7_number : a_inst mX7_number := ⟨a_in 475 (by decide +kernel) (by decide +kernel), iw_7, ⟨a_in 474 (by decide +kernel) (by decide +kernel), a_in 3 (by decide +kernel) (by decide +kernel)⟩, by decide +kernel, by decide +kernel, by decide⟩
theorem kX7_put : a_inst mX7_put := ⟨a_in 444 (by decide +kernel) (by decide +kernel), iw_7, ⟨a_in 442 (by decide +kernel) (by decide +kernel), a_in 443 (by decide +kernel) (by decide +kernel)⟩, by decide +kernel, by decide +kernel, by decide⟩
theorem kX7_readInto : a_inst mX7_readInto := ⟨a_in 452 (by decide +kernel) (by decide +kernel), iw_7, ⟨a_in 450 (by decide +kernel) (by decide +kernel), a_in 451 (by decide +kernel) (by decide +kernel)⟩, by decide +kernel, by decide +kernel, by decide⟩
theorem kX7_taskEnd : a_inst mX7_taskEnd := ⟨a_in 460 (by decide +kernel) (by decide +kernel), iw_7, ⟨a_in 459 (by decide +kernel) (by decide +kernel), a_in 0 (by decide +kernel) (by decide +kernel)⟩, by decide +kernel, by decide +kernel, by decide⟩
theorem kX8_atLeast : a_inst mX8_atLeast := ⟨a_in 677 (by decide +kernel) (by decide +kernel), iw_8, ⟨a_in 675 (by decide +kernel) (by decide +kernel), a_in 676 (by decide +kernel) (by decide +kernel)⟩, by decide +kernel, by decide +kernel, by decide⟩
theorem kX8_endOf : a_inst mX8_endOf := ⟨a_in 681 (by decide +kernel) (by decide +kernel), iw_8, ⟨a_in 680 (by decide +kernel) (by decide +kernel), a_in 21 (by decide +kernel) (by decide +kernel)⟩, by decide +kernel, by decide +kernel, by decide⟩
theorem kX8_lay : a_inst mX8_lay := ⟨a_in 535 (by decide +kernel) (by decide +kernel), iw_8, ⟨a_in 533 (by decide +kernel) (by decide +kernel), a_in 534 (by decide +kernel) (by decide +kernel)⟩, by decide +kernel, by decide +kernel, by decide⟩
theorem kX8_layTails : a_inst mX8_layTails := ⟨a_in 556 (by decide +kernel) (by decide +kernel), iw_8, ⟨a_in 554 (by decide +kernel) (by decide +kernel), a_in 555 (by decide +kernel) (by decide +kernel)⟩, by decide +kernel, by decide +kernel, by decide⟩
theorem kX8_link : a_inst mX8_link := ⟨a_in 539 (by decide +kernel) (by decide +kernel), iw_8, ⟨a_in 538 (by decide +kernel) (by decide +kernel), a_in 7 (by decide +kernel) (by decide +kernel)⟩, by decide +kernel, by decide +kernel, by decide⟩
theorem kX8_queueFree : a_inst mX8_queueFree := ⟨a_in 543 (by decide +kernel) (by decide +kernel), iw_8, ⟨a_in 542 (by decide +kernel) (by decide +kernel), a_in 8 (by decide +kernel) (by decide +kernel)⟩, by decide +kernel, by decide +kernel, by decide⟩
theorem kX8_release : a_inst mX8_release := ⟨a_in 552 (by decide +kernel) (by decide +kernel), iw_8, ⟨a_in 551 (by decide +kernel) (by decide +kernel), a_in 9 (by decide +kernel) (by decide +kernel)⟩, by decide +kernel, by decide +kernel, by decide⟩
theorem kX8_toCome : a_inst mX8_toCome := ⟨a_in 560 (by decide +kernel) (by decide +kernel), iw_8, ⟨a_in 559 (by decide +kernel) (by decide +kernel), a_in 10 (by decide +kernel) (by decide +kernel)⟩, by decide +kernel, by decide +kernel, by decide⟩
theorem kX9_all : a_inst mX9_all := ⟨a_in 825 (by decide +kernel) (by decide +kernel), iw_9, ⟨a_in 823 (by decide +kernel) (by decide +kernel), a_in 824 (by decide +kernel) (by decide +kernel)⟩, by decide +kernel, by decide +kernel, by decide⟩
theorem kX9_back : a_inst mX9_back := ⟨a_in 877 (by decide +kernel) (by decide +kernel), iw_9, ⟨a_in 875 (by decide +kernel) (by decide +kernel), a_in 876 (by decide +kernel) (by decide +kernel)⟩, by decide +kernel, by decide +kernel, by decide⟩
theorem kX9_best : a_inst mX9_best := ⟨a_in 739 (by decide +kernel) (by decide +kernel), iw_9, ⟨a_in 737 (by decide +kernel) (by decide +kernel), a_in 738 (by decide +kernel) (by decide +kernel)⟩, by decide +kernel, by decide +kernel, by decide⟩
theorem kX9_block : a_inst mX9_block := ⟨a_in 654 (by decide +kernel) (by decide +kernel), iw_9, ⟨a_in 652 (by decide +kernel) (by decide +kernel), a_in 653 (by decide +kernel) (by decide +kernel)⟩, by decide +kernel, by decide +kernel, by decide⟩
theorem kX9_bound : a_inst mX9_bound := ⟨a_in 816 (by decide +kernel) (by decide +kernel), iw_9, ⟨a_in 814 (by decide +kernel) (by decide +kernel), a_in 815 (by decide +kernel) (by decide +kernel)⟩, by decide +kernel, by decide +kernel, by decide⟩
theorem kX9_brings : a_inst mX9_brings := ⟨a_in 673 (by decide +kernel) (by decide +kernel), iw_9, ⟨a_in 671 (by decide +kernel) (by decide +kernel), a_in 672 (by decide +kernel) (by decide +kernel)⟩, by decide +kernel, by decide +kernel, by decide⟩
theorem kX9_changePlaces : a_inst mX9_changePlaces := ⟨a_in 622 (by decide +kernel) (by decide +kernel), iw_9, ⟨a_in 621 (by decide +kernel) (by decide +kernel), a_in 17 (by decide +kernel) (by decide +kernel)⟩, by decide +kernel, by decide +kernel, by decide⟩
theorem kX9_changed : a_inst mX9_changed := ⟨a_in 626 (by decide +kernel) (by decide +kernel), iw_9, ⟨a_in 625 (by decide +kernel) (by decide +kernel), a_in 18 (by decide +kernel) (by decide +kernel)⟩, by decide +kernel, by decide +kernel, by decide⟩
theorem kX9_chart : a_inst mX9_chart := ⟨a_in 849 (by decide +kernel) (by decide +kernel), iw_9, ⟨a_in 847 (by decide +kernel) (by decide +kernel), a_in 848 (by decide +kernel) (by decide +kernel)⟩, by decide +kernel, by decide +kernel, by decide⟩
theorem kX9_chartByte : a_inst mX9_chartByte := ⟨a_in 853 (by decide +kernel) (by decide +kernel), iw_9, ⟨a_in 852 (by decide +kernel) (by decide +kernel), a_in 40 (by decide +kernel) (by decide +kernel)⟩, by decide +kernel, by decide +kernel, by decide⟩
theorem kX9_chosen : a_inst mX9_chosen := ⟨a_in 722 (by decide +kernel) (by decide +kernel), iw_9, ⟨a_in 721 (by decide +kernel) (by decide +kernel), a_in 27 (by decide +kernel) (by decide +kernel)⟩, by decide +kernel, by decide +kernel, by decide⟩
theorem kX9_copyRow : a_stat mX9_copyRow := ⟨a_in 498 (by decide +kernel) (by decide +kernel), iw_9, a_in 497 (by decide +kernel) (by decide +kernel), by decide +kernel, by decide +kernel, by decide⟩
theorem kX9_count : a_inst mX9_count := ⟨a_in 881 (by decide +kernel) (by decide +kernel), iw_9, ⟨a_in 879 (by decide +kernel) (by decide +kernel), a_in 880 (by decide +kernel) (by decide +kernel)⟩, by decide +kernel, by decide +kernel, by decide⟩
theorem kX9_dispatch : a_inst mX9_dispatch := ⟨a_in 743 (by decide +kernel) (by decide +kernel), iw_9, ⟨a_in 741 (by decide +kernel) (by decide +kernel), a_in 742 (by decide +kernel) (by decide +kernel)⟩, by decide +kernel, by decide +kernel, by decide⟩
theorem kX9_does : a_inst mX9_does := ⟨a_in 701 (by decide +kernel) (by decide +kernel), iw_9, ⟨a_in 699 (by decide +kernel) (by decide +kernel), a_in 700 (by decide +kernel) (by decide +kernel)⟩, by decide +kernel, by decide +kernel, by decide⟩
theorem kX9_feed : a_inst mX9_feed := ⟨a_in 440 (by decide +kernel) (by decide +kernel), iw_9, ⟨a_in 438 (by decide +kernel) (by decide +kernel), a_in 439 (by decide +kernel) (by decide +kernel)⟩, by decide +kernel, by decide +kernel, by decide⟩
theorem kX9_forgetSteps : a_inst mX9_forgetSteps := ⟨a_in 519 (by decide +kernel) (by decide +kernel), iw_9, ⟨a_in 518 (by decide +kernel) (by decide +kernel), a_in 5 (by decide +kernel) (by decide +kernel)⟩, by decide +kernel, by decide +kernel, by decide⟩
theorem kX9_goOn : a_inst mX9_goOn := ⟨a_in 713 (by decide +kernel) (by decide +kernel), iw_9, ⟨a_in 712 (by decide +kernel) (by decide +kernel), a_in 25 (by decide +kernel) (by decide +kernel)⟩, by decide +kernel, by decide +kernel, by decide⟩
theorem kX9_image : a_inst mX9_image := ⟨a_in 873 (by decide +kernel) (by decide +kernel), iw_9, ⟨a_in 871 (by decide +kernel) (by decide +kernel), a_in 872 (by decide +kernel) (by decide +kernel)⟩, by decide +kernel, by decide +kernel, by decide⟩
theorem kX9_kept : a_inst mX9_kept := ⟨a_in 735 (by decide +kernel) (by decide +kernel), iw_9, ⟨a_in 733 (by decide +kernel) (by decide +kernel), a_in 734 (by decide +kernel) (by decide +kernel)⟩, by decide +kernel, by decide +kernel, by decide⟩
theorem kX9_keptSince : a_inst mX9_keptSince := ⟨a_in 693 (by decide +kernel) (by decide +kernel), iw_9, ⟨a_in 692 (by decide +kernel) (by decide +kernel), a_in 24 (by decide +kernel) (by decide +kernel)⟩, by decide +kernel, by decide +kernel, by decide⟩
theorem kX9_lookForLeast : a_inst mX9_lookForLeast := ⟨a_in 717 (by decide +kernel) (by decide +kernel), iw_9, ⟨a_in 716 (by decide +kernel) (by decide +kernel), a_in 26 (by decide +kernel) (by decide +kernel)⟩, by decide +kernel, by decide +kernel, by decide⟩
theorem kX9_machine : a_inst mX9_machine := ⟨a_in 781 (by decide +kernel) (by decide +kernel), iw_9, ⟨a_in 779 (by decide +kernel) (by decide +kernel), a_in 780 (by decide +kernel) (by decide +kernel)⟩, by decide +kernel, by decide +kernel, by decide⟩
theorem kX9_move : a_inst mX9_move := ⟨a_in 658 (by decide +kernel) (by decide +kernel), iw_9, ⟨a_in 656 (by decide +kernel) (by decide +kernel), a_in 657 (by decide +kernel) (by decide +kernel)⟩, by decide +kernel, by decide +kernel, by decide⟩
theorem kX9_nextOrder : a_stat mX9_nextOrder := ⟨a_in 798 (by decide +kernel) (by decide +kernel), iw_9, a_in 797 (by decide +kernel) (by decide +kernel), by decide +kernel, by decide +kernel, by decide⟩
theorem kX9_noMachine : a_stat mX9_noMachine := ⟨a_in 606 (by decide +kernel) (by decide +kernel), iw_9, a_in 605 (by decide +kernel) (by decide +kernel), by decide +kernel, by decide +kernel, by decide⟩
theorem kX9_noShop : a_inst mX9_noShop := ⟨a_in 610 (by decide +kernel) (by decide +kernel), iw_9, ⟨a_in 609 (by decide +kernel) (by decide +kernel), a_in 16 (by decide +kernel) (by decide +kernel)⟩, by decide +kernel, by decide +kernel, by decide⟩
theorem kX9_noTask : a_inst mX9_noTask := ⟨a_in 599 (by decide +kernel) (by decide +kernel), iw_9, ⟨a_in 598 (by decide +kernel) (by decide +kernel), a_in 15 (by decide +kernel) (by decide +kernel)⟩, by decide +kernel, by decide +kernel, by decide⟩
theorem kX9_of : a_inst mX9_of := ⟨a_in 646 (by decide +kernel) (by decide +kernel), iw_9, ⟨a_in 644 (by decide +kernel) (by decide +kernel), a_in 645 (by decide +kernel) (by decide +kernel)⟩, by decide +kernel, by decide +kernel, by decide⟩
theorem kX9_order : a_inst mX9_order := ⟨a_in 603 (by decide +kernel) (by decide +kernel), iw_9, ⟨a_in 601 (by decide +kernel) (by decide +kernel), a_in 602 (by decide +kernel) (by decide +kernel)⟩, by decide +kernel, by decide +kernel, by decide⟩
theorem kX9_pair : a_stat mX9_pair := ⟨a_in 669 (by decide +kernel) (by decide +kernel), iw_9, a_in 668 (by decide +kernel) (by decide +kernel), by decide +kernel, by decide +kernel, by decide⟩
theorem kX9_redo : a_inst mX9_redo := ⟨a_in 865 (by decide +kernel) (by decide +kernel), iw_9, ⟨a_in 863 (by decide +kernel) (by decide +kernel), a_in 864 (by decide +kernel) (by decide +kernel)⟩, by decide +kernel, by decide +kernel, by decide⟩
theorem kX9_refusedByState : a_inst mX9_refusedByState := ⟨a_in 642 (by decide +kernel) (by decide +kernel), iw_9, ⟨a_in 641 (by decide +kernel) (by decide +kernel), a_in 20 (by decide +kernel) (by decide +kernel)⟩, by decide +kernel, by decide +kernel, by decide⟩
theorem kX9_settle : a_inst mX9_settle := ⟨a_in 531 (by decide +kernel) (by decide +kernel), iw_9, ⟨a_in 530 (by decide +kernel) (by decide +kernel), a_in 6 (by decide +kernel) (by decide +kernel)⟩, by decide +kernel, by decide +kernel, by decide⟩
theorem kX9_shop : a_inst mX9_shop := ⟨a_in 448 (by decide +kernel) (by decide +kernel), iw_9, ⟨a_in 446 (by decide +kernel) (by decide +kernel), a_in 447 (by decide +kernel) (by decide +kernel)⟩, by decide +kernel, by decide +kernel, by decide⟩
theorem kX9_slotOf : a_inst mX9_slotOf := ⟨a_in 689 (by decide +kernel) (by decide +kernel), iw_9, ⟨a_in 688 (by decide +kernel) (by decide +kernel), a_in 23 (by decide +kernel) (by decide +kernel)⟩, by decide +kernel, by decide +kernel, by decide⟩
theorem kX9_span : a_inst mX9_span := ⟨a_in 638 (by decide +kernel) (by decide +kernel), iw_9, ⟨a_in 636 (by decide +kernel) (by decide +kernel), a_in 637 (by decide +kernel) (by decide +kernel)⟩, by decide +kernel, by decide +kernel, by decide⟩
theorem kX9_spanBehind : a_inst mX9_spanBehind := ⟨a_in 685 (by decide +kernel) (by decide +kernel), iw_9, ⟨a_in 684 (by decide +kernel) (by decide +kernel), a_in 22 (by decide +kernel) (by decide +kernel)⟩, by decide +kernel, by decide +kernel, by decide⟩
theorem kX9_spanOrRing : a_inst mX9_spanOrRing := ⟨a_in 634 (by decide +kernel) (by decide +kernel), iw_9, ⟨a_in 633 (by decide +kernel) (by decide +kernel), a_in 19 (by decide +kernel) (by decide +kernel)⟩, by decide +kernel, by decide +kernel, by decide⟩
theorem kX9_startAnew : a_inst mX9_startAnew := ⟨a_in 510 (by decide +kernel) (by decide +kernel), iw_9, ⟨a_in 509 (by decide +kernel) (by decide +kernel), a_in 4 (by decide +kernel) (by decide +kernel)⟩, by decide +kernel, by decide +kernel, by decide⟩
theorem kX9_step : a_inst mX9_step := ⟨a_in 709 (by decide +kernel) (by decide +kernel), iw_9, ⟨a_in 707 (by decide +kernel) (by decide +kernel), a_in 708 (by decide +kernel) (by decide +kernel)⟩, by decide +kernel, by decide +kernel, by decide⟩
theorem kX9_tabu : a_inst mX9_tabu := ⟨a_in 705 (by decide +kernel) (by decide +kernel), iw_9, ⟨a_in 703 (by decide +kernel) (by decide +kernel), a_in 704 (by decide +kernel) (by decide +kernel)⟩, by decide +kernel, by decide +kernel, by decide⟩
theorem kX9_task : a_inst mX9_task := ⟨a_in 595 (by decide +kernel) (by decide +kernel), iw_9, ⟨a_in 593 (by decide +kernel) (by decide +kernel), a_in 594 (by decide +kernel) (by decide +kernel)⟩, by decide +kernel, by decide +kernel, by decide⟩
theorem kX9_turn : a_inst mX9_turn := ⟨a_in 618 (by decide +kernel) (by decide +kernel), iw_9, ⟨a_in 616 (by decide +kernel) (by decide +kernel), a_in 617 (by decide +kernel) (by decide +kernel)⟩, by decide +kernel, by decide +kernel, by decide⟩
theorem kX9_undo : a_inst mX9_undo := ⟨a_in 857 (by decide +kernel) (by decide +kernel), iw_9, ⟨a_in 855 (by decide +kernel) (by decide +kernel), a_in 856 (by decide +kernel) (by decide +kernel)⟩, by decide +kernel, by decide +kernel, by decide⟩
theorem kX9_way : a_inst mX9_way := ⟨a_in 650 (by decide +kernel) (by decide +kernel), iw_9, ⟨a_in 648 (by decide +kernel) (by decide +kernel), a_in 649 (by decide +kernel) (by decide +kernel)⟩, by decide +kernel, by decide +kernel, by decide⟩
theorem kX9_would : a_inst mX9_would := ⟨a_in 747 (by decide +kernel) (by decide +kernel), iw_9, ⟨a_in 745 (by decide +kernel) (by decide +kernel), a_in 746 (by decide +kernel) (by decide +kernel)⟩, by decide +kernel, by decide +kernel, by decide⟩
theorem fl_9_10 : Cond.fieldLink RX9 10 (TX9 0).1 (TX9 0).2.1 (TX9 0).2.2.1 ∈ a_ws := a_in 385 (by decide +kernel) (by decide +kernel)
theorem fl_9_19 : Cond.fieldLink RX9 19 (TX9 1).1 (TX9 1).2.1 (TX9 1).2.2.1 ∈ a_ws := a_in 386 (by decide +kernel) (by decide +kernel)
theorem fl_9_23 : Cond.fieldLink RX9 23 (TX9 2).1 (TX9 2).2.1 (TX9 2).2.2.1 ∈ a_ws := a_in 387 (by decide +kernel) (by decide +kernel)
theorem fl_9_26 : Cond.fieldLink RX9 26 (TX9 3).1 (TX9 3).2.1 (TX9 3).2.2.1 ∈ a_ws := a_in 388 (by decide +kernel) (by decide +kernel)
theorem fl_9_33 : Cond.fieldLink RX9 33 (TX9 4).1 (TX9 4).2.1 (TX9 4).2.2.1 ∈ a_ws := a_in 389 (by decide +kernel) (by decide +kernel)
theorem fl_9_37 : Cond.fieldLink RX9 37 (TX9 5).1 (TX9 5).2.1 (TX9 5).2.2.1 ∈ a_ws := a_in 390 (by decide +kernel) (by decide +kernel)
theorem fl_9_43 : Cond.fieldLink RX9 43 (TX9 6).1 (TX9 6).2.1 (TX9 6).2.2.1 ∈ a_ws := a_in 391 (by decide +kernel) (by decide +kernel)
theorem fl_9_50 : Cond.fieldLink RX9 50 (TX9 7).1 (TX9 7).2.1 (TX9 7).2.2.1 ∈ a_ws := a_in 392 (by decide +kernel) (by decide +kernel)
theorem fl_9_57 : Cond.fieldLink RX9 57 (TX9 8).1 (TX9 8).2.1 (TX9 8).2.2.1 ∈ a_ws := a_in 393 (by decide +kernel) (by decide +kernel)
theorem fl_9_64 : Cond.fieldLink RX9 64 (TX9 9).1 (TX9 9).2.1 (TX9 9).2.2.1 ∈ a_ws := a_in 394 (by decide +kernel) (by decide +kernel)
theorem fl_9_71 : Cond.fieldLink RX9 71 (TX9 10).1 (TX9 10).2.1 (TX9 10).2.2.1 ∈ a_ws := a_in 395 (by decide +kernel) (by decide +kernel)
theorem fl_9_78 : Cond.fieldLink RX9 78 (TX9 11).1 (TX9 11).2.1 (TX9 11).2.2.1 ∈ a_ws := a_in 396 (by decide +kernel) (by decide +kernel)
theorem fl_9_82 : Cond.fieldLink RX9 82 (TX9 12).1 (TX9 12).2.1 (TX9 12).2.2.1 ∈ a_ws := a_in 397 (by decide +kernel) (by decide +kernel)
theorem fl_9_85 : Cond.fieldLink RX9 85 (TX9 13).1 (TX9 13).2.1 (TX9 13).2.2.1 ∈ a_ws := a_in 398 (by decide +kernel) (by decide +kernel)
theorem fl_9_88 : Cond.fieldLink RX9 88 (TX9 14).1 (TX9 14).2.1 (TX9 14).2.2.1 ∈ a_ws := a_in 399 (by decide +kernel) (by decide +kernel)
theorem fl_9_91 : Cond.fieldLink RX9 91 (TX9 15).1 (TX9 15).2.1 (TX9 15).2.2.1 ∈ a_ws := a_in 400 (by decide +kernel) (by decide +kernel)
theorem fl_9_95 : Cond.fieldLink RX9 95 (TX9 16).1 (TX9 16).2.1 (TX9 16).2.2.1 ∈ a_ws := a_in 401 (by decide +kernel) (by decide +kernel)
theorem fl_9_98 : Cond.fieldLink RX9 98 (TX7 1).1 (TX7 1).2.1 (TX7 1).2.2.1 ∈ a_ws := a_in 133 (by decide +kernel) (by decide +kernel)
theorem fl_9_120 : Cond.fieldLink RX9 120 (TX5 1).1 (TX5 1).2.1 (TX5 1).2.2.1 ∈ a_ws := a_in 151 (by decide +kernel) (by decide +kernel)
theorem fl_9_127 : Cond.fieldLink RX9 127 (TX5 2).1 (TX5 2).2.1 (TX5 2).2.2.1 ∈ a_ws := a_in 155 (by decide +kernel) (by decide +kernel)
theorem fl_9_130 : Cond.fieldLink RX9 130 (TX5 3).1 (TX5 3).2.1 (TX5 3).2.2.1 ∈ a_ws := a_in 159 (by decide +kernel) (by decide +kernel)
theorem fl_9_133 : Cond.fieldLink RX9 133 (TX5 4).1 (TX5 4).2.1 (TX5 4).2.2.1 ∈ a_ws := a_in 162 (by decide +kernel) (by decide +kernel)
theorem fl_9_136 : Cond.fieldLink RX9 136 (TX5 5).1 (TX5 5).2.1 (TX5 5).2.2.1 ∈ a_ws := a_in 167 (by decide +kernel) (by decide +kernel)
theorem fl_9_139 : Cond.fieldLink RX9 139 (TX8 0).1 (TX8 0).2.1 (TX8 0).2.2.1 ∈ a_ws := a_in 207 (by decide +kernel) (by decide +kernel)
theorem fl_9_153 : Cond.fieldLink RX9 153 (TX5 8).1 (TX5 8).2.1 (TX5 8).2.2.1 ∈ a_ws := a_in 178 (by decide +kernel) (by decide +kernel)
theorem fl_9_169 : Cond.fieldLink RX9 169 (TX8 9).1 (TX8 9).2.1 (TX8 9).2.2.1 ∈ a_ws := a_in 224 (by decide +kernel) (by decide +kernel)
theorem fl_9_172 : Cond.fieldLink RX9 172 (TX8 3).1 (TX8 3).2.1 (TX8 3).2.2.1 ∈ a_ws := a_in 213 (by decide +kernel) (by decide +kernel)
theorem fl_9_175 : Cond.fieldLink RX9 175 (TX8 4).1 (TX8 4).2.1 (TX8 4).2.2.1 ∈ a_ws := a_in 215 (by decide +kernel) (by decide +kernel)
theorem fl_9_178 : Cond.fieldLink RX9 178 (TX8 5).1 (TX8 5).2.1 (TX8 5).2.2.1 ∈ a_ws := a_in 218 (by decide +kernel) (by decide +kernel)
theorem fl_9_181 : Cond.fieldLink RX9 181 (TX6 1).1 (TX6 1).2.1 (TX6 1).2.2.1 ∈ a_ws := a_in 260 (by decide +kernel) (by decide +kernel)
theorem fl_9_182 : Cond.fieldLink RX9 182 (TX6 0).1 (TX6 0).2.1 (TX6 0).2.2.1 ∈ a_ws := a_in 258 (by decide +kernel) (by decide +kernel)
theorem fl_9_184 : Cond.fieldLink RX9 184 (TX6 3).1 (TX6 3).2.1 (TX6 3).2.2.1 ∈ a_ws := a_in 264 (by decide +kernel) (by decide +kernel)
theorem fl_9_187 : Cond.fieldLink RX9 187 (TX6 2).1 (TX6 2).2.1 (TX6 2).2.2.1 ∈ a_ws := a_in 262 (by decide +kernel) (by decide +kernel)
theorem fl_9_190 : Cond.fieldLink RX9 190 (TX6 5).1 (TX6 5).2.1 (TX6 5).2.2.1 ∈ a_ws := a_in 267 (by decide +kernel) (by decide +kernel)
theorem fl_9_216 : Cond.fieldLink RX9 216 (TX3 2).1 (TX3 2).2.1 (TX3 2).2.2.1 ∈ a_ws := a_in 292 (by decide +kernel) (by decide +kernel)
theorem fl_9_225 : Cond.fieldLink RX9 225 (TX3 1).1 (TX3 1).2.1 (TX3 1).2.2.1 ∈ a_ws := a_in 290 (by decide +kernel) (by decide +kernel)
theorem fl_9_228 : Cond.fieldLink RX9 228 (TX3 0).1 (TX3 0).2.1 (TX3 0).2.2.1 ∈ a_ws := a_in 288 (by decide +kernel) (by decide +kernel)
theorem fl_9_238 : Cond.fieldLink RX9 238 (TX1 0).1 (TX1 0).2.1 (TX1 0).2.2.1 ∈ a_ws := a_in 327 (by decide +kernel) (by decide +kernel)
theorem fl_9_243 : Cond.fieldLink RX9 243 (TX1 5).1 (TX1 5).2.1 (TX1 5).2.2.1 ∈ a_ws := a_in 333 (by decide +kernel) (by decide +kernel)
theorem fl_9_263 : Cond.fieldLink RX9 263 (TX2 2).1 (TX2 2).2.1 (TX2 2).2.2.1 ∈ a_ws := a_in 373 (by decide +kernel) (by decide +kernel)
theorem fl_9_266 : Cond.fieldLink RX9 266 (TX2 3).1 (TX2 3).2.1 (TX2 3).2.2.1 ∈ a_ws := a_in 375 (by decide +kernel) (by decide +kernel)
theorem fl_9_277 : Cond.fieldLink RX9 277 (TX4 1).1 (TX4 1).2.1 (TX4 1).2.2.1 ∈ a_ws := a_in 310 (by decide +kernel) (by decide +kernel)
theorem fl_9_283 : Cond.fieldLink RX9 283 (TX4 2).1 (TX4 2).2.1 (TX4 2).2.2.1 ∈ a_ws := a_in 312 (by decide +kernel) (by decide +kernel)
theorem fl_9_286 : Cond.fieldLink RX9 286 (TX5 0).1 (TX5 0).2.1 (TX5 0).2.2.1 ∈ a_ws := a_in 147 (by decide +kernel) (by decide +kernel)
theorem fl_9_288 : Cond.fieldLink RX9 288 (TX8 10).1 (TX8 10).2.1 (TX8 10).2.2.1 ∈ a_ws := a_in 227 (by decide +kernel) (by decide +kernel)
theorem fl_0_9 : Cond.fieldLink RX0 9 (TX0 0).1 (TX0 0).2.1 (TX0 0).2.2.1 ∈ a_ws := a_in 354 (by decide +kernel) (by decide +kernel)
theorem fl_0_15 : Cond.fieldLink RX0 15 (TX0 1).1 (TX0 1).2.1 (TX0 1).2.2.1 ∈ a_ws := a_in 355 (by decide +kernel) (by decide +kernel)
theorem fl_0_18 : Cond.fieldLink RX0 18 (TX0 2).1 (TX0 2).2.1 (TX0 2).2.2.1 ∈ a_ws := a_in 356 (by decide +kernel) (by decide +kernel)
theorem fl_0_31 : Cond.fieldLink RX0 31 (TX5 1).1 (TX5 1).2.1 (TX5 1).2.2.1 ∈ a_ws := a_in 152 (by decide +kernel) (by decide +kernel)
theorem fl_0_34 : Cond.fieldLink RX0 34 (TX5 4).1 (TX5 4).2.1 (TX5 4).2.2.1 ∈ a_ws := a_in 161 (by decide +kernel) (by decide +kernel)
theorem fl_0_50 : Cond.fieldLink RX0 50 (TX5 6).1 (TX5 6).2.1 (TX5 6).2.2.1 ∈ a_ws := a_in 172 (by decide +kernel) (by decide +kernel)
theorem fl_0_56 : Cond.fieldLink RX0 56 (TX5 5).1 (TX5 5).2.1 (TX5 5).2.2.1 ∈ a_ws := a_in 168 (by decide +kernel) (by decide +kernel)
theorem fl_0_59 : Cond.fieldLink RX0 59 (TX5 7).1 (TX5 7).2.1 (TX5 7).2.2.1 ∈ a_ws := a_in 174 (by decide +kernel) (by decide +kernel)
theorem fl_1_9 : Cond.fieldLink RX1 9 (TX1 0).1 (TX1 0).2.1 (TX1 0).2.2.1 ∈ a_ws := a_in 326 (by decide +kernel) (by decide +kernel)
theorem fl_1_15 : Cond.fieldLink RX1 15 (TX1 1).1 (TX1 1).2.1 (TX1 1).2.2.1 ∈ a_ws := a_in 328 (by decide +kernel) (by decide +kernel)
theorem fl_1_18 : Cond.fieldLink RX1 18 (TX1 2).1 (TX1 2).2.1 (TX1 2).2.2.1 ∈ a_ws := a_in 329 (by decide +kernel) (by decide +kernel)
theorem fl_1_21 : Cond.fieldLink RX1 21 (TX1 3).1 (TX1 3).2.1 (TX1 3).2.2.1 ∈ a_ws := a_in 330 (by decide +kernel) (by decide +kernel)
theorem fl_1_24 : Cond.fieldLink RX1 24 (TX1 4).1 (TX1 4).2.1 (TX1 4).2.2.1 ∈ a_ws := a_in 331 (by decide +kernel) (by decide +kernel)
theorem fl_1_28 : Cond.fieldLink RX1 28 (TX1 5).1 (TX1 5).2.1 (TX1 5).2.2.1 ∈ a_ws := a_in 332 (by decide +kernel) (by decide +kernel)
theorem fl_1_35 : Cond.fieldLink RX1 35 (TX5 1).1 (TX5 1).2.1 (TX5 1).2.2.1 ∈ a_ws := a_in 149 (by decide +kernel) (by decide +kernel)
theorem fl_1_63 : Cond.fieldLink RX1 63 (TX5 4).1 (TX5 4).2.1 (TX5 4).2.2.1 ∈ a_ws := a_in 163 (by decide +kernel) (by decide +kernel)
theorem fl_1_66 : Cond.fieldLink RX1 66 (TX5 2).1 (TX5 2).2.1 (TX5 2).2.2.1 ∈ a_ws := a_in 156 (by decide +kernel) (by decide +kernel)
theorem fl_1_75 : Cond.fieldLink RX1 75 (TX5 5).1 (TX5 5).2.1 (TX5 5).2.2.1 ∈ a_ws := a_in 170 (by decide +kernel) (by decide +kernel)
theorem fl_1_78 : Cond.fieldLink RX1 78 (TX5 7).1 (TX5 7).2.1 (TX5 7).2.2.1 ∈ a_ws := a_in 175 (by decide +kernel) (by decide +kernel)
theorem fl_1_81 : Cond.fieldLink RX1 81 (TX5 8).1 (TX5 8).2.1 (TX5 8).2.2.1 ∈ a_ws := a_in 180 (by decide +kernel) (by decide +kernel)
theorem fl_2_9 : Cond.fieldLink RX2 9 (TX2 0).1 (TX2 0).2.1 (TX2 0).2.2.1 ∈ a_ws := a_in 370 (by decide +kernel) (by decide +kernel)
theorem fl_2_15 : Cond.fieldLink RX2 15 (TX2 1).1 (TX2 1).2.1 (TX2 1).2.2.1 ∈ a_ws := a_in 371 (by decide +kernel) (by decide +kernel)
theorem fl_2_19 : Cond.fieldLink RX2 19 (TX2 2).1 (TX2 2).2.1 (TX2 2).2.2.1 ∈ a_ws := a_in 372 (by decide +kernel) (by decide +kernel)
theorem fl_2_23 : Cond.fieldLink RX2 23 (TX2 3).1 (TX2 3).2.1 (TX2 3).2.2.1 ∈ a_ws := a_in 374 (by decide +kernel) (by decide +kernel)
theorem fl_2_50 : Cond.fieldLink RX2 50 (TX8 10).1 (TX8 10).2.1 (TX8 10).2.2.1 ∈ a_ws := a_in 226 (by decide +kernel) (by decide +kernel)
theorem fl_2_53 : Cond.fieldLink RX2 53 (TX8 9).1 (TX8 9).2.1 (TX8 9).2.2.1 ∈ a_ws := a_in 223 (by decide +kernel) (by decide +kernel)
theorem fl_2_66 : Cond.fieldLink RX2 66 (TX5 8).1 (TX5 8).2.1 (TX5 8).2.2.1 ∈ a_ws := a_in 179 (by decide +kernel) (by decide +kernel)
theorem fl_3_9 : Cond.fieldLink RX3 9 (TX3 0).1 (TX3 0).2.1 (TX3 0).2.2.1 ∈ a_ws := a_in 287 (by decide +kernel) (by decide +kernel)
theorem fl_3_15 : Cond.fieldLink RX3 15 (TX3 1).1 (TX3 1).2.1 (TX3 1).2.2.1 ∈ a_ws := a_in 289 (by decide +kernel) (by decide +kernel)
theorem fl_3_19 : Cond.fieldLink RX3 19 (TX3 2).1 (TX3 2).2.1 (TX3 2).2.2.1 ∈ a_ws := a_in 291 (by decide +kernel) (by decide +kernel)
theorem fl_4_11 : Cond.fieldLink RX4 11 (TX4 0).1 (TX4 0).2.1 (TX4 0).2.2.1 ∈ a_ws := a_in 308 (by decide +kernel) (by decide +kernel)
theorem fl_4_16 : Cond.fieldLink RX4 16 (TX4 1).1 (TX4 1).2.1 (TX4 1).2.2.1 ∈ a_ws := a_in 309 (by decide +kernel) (by decide +kernel)
theorem fl_4_20 : Cond.fieldLink RX4 20 (TX4 2).1 (TX4 2).2.1 (TX4 2).2.2.1 ∈ a_ws := a_in 311 (by decide +kernel) (by decide +kernel)
theorem fl_5_9 : Cond.fieldLink RX5 9 (TX5 0).1 (TX5 0).2.1 (TX5 0).2.2.1 ∈ a_ws := a_in 146 (by decide +kernel) (by decide +kernel)
theorem fl_5_15 : Cond.fieldLink RX5 15 (TX5 1).1 (TX5 1).2.1 (TX5 1).2.2.1 ∈ a_ws := a_in 148 (by decide +kernel) (by decide +kernel)
theorem fl_5_18 : Cond.fieldLink RX5 18 (TX5 2).1 (TX5 2).2.1 (TX5 2).2.2.1 ∈ a_ws := a_in 154 (by decide +kernel) (by decide +kernel)
theorem fl_5_22 : Cond.fieldLink RX5 22 (TX5 3).1 (TX5 3).2.1 (TX5 3).2.2.1 ∈ a_ws := a_in 158 (by decide +kernel) (by decide +kernel)
theorem fl_5_25 : Cond.fieldLink RX5 25 (TX5 4).1 (TX5 4).2.1 (TX5 4).2.2.1 ∈ a_ws := a_in 160 (by decide +kernel) (by decide +kernel)
theorem fl_5_28 : Cond.fieldLink RX5 28 (TX5 5).1 (TX5 5).2.1 (TX5 5).2.2.1 ∈ a_ws := a_in 165 (by decide +kernel) (by decide +kernel)
theorem fl_5_31 : Cond.fieldLink RX5 31 (TX5 6).1 (TX5 6).2.1 (TX5 6).2.2.1 ∈ a_ws := a_in 171 (by decide +kernel) (by decide +kernel)
theorem fl_5_34 : Cond.fieldLink RX5 34 (TX5 7).1 (TX5 7).2.1 (TX5 7).2.2.1 ∈ a_ws := a_in 173 (by decide +kernel) (by decide +kernel)
theorem fl_5_37 : Cond.fieldLink RX5 37 (TX5 8).1 (TX5 8).2.1 (TX5 8).2.2.1 ∈ a_ws := a_in 176 (by decide +kernel) (by decide +kernel)
theorem fl_6_9 : Cond.fieldLink RX6 9 (TX6 0).1 (TX6 0).2.1 (TX6 0).2.2.1 ∈ a_ws := a_in 257 (by decide +kernel) (by decide +kernel)
theorem fl_6_15 : Cond.fieldLink RX6 15 (TX6 1).1 (TX6 1).2.1 (TX6 1).2.2.1 ∈ a_ws := a_in 259 (by decide +kernel) (by decide +kernel)
theorem fl_6_19 : Cond.fieldLink RX6 19 (TX6 2).1 (TX6 2).2.1 (TX6 2).2.2.1 ∈ a_ws := a_in 261 (by decide +kernel) (by decide +kernel)
theorem fl_6_22 : Cond.fieldLink RX6 22 (TX6 3).1 (TX6 3).2.1 (TX6 3).2.2.1 ∈ a_ws := a_in 263 (by decide +kernel) (by decide +kernel)
theorem fl_6_25 : Cond.fieldLink RX6 25 (TX6 4).1 (TX6 4).2.1 (TX6 4).2.2.1 ∈ a_ws := a_in 265 (by decide +kernel) (by decide +kernel)
theorem fl_6_28 : Cond.fieldLink RX6 28 (TX6 5).1 (TX6 5).2.1 (TX6 5).2.2.1 ∈ a_ws := a_in 266 (by decide +kernel) (by decide +kernel)
theorem fl_6_46 : Cond.fieldLink RX6 46 (TX8 3).1 (TX8 3).2.1 (TX8 3).2.2.1 ∈ a_ws := a_in 212 (by decide +kernel) (by decide +kernel)
theorem fl_6_51 : Cond.fieldLink RX6 51 (TX5 5).1 (TX5 5).2.1 (TX5 5).2.2.1 ∈ a_ws := a_in 169 (by decide +kernel) (by decide +kernel)
theorem fl_6_64 : Cond.fieldLink RX6 64 (TX8 2).1 (TX8 2).2.1 (TX8 2).2.2.1 ∈ a_ws := a_in 210 (by decide +kernel) (by decide +kernel)
theorem fl_6_76 : Cond.fieldLink RX6 76 (TX5 1).1 (TX5 1).2.1 (TX5 1).2.2.1 ∈ a_ws := a_in 153 (by decide +kernel) (by decide +kernel)
theorem fl_6_78 : Cond.fieldLink RX6 78 (TX8 5).1 (TX8 5).2.1 (TX8 5).2.2.1 ∈ a_ws := a_in 217 (by decide +kernel) (by decide +kernel)
theorem fl_6_81 : Cond.fieldLink RX6 81 (TX5 4).1 (TX5 4).2.1 (TX5 4).2.2.1 ∈ a_ws := a_in 164 (by decide +kernel) (by decide +kernel)
theorem fl_6_88 : Cond.fieldLink RX6 88 (TX5 2).1 (TX5 2).2.1 (TX5 2).2.2.1 ∈ a_ws := a_in 157 (by decide +kernel) (by decide +kernel)
theorem fl_7_9 : Cond.fieldLink RX7 9 (TX7 0).1 (TX7 0).2.1 (TX7 0).2.2.1 ∈ a_ws := a_in 131 (by decide +kernel) (by decide +kernel)
theorem fl_7_15 : Cond.fieldLink RX7 15 (TX7 1).1 (TX7 1).2.1 (TX7 1).2.2.1 ∈ a_ws := a_in 132 (by decide +kernel) (by decide +kernel)
theorem fl_8_9 : Cond.fieldLink RX8 9 (TX8 0).1 (TX8 0).2.1 (TX8 0).2.2.1 ∈ a_ws := a_in 206 (by decide +kernel) (by decide +kernel)
theorem fl_8_15 : Cond.fieldLink RX8 15 (TX8 1).1 (TX8 1).2.1 (TX8 1).2.2.1 ∈ a_ws := a_in 208 (by decide +kernel) (by decide +kernel)
theorem fl_8_18 : Cond.fieldLink RX8 18 (TX8 2).1 (TX8 2).2.1 (TX8 2).2.2.1 ∈ a_ws := a_in 209 (by decide +kernel) (by decide +kernel)
theorem fl_8_21 : Cond.fieldLink RX8 21 (TX8 3).1 (TX8 3).2.1 (TX8 3).2.2.1 ∈ a_ws := a_in 211 (by decide +kernel) (by decide +kernel)
theorem fl_8_24 : Cond.fieldLink RX8 24 (TX8 4).1 (TX8 4).2.1 (TX8 4).2.2.1 ∈ a_ws := a_in 214 (by decide +kernel) (by decide +kernel)
theorem fl_8_27 : Cond.fieldLink RX8 27 (TX8 5).1 (TX8 5).2.1 (TX8 5).2.2.1 ∈ a_ws := a_in 216 (by decide +kernel) (by decide +kernel)
theorem fl_8_30 : Cond.fieldLink RX8 30 (TX8 6).1 (TX8 6).2.1 (TX8 6).2.2.1 ∈ a_ws := a_in 219 (by decide +kernel) (by decide +kernel)
theorem fl_8_33 : Cond.fieldLink RX8 33 (TX8 7).1 (TX8 7).2.1 (TX8 7).2.2.1 ∈ a_ws := a_in 220 (by decide +kernel) (by decide +kernel)
theorem fl_8_36 : Cond.fieldLink RX8 36 (TX8 8).1 (TX8 8).2.1 (TX8 8).2.2.1 ∈ a_ws := a_in 221 (by decide +kernel) (by decide +kernel)
theorem fl_8_40 : Cond.fieldLink RX8 40 (TX8 9).1 (TX8 9).2.1 (TX8 9).2.2.1 ∈ a_ws := a_in 222 (by decide +kernel) (by decide +kernel)
theorem fl_8_43 : Cond.fieldLink RX8 43 (TX8 10).1 (TX8 10).2.1 (TX8 10).2.2.1 ∈ a_ws := a_in 225 (by decide +kernel) (by decide +kernel)
theorem fl_8_55 : Cond.fieldLink RX8 55 (TX5 1).1 (TX5 1).2.1 (TX5 1).2.2.1 ∈ a_ws := a_in 150 (by decide +kernel) (by decide +kernel)
theorem fl_8_60 : Cond.fieldLink RX8 60 (TX5 5).1 (TX5 5).2.1 (TX5 5).2.2.1 ∈ a_ws := a_in 166 (by decide +kernel) (by decide +kernel)
theorem fl_8_77 : Cond.fieldLink RX8 77 (TX5 8).1 (TX5 8).2.1 (TX5 8).2.2.1 ∈ a_ws := a_in 177 (by decide +kernel) (by decide +kernel)
theorem fl_10_9 : Cond.fieldLink RX10 9 (TX10 2).1 (TX10 2).2.1 (TX10 2).2.2.1 ∈ a_ws := a_in 890 (by decide +kernel) (by decide +kernel)
theorem fl_10_13 : Cond.fieldLink RX10 13 (TX10 3).1 (TX10 3).2.1 (TX10 3).2.2.1 ∈ a_ws := a_in 891 (by decide +kernel) (by decide +kernel)
theorem fl_10_16 : Cond.fieldLink RX10 16 (TX10 4).1 (TX10 4).2.1 (TX10 4).2.2.1 ∈ a_ws := a_in 892 (by decide +kernel) (by decide +kernel)
theorem fl_10_19 : Cond.fieldLink RX10 19 (TX10 5).1 (TX10 5).2.1 (TX10 5).2.2.1 ∈ a_ws := a_in 893 (by decide +kernel) (by decide +kernel)
theorem fl_10_22 : Cond.fieldLink RX10 22 (TX10 6).1 (TX10 6).2.1 (TX10 6).2.2.1 ∈ a_ws := a_in 894 (by decide +kernel) (by decide +kernel)
theorem fl_10_25 : Cond.fieldLink RX10 25 (TX10 7).1 (TX10 7).2.1 (TX10 7).2.2.1 ∈ a_ws := a_in 895 (by decide +kernel) (by decide +kernel)
theorem fl_10_28 : Cond.fieldLink RX10 28 (TX10 8).1 (TX10 8).2.1 (TX10 8).2.2.1 ∈ a_ws := a_in 896 (by decide +kernel) (by decide +kernel)
theorem fl_10_31 : Cond.fieldLink RX10 31 (TX10 14).1 (TX10 14).2.1 (TX10 14).2.2.1 ∈ a_ws := a_in 902 (by decide +kernel) (by decide +kernel)
theorem fl_10_34 : Cond.fieldLink RX10 34 (TX10 15).1 (TX10 15).2.1 (TX10 15).2.2.1 ∈ a_ws := a_in 903 (by decide +kernel) (by decide +kernel)
theorem fl_10_37 : Cond.fieldLink RX10 37 (TX10 16).1 (TX10 16).2.1 (TX10 16).2.2.1 ∈ a_ws := a_in 904 (by decide +kernel) (by decide +kernel)
theorem fl_10_40 : Cond.fieldLink RX10 40 (TX10 17).1 (TX10 17).2.1 (TX10 17).2.2.1 ∈ a_ws := a_in 905 (by decide +kernel) (by decide +kernel)
theorem fl_10_43 : Cond.fieldLink RX10 43 (TX10 20).1 (TX10 20).2.1 (TX10 20).2.2.1 ∈ a_ws := a_in 908 (by decide +kernel) (by decide +kernel)
theorem fl_10_46 : Cond.fieldLink RX10 46 (TX10 21).1 (TX10 21).2.1 (TX10 21).2.2.1 ∈ a_ws := a_in 909 (by decide +kernel) (by decide +kernel)
theorem fl_10_49 : Cond.fieldLink RX10 49 (TX10 22).1 (TX10 22).2.1 (TX10 22).2.2.1 ∈ a_ws := a_in 910 (by decide +kernel) (by decide +kernel)
theorem fl_10_52 : Cond.fieldLink RX10 52 (TX10 23).1 (TX10 23).2.1 (TX10 23).2.2.1 ∈ a_ws := a_in 911 (by decide +kernel) (by decide +kernel)
theorem fl_10_55 : Cond.fieldLink RX10 55 (TX10 24).1 (TX10 24).2.1 (TX10 24).2.2.1 ∈ a_ws := a_in 912 (by decide +kernel) (by decide +kernel)
theorem fl_10_58 : Cond.fieldLink RX10 58 (TX10 25).1 (TX10 25).2.1 (TX10 25).2.2.1 ∈ a_ws := a_in 913 (by decide +kernel) (by decide +kernel)
theorem fl_10_62 : Cond.fieldLink RX10 62 (TX10 27).1 (TX10 27).2.1 (TX10 27).2.2.1 ∈ a_ws := a_in 915 (by decide +kernel) (by decide +kernel)
theorem fl_10_65 : Cond.fieldLink RX10 65 (TX10 29).1 (TX10 29).2.1 (TX10 29).2.2.1 ∈ a_ws := a_in 917 (by decide +kernel) (by decide +kernel)
theorem fl_10_68 : Cond.fieldLink RX10 68 (TX10 31).1 (TX10 31).2.1 (TX10 31).2.2.1 ∈ a_ws := a_in 919 (by decide +kernel) (by decide +kernel)
theorem fl_10_71 : Cond.fieldLink RX10 71 (TX10 32).1 (TX10 32).2.1 (TX10 32).2.2.1 ∈ a_ws := a_in 920 (by decide +kernel) (by decide +kernel)
theorem fl_10_74 : Cond.fieldLink RX10 74 (TX10 34).1 (TX10 34).2.1 (TX10 34).2.2.1 ∈ a_ws := a_in 922 (by decide +kernel) (by decide +kernel)
theorem fl_10_78 : Cond.fieldLink RX10 78 (TX10 35).1 (TX10 35).2.1 (TX10 35).2.2.1 ∈ a_ws := a_in 923 (by decide +kernel) (by decide +kernel)
theorem fl_10_81 : Cond.fieldLink RX10 81 (TX10 39).1 (TX10 39).2.1 (TX10 39).2.2.1 ∈ a_ws := a_in 927 (by decide +kernel) (by decide +kernel)
theorem fl_10_84 : Cond.fieldLink RX10 84 (TX10 41).1 (TX10 41).2.1 (TX10 41).2.2.1 ∈ a_ws := a_in 929 (by decide +kernel) (by decide +kernel)
theorem fl_10_87 : Cond.fieldLink RX10 87 (TX10 42).1 (TX10 42).2.1 (TX10 42).2.2.1 ∈ a_ws := a_in 930 (by decide +kernel) (by decide +kernel)
theorem fl_10_90 : Cond.fieldLink RX10 90 (TX10 43).1 (TX10 43).2.1 (TX10 43).2.2.1 ∈ a_ws := a_in 931 (by decide +kernel) (by decide +kernel)
theorem fl_10_93 : Cond.fieldLink RX10 93 (TX10 44).1 (TX10 44).2.1 (TX10 44).2.2.1 ∈ a_ws := a_in 932 (by decide +kernel) (by decide +kernel)
theorem fl_10_96 : Cond.fieldLink RX10 96 (TX10 45).1 (TX10 45).2.1 (TX10 45).2.2.1 ∈ a_ws := a_in 933 (by decide +kernel) (by decide +kernel)
theorem fl_10_99 : Cond.fieldLink RX10 99 (TX10 47).1 (TX10 47).2.1 (TX10 47).2.2.1 ∈ a_ws := a_in 935 (by decide +kernel) (by decide +kernel)
theorem fl_10_102 : Cond.fieldLink RX10 102 (TX10 50).1 (TX10 50).2.1 (TX10 50).2.2.1 ∈ a_ws := a_in 938 (by decide +kernel) (by decide +kernel)
theorem fl_10_105 : Cond.fieldLink RX10 105 (TX10 1).1 (TX10 1).2.1 (TX10 1).2.2.1 ∈ a_ws := a_in 889 (by decide +kernel) (by decide +kernel)
theorem fl_10_112 : Cond.fieldLink RX10 112 (TX10 9).1 (TX10 9).2.1 (TX10 9).2.2.1 ∈ a_ws := a_in 897 (by decide +kernel) (by decide +kernel)
theorem fl_10_115 : Cond.fieldLink RX10 115 (TX10 10).1 (TX10 10).2.1 (TX10 10).2.2.1 ∈ a_ws := a_in 898 (by decide +kernel) (by decide +kernel)
theorem fl_10_118 : Cond.fieldLink RX10 118 (TX10 11).1 (TX10 11).2.1 (TX10 11).2.2.1 ∈ a_ws := a_in 899 (by decide +kernel) (by decide +kernel)
theorem fl_10_122 : Cond.fieldLink RX10 122 (TX10 13).1 (TX10 13).2.1 (TX10 13).2.2.1 ∈ a_ws := a_in 901 (by decide +kernel) (by decide +kernel)
theorem fl_10_137 : Cond.fieldLink RX10 137 (TX10 12).1 (TX10 12).2.1 (TX10 12).2.2.1 ∈ a_ws := a_in 900 (by decide +kernel) (by decide +kernel)
theorem fl_10_150 : Cond.fieldLink RX10 150 (TX10 0).1 (TX10 0).2.1 (TX10 0).2.2.1 ∈ a_ws := a_in 888 (by decide +kernel) (by decide +kernel)
theorem fl_10_159 : Cond.fieldLink RX10 159 (TX10 18).1 (TX10 18).2.1 (TX10 18).2.2.1 ∈ a_ws := a_in 906 (by decide +kernel) (by decide +kernel)
theorem fl_10_162 : Cond.fieldLink RX10 162 (TX10 19).1 (TX10 19).2.1 (TX10 19).2.2.1 ∈ a_ws := a_in 907 (by decide +kernel) (by decide +kernel)
theorem fl_10_195 : Cond.fieldLink RX10 195 (TX10 26).1 (TX10 26).2.1 (TX10 26).2.2.1 ∈ a_ws := a_in 914 (by decide +kernel) (by decide +kernel)
theorem fl_10_232 : Cond.fieldLink RX10 232 (TX10 28).1 (TX10 28).2.1 (TX10 28).2.2.1 ∈ a_ws := a_in 916 (by decide +kernel) (by decide +kernel)
theorem fl_10_241 : Cond.fieldLink RX10 241 (TX10 30).1 (TX10 30).2.1 (TX10 30).2.2.1 ∈ a_ws := a_in 918 (by decide +kernel) (by decide +kernel)
theorem fl_10_254 : Cond.fieldLink RX10 254 (TX10 33).1 (TX10 33).2.1 (TX10 33).2.2.1 ∈ a_ws := a_in 921 (by decide +kernel) (by decide +kernel)
theorem fl_10_278 : Cond.fieldLink RX10 278 (TX10 36).1 (TX10 36).2.1 (TX10 36).2.2.1 ∈ a_ws := a_in 924 (by decide +kernel) (by decide +kernel)
theorem fl_10_281 : Cond.fieldLink RX10 281 (TX10 37).1 (TX10 37).2.1 (TX10 37).2.2.1 ∈ a_ws := a_in 925 (by decide +kernel) (by decide +kernel)
theorem fl_10_287 : Cond.fieldLink RX10 287 (TX10 38).1 (TX10 38).2.1 (TX10 38).2.2.1 ∈ a_ws := a_in 926 (by decide +kernel) (by decide +kernel)
theorem fl_10_299 : Cond.fieldLink RX10 299 (TX10 40).1 (TX10 40).2.1 (TX10 40).2.2.1 ∈ a_ws := a_in 928 (by decide +kernel) (by decide +kernel)
theorem fl_10_329 : Cond.fieldLink RX10 329 (TX10 46).1 (TX10 46).2.1 (TX10 46).2.2.1 ∈ a_ws := a_in 934 (by decide +kernel) (by decide +kernel)
theorem fl_10_354 : Cond.fieldLink RX10 354 (TX10 48).1 (TX10 48).2.1 (TX10 48).2.2.1 ∈ a_ws := a_in 936 (by decide +kernel) (by decide +kernel)
theorem fl_10_357 : Cond.fieldLink RX10 357 (TX10 49).1 (TX10 49).2.1 (TX10 49).2.2.1 ∈ a_ws := a_in 937 (by decide +kernel) (by decide +kernel)
theorem fl_10_374 : Cond.fieldLink RX10 374 (TX10 53).1 (TX10 53).2.1 (TX10 53).2.2.1 ∈ a_ws := a_in 941 (by decide +kernel) (by decide +kernel)
theorem fl_10_377 : Cond.fieldLink RX10 377 (TX10 52).1 (TX10 52).2.1 (TX10 52).2.2.1 ∈ a_ws := a_in 940 (by decide +kernel) (by decide +kernel)
theorem fl_10_387 : Cond.fieldLink RX10 387 (TX10 51).1 (TX10 51).2.1 (TX10 51).2.2.1 ∈ a_ws := a_in 939 (by decide +kernel) (by decide +kernel)
theorem ml_9_101 : Cond.methodLink RX9 101 yX7_put ∈ a_ws := a_in 441 (by decide +kernel) (by decide +kernel)
theorem ml_9_105 : Cond.methodLink RX9 105 yX7_readInto ∈ a_ws := a_in 449 (by decide +kernel) (by decide +kernel)
theorem ml_9_109 : Cond.methodLink RX9 109 yX5_copyOf ∈ a_ws := a_in 492 (by decide +kernel) (by decide +kernel)
theorem ml_9_113 : Cond.methodLink RX9 113 yX5_orderByNumbers ∈ a_ws := a_in 503 (by decide +kernel) (by decide +kernel)
theorem ml_9_117 : Cond.methodLink RX9 117 yX9_startAnew ∈ a_ws := a_in 507 (by decide +kernel) (by decide +kernel)
theorem ml_9_123 : Cond.methodLink RX9 123 yX9_noTask ∈ a_ws := a_in 596 (by decide +kernel) (by decide +kernel)
theorem ml_9_142 : Cond.methodLink RX9 142 yX9_noMachine ∈ a_ws := a_in 604 (by decide +kernel) (by decide +kernel)
theorem ml_9_145 : Cond.methodLink RX9 145 yX9_noShop ∈ a_ws := a_in 607 (by decide +kernel) (by decide +kernel)
theorem ml_9_149 : Cond.methodLink RX9 149 yX5_tasksOn ∈ a_ws := a_in 611 (by decide +kernel) (by decide +kernel)
theorem ml_9_156 : Cond.methodLink RX9 156 yX9_changePlaces ∈ a_ws := a_in 619 (by decide +kernel) (by decide +kernel)
theorem ml_9_159 : Cond.methodLink RX9 159 yX9_changed ∈ a_ws := a_in 623 (by decide +kernel) (by decide +kernel)
theorem ml_9_162 : Cond.methodLink RX9 162 yX9_spanOrRing ∈ a_ws := a_in 631 (by decide +kernel) (by decide +kernel)
theorem ml_9_166 : Cond.methodLink RX9 166 yX9_refusedByState ∈ a_ws := a_in 639 (by decide +kernel) (by decide +kernel)
theorem ml_9_193 : Cond.methodLink RX9 193 yX6_first ∈ a_ws := a_in 659 (by decide +kernel) (by decide +kernel)
theorem ml_9_196 : Cond.methodLink RX9 196 yX6_second ∈ a_ws := a_in 663 (by decide +kernel) (by decide +kernel)
theorem ml_9_199 : Cond.methodLink RX9 199 yX9_pair ∈ a_ws := a_in 667 (by decide +kernel) (by decide +kernel)
theorem ml_9_203 : Cond.methodLink RX9 203 yX8_atLeast ∈ a_ws := a_in 674 (by decide +kernel) (by decide +kernel)
theorem ml_9_207 : Cond.methodLink RX9 207 yX9_spanBehind ∈ a_ws := a_in 682 (by decide +kernel) (by decide +kernel)
theorem ml_9_210 : Cond.methodLink RX9 210 yX9_keptSince ∈ a_ws := a_in 690 (by decide +kernel) (by decide +kernel)
theorem ml_9_213 : Cond.methodLink RX9 213 yX9_slotOf ∈ a_ws := a_in 686 (by decide +kernel) (by decide +kernel)
theorem ml_9_219 : Cond.methodLink RX9 219 yX9_forgetSteps ∈ a_ws := a_in 516 (by decide +kernel) (by decide +kernel)
theorem ml_9_222 : Cond.methodLink RX9 222 yX9_goOn ∈ a_ws := a_in 710 (by decide +kernel) (by decide +kernel)
theorem ml_9_231 : Cond.methodLink RX9 231 yX9_copyRow ∈ a_ws := a_in 718 (by decide +kernel) (by decide +kernel)
theorem ml_9_235 : Cond.methodLink RX9 235 yX9_would ∈ a_ws := a_in 744 (by decide +kernel) (by decide +kernel)
theorem ml_9_239 : Cond.methodLink RX9 239 yX1_lay ∈ a_ws := a_in 748 (by decide +kernel) (by decide +kernel)
theorem ml_9_244 : Cond.methodLink RX9 244 yX0_atBest ∈ a_ws := a_in 782 (by decide +kernel) (by decide +kernel)
theorem ml_9_248 : Cond.methodLink RX9 248 yX0_preempted ∈ a_ws := a_in 801 (by decide +kernel) (by decide +kernel)
theorem ml_9_251 : Cond.methodLink RX9 251 yX5_longestJob ∈ a_ws := a_in 817 (by decide +kernel) (by decide +kernel)
theorem ml_9_254 : Cond.methodLink RX9 254 Lib.Math.max.name ∈ a_ws := a_in 799 (by decide +kernel) (by decide +kernel)
theorem ml_9_259 : Cond.methodLink RX9 259 yX2_look ∈ a_ws := a_in 826 (by decide +kernel) (by decide +kernel)
theorem ml_9_267 : Cond.methodLink RX9 267 yX9_chartByte ∈ a_ws := a_in 850 (by decide +kernel) (by decide +kernel)
theorem ml_9_270 : Cond.methodLink RX9 270 yX4_goBack ∈ a_ws := a_in 858 (by decide +kernel) (by decide +kernel)
theorem ml_9_274 : Cond.methodLink RX9 274 yX9_settle ∈ a_ws := a_in 528 (by decide +kernel) (by decide +kernel)
theorem ml_9_280 : Cond.methodLink RX9 280 yX4_goAhead ∈ a_ws := a_in 866 (by decide +kernel) (by decide +kernel)
theorem ml_9_292 : Cond.methodLink RX9 292 arraycopyName ∈ a_ws := a_in 499 (by decide +kernel) (by decide +kernel)
theorem ml_9_298 : Cond.methodLink RX9 298 yX4_begin ∈ a_ws := a_in 511 (by decide +kernel) (by decide +kernel)
theorem ml_9_301 : Cond.methodLink RX9 301 yX0_forget ∈ a_ws := a_in 520 (by decide +kernel) (by decide +kernel)
theorem ml_9_304 : Cond.methodLink RX9 304 yX2_forget ∈ a_ws := a_in 524 (by decide +kernel) (by decide +kernel)
theorem ml_9_305 : Cond.methodLink RX9 305 yX4_note ∈ a_ws := a_in 627 (by decide +kernel) (by decide +kernel)
theorem ml_9_308 : Cond.methodLink RX9 308 yX8_lay ∈ a_ws := a_in 532 (by decide +kernel) (by decide +kernel)
theorem ml_9_311 : Cond.methodLink RX9 311 yX8_layTails ∈ a_ws := a_in 553 (by decide +kernel) (by decide +kernel)
theorem ml_9_314 : Cond.methodLink RX9 314 yX6_find ∈ a_ws := a_in 561 (by decide +kernel) (by decide +kernel)
theorem ml_9_318 : Cond.methodLink RX9 318 yX3_find ∈ a_ws := a_in 694 (by decide +kernel) (by decide +kernel)
theorem ml_9_320 : Cond.methodLink RX9 320 yX9_lookForLeast ∈ a_ws := a_in 714 (by decide +kernel) (by decide +kernel)
theorem ml_9_323 : Cond.methodLink RX9 323 yX9_chosen ∈ a_ws := a_in 719 (by decide +kernel) (by decide +kernel)
theorem ml_9_326 : Cond.methodLink RX9 326 yX3_keep ∈ a_ws := a_in 723 (by decide +kernel) (by decide +kernel)
theorem ml_0_21 : Cond.methodLink RX0 21 yX5_tasksOn ∈ a_ws := a_in 786 (by decide +kernel) (by decide +kernel)
theorem ml_0_27 : Cond.methodLink RX0 27 yX0_leastOfAllOrders ∈ a_ws := a_in 787 (by decide +kernel) (by decide +kernel)
theorem ml_0_37 : Cond.methodLink RX0 37 yX0_over ∈ a_ws := a_in 791 (by decide +kernel) (by decide +kernel)
theorem ml_0_44 : Cond.methodLink RX0 44 Lib.Math.min.name ∈ a_ws := a_in 800 (by decide +kernel) (by decide +kernel)
theorem ml_0_53 : Cond.methodLink RX0 53 Lib.Math.max.name ∈ a_ws := a_in 795 (by decide +kernel) (by decide +kernel)
theorem ml_0_62 : Cond.methodLink RX0 62 yX0_workedOn ∈ a_ws := a_in 805 (by decide +kernel) (by decide +kernel)
theorem ml_0_65 : Cond.methodLink RX0 65 yX0_nextHead ∈ a_ws := a_in 809 (by decide +kernel) (by decide +kernel)
theorem ml_1_32 : Cond.methodLink RX1 32 yX1_clear ∈ a_ws := a_in 752 (by decide +kernel) (by decide +kernel)
theorem ml_1_40 : Cond.methodLink RX1 40 yX1_choose ∈ a_ws := a_in 756 (by decide +kernel) (by decide +kernel)
theorem ml_1_44 : Cond.methodLink RX1 44 yX1_putLast ∈ a_ws := a_in 773 (by decide +kernel) (by decide +kernel)
theorem ml_1_48 : Cond.methodLink RX1 48 yX1_isNext ∈ a_ws := a_in 760 (by decide +kernel) (by decide +kernel)
theorem ml_1_52 : Cond.methodLink RX1 52 yX1_startOf ∈ a_ws := a_in 765 (by decide +kernel) (by decide +kernel)
theorem ml_1_55 : Cond.methodLink RX1 55 yX1_key ∈ a_ws := a_in 770 (by decide +kernel) (by decide +kernel)
theorem ml_1_59 : Cond.methodLink RX1 59 yX5_jobAhead ∈ a_ws := a_in 764 (by decide +kernel) (by decide +kernel)
theorem ml_1_69 : Cond.methodLink RX1 69 Lib.Math.max.name ∈ a_ws := a_in 769 (by decide +kernel) (by decide +kernel)
theorem ml_2_26 : Cond.methodLink RX2 26 yX2_waysOf ∈ a_ws := a_in 830 (by decide +kernel) (by decide +kernel)
theorem ml_2_30 : Cond.methodLink RX2 30 yX2_lookAtAll ∈ a_ws := a_in 834 (by decide +kernel) (by decide +kernel)
theorem ml_2_34 : Cond.methodLink RX2 34 yX5_tasksOn ∈ a_ws := a_in 833 (by decide +kernel) (by decide +kernel)
theorem ml_2_40 : Cond.methodLink RX2 40 yX5_orderByNumbers ∈ a_ws := a_in 838 (by decide +kernel) (by decide +kernel)
theorem ml_2_44 : Cond.methodLink RX2 44 yX8_lay ∈ a_ws := a_in 839 (by decide +kernel) (by decide +kernel)
theorem ml_2_56 : Cond.methodLink RX2 56 Lib.Math.min.name ∈ a_ws := a_in 840 (by decide +kernel) (by decide +kernel)
theorem ml_2_62 : Cond.methodLink RX2 62 yX2_nextOfAll ∈ a_ws := a_in 841 (by decide +kernel) (by decide +kernel)
theorem ml_3_22 : Cond.methodLink RX3 22 yX3_find ∈ a_ws := a_in 727 (by decide +kernel) (by decide +kernel)
theorem ml_3_26 : Cond.methodLink RX3 26 yX3_takeOff ∈ a_ws := a_in 728 (by decide +kernel) (by decide +kernel)
theorem ml_5_40 : Cond.methodLink RX5 40 yX5_jobAhead ∈ a_ws := a_in 484 (by decide +kernel) (by decide +kernel)
theorem ml_5_44 : Cond.methodLink RX5 44 yX5_jobNext ∈ a_ws := a_in 488 (by decide +kernel) (by decide +kernel)
theorem ml_5_51 : Cond.methodLink RX5 51 arraycopyName ∈ a_ws := a_in 502 (by decide +kernel) (by decide +kernel)
theorem ml_5_57 : Cond.methodLink RX5 57 Lib.Math.max.name ∈ a_ws := a_in 821 (by decide +kernel) (by decide +kernel)
theorem ml_6_31 : Cond.methodLink RX6 31 yX6_walk ∈ a_ws := a_in 565 (by decide +kernel) (by decide +kernel)
theorem ml_6_35 : Cond.methodLink RX6 35 yX6_cutBlocks ∈ a_ws := a_in 580 (by decide +kernel) (by decide +kernel)
theorem ml_6_39 : Cond.methodLink RX6 39 yX6_findMoves ∈ a_ws := a_in 584 (by decide +kernel) (by decide +kernel)
theorem ml_6_42 : Cond.methodLink RX6 42 yX6_beginning ∈ a_ws := a_in 569 (by decide +kernel) (by decide +kernel)
theorem ml_6_56 : Cond.methodLink RX6 56 yX5_jobNext ∈ a_ws := a_in 572 (by decide +kernel) (by decide +kernel)
theorem ml_6_60 : Cond.methodLink RX6 60 yX6_goesOn ∈ a_ws := a_in 573 (by decide +kernel) (by decide +kernel)
theorem ml_6_67 : Cond.methodLink RX6 67 Lib.Math.max.name ∈ a_ws := a_in 576 (by decide +kernel) (by decide +kernel)
theorem ml_6_73 : Cond.methodLink RX6 73 Lib.Math.min.name ∈ a_ws := a_in 577 (by decide +kernel) (by decide +kernel)
theorem ml_6_84 : Cond.methodLink RX6 84 yX6_addMove ∈ a_ws := a_in 588 (by decide +kernel) (by decide +kernel)
theorem ml_7_19 : Cond.methodLink RX7 19 yX5_clear ∈ a_ws := a_in 453 (by decide +kernel) (by decide +kernel)
theorem ml_7_24 : Cond.methodLink RX7 24 yX7_taskEnd ∈ a_ws := a_in 457 (by decide +kernel) (by decide +kernel)
theorem ml_7_28 : Cond.methodLink RX7 28 yX7_isTask ∈ a_ws := a_in 469 (by decide +kernel) (by decide +kernel)
theorem ml_7_32 : Cond.methodLink RX7 32 yX7_number ∈ a_ws := a_in 472 (by decide +kernel) (by decide +kernel)
theorem ml_7_36 : Cond.methodLink RX7 36 yX5_add ∈ a_ws := a_in 476 (by decide +kernel) (by decide +kernel)
theorem ml_7_40 : Cond.methodLink RX7 40 yX5_finish ∈ a_ws := a_in 480 (by decide +kernel) (by decide +kernel)
theorem ml_7_43 : Cond.methodLink RX7 43 yX7_letterAt ∈ a_ws := a_in 465 (by decide +kernel) (by decide +kernel)
theorem ml_7_46 : Cond.methodLink RX7 46 yX7_isFigure ∈ a_ws := a_in 461 (by decide +kernel) (by decide +kernel)
theorem ml_8_47 : Cond.methodLink RX8 47 yX8_link ∈ a_ws := a_in 536 (by decide +kernel) (by decide +kernel)
theorem ml_8_51 : Cond.methodLink RX8 51 yX8_queueFree ∈ a_ws := a_in 540 (by decide +kernel) (by decide +kernel)
theorem ml_8_63 : Cond.methodLink RX8 63 Lib.Math.max.name ∈ a_ws := a_in 545 (by decide +kernel) (by decide +kernel)
theorem ml_8_69 : Cond.methodLink RX8 69 yX5_jobNext ∈ a_ws := a_in 548 (by decide +kernel) (by decide +kernel)
theorem ml_8_73 : Cond.methodLink RX8 73 yX8_release ∈ a_ws := a_in 549 (by decide +kernel) (by decide +kernel)
theorem ml_8_80 : Cond.methodLink RX8 80 yX5_jobAhead ∈ a_ws := a_in 544 (by decide +kernel) (by decide +kernel)
theorem ml_8_83 : Cond.methodLink RX8 83 yX8_toCome ∈ a_ws := a_in 557 (by decide +kernel) (by decide +kernel)
theorem ml_8_87 : Cond.methodLink RX8 87 yX8_endOf ∈ a_ws := a_in 678 (by decide +kernel) (by decide +kernel)
theorem ml_10_108 : Cond.methodLink RX10 108 yX10_in ∈ a_ws := a_in 1055 (by decide +kernel) (by decide +kernel)
theorem ml_10_125 : Cond.methodLink RX10 125 yX10_isFigure ∈ a_ws := a_in 1074 (by decide +kernel) (by decide +kernel)
theorem ml_10_129 : Cond.methodLink RX10 129 yX10_must ∈ a_ws := a_in 1078 (by decide +kernel) (by decide +kernel)
theorem ml_10_133 : Cond.methodLink RX10 133 yX10_is ∈ a_ws := a_in 1082 (by decide +kernel) (by decide +kernel)
theorem ml_10_140 : Cond.methodLink RX10 140 yX10_readsTask ∈ a_ws := a_in 1070 (by decide +kernel) (by decide +kernel)
theorem ml_10_144 : Cond.methodLink RX10 144 yX10_readsJob ∈ a_ws := a_in 1066 (by decide +kernel) (by decide +kernel)
theorem ml_10_147 : Cond.methodLink RX10 147 yX10_readsAll ∈ a_ws := a_in 1062 (by decide +kernel) (by decide +kernel)
theorem ml_10_153 : Cond.methodLink RX10 153 yX10_puts ∈ a_ws := a_in 1086 (by decide +kernel) (by decide +kernel)
theorem ml_10_156 : Cond.methodLink RX10 156 yX10_begins ∈ a_ws := a_in 1090 (by decide +kernel) (by decide +kernel)
theorem ml_10_165 : Cond.methodLink RX10 165 yX10_lays ∈ a_ws := a_in 1094 (by decide +kernel) (by decide +kernel)
theorem ml_10_168 : Cond.methodLink RX10 168 yX10_fetches ∈ a_ws := a_in 1106 (by decide +kernel) (by decide +kernel)
theorem ml_10_171 : Cond.methodLink RX10 171 yX10_forgets ∈ a_ws := a_in 1098 (by decide +kernel) (by decide +kernel)
theorem ml_10_174 : Cond.methodLink RX10 174 yX10_isTask ∈ a_ws := a_in 1118 (by decide +kernel) (by decide +kernel)
theorem ml_10_177 : Cond.methodLink RX10 177 yX10_placeOf ∈ a_ws := a_in 1122 (by decide +kernel) (by decide +kernel)
theorem ml_10_181 : Cond.methodLink RX10 181 yX10_isMachine ∈ a_ws := a_in 1130 (by decide +kernel) (by decide +kernel)
theorem ml_10_184 : Cond.methodLink RX10 184 yX10_swaps ∈ a_ws := a_in 1137 (by decide +kernel) (by decide +kernel)
theorem ml_10_188 : Cond.methodLink RX10 188 yX10_changed ∈ a_ws := a_in 1141 (by decide +kernel) (by decide +kernel)
theorem ml_10_191 : Cond.methodLink RX10 191 yX10_reckons ∈ a_ws := a_in 1145 (by decide +kernel) (by decide +kernel)
theorem ml_10_198 : Cond.methodLink RX10 198 yX10_jobAhead ∈ a_ws := a_in 1161 (by decide +kernel) (by decide +kernel)
theorem ml_10_201 : Cond.methodLink RX10 201 yX10_isReady ∈ a_ws := a_in 1157 (by decide +kernel) (by decide +kernel)
theorem ml_10_204 : Cond.methodLink RX10 204 yX10_neighbours ∈ a_ws := a_in 1149 (by decide +kernel) (by decide +kernel)
theorem ml_10_207 : Cond.methodLink RX10 207 yX10_nextReady ∈ a_ws := a_in 1153 (by decide +kernel) (by decide +kernel)
theorem ml_10_211 : Cond.methodLink RX10 211 yX10_endOf ∈ a_ws := a_in 1165 (by decide +kernel) (by decide +kernel)
theorem ml_10_214 : Cond.methodLink RX10 214 Lib.Math.max.name ∈ a_ws := a_in 1169 (by decide +kernel) (by decide +kernel)
theorem ml_10_220 : Cond.methodLink RX10 220 yX10_jobBehind ∈ a_ws := a_in 1170 (by decide +kernel) (by decide +kernel)
theorem ml_10_223 : Cond.methodLink RX10 223 yX10_restOf ∈ a_ws := a_in 1174 (by decide +kernel) (by decide +kernel)
theorem ml_10_226 : Cond.methodLink RX10 226 yX10_isCritical ∈ a_ws := a_in 1186 (by decide +kernel) (by decide +kernel)
theorem ml_10_229 : Cond.methodLink RX10 229 yX10_comesBehind ∈ a_ws := a_in 1206 (by decide +kernel) (by decide +kernel)
theorem ml_10_235 : Cond.methodLink RX10 235 yX10_nextOnWay ∈ a_ws := a_in 1202 (by decide +kernel) (by decide +kernel)
theorem ml_10_238 : Cond.methodLink RX10 238 yX10_walks ∈ a_ws := a_in 1198 (by decide +kernel) (by decide +kernel)
theorem ml_10_244 : Cond.methodLink RX10 244 yX10_wrong ∈ a_ws := a_in 1194 (by decide +kernel) (by decide +kernel)
theorem ml_10_247 : Cond.methodLink RX10 247 yX10_toldAt ∈ a_ws := a_in 1210 (by decide +kernel) (by decide +kernel)
theorem ml_10_251 : Cond.methodLink RX10 251 yX10_parts ∈ a_ws := a_in 1217 (by decide +kernel) (by decide +kernel)
theorem ml_10_257 : Cond.methodLink RX10 257 yX10_leastBy ∈ a_ws := a_in 1233 (by decide +kernel) (by decide +kernel)
theorem ml_10_260 : Cond.methodLink RX10 260 yX10_comesMove ∈ a_ws := a_in 1229 (by decide +kernel) (by decide +kernel)
theorem ml_10_263 : Cond.methodLink RX10 263 Lib.Math.min.name ∈ a_ws := a_in 1249 (by decide +kernel) (by decide +kernel)
theorem ml_10_266 : Cond.methodLink RX10 266 yX10_swapsMove ∈ a_ws := a_in 1245 (by decide +kernel) (by decide +kernel)
theorem ml_10_269 : Cond.methodLink RX10 269 yX10_findsMoves ∈ a_ws := a_in 1225 (by decide +kernel) (by decide +kernel)
theorem ml_10_272 : Cond.methodLink RX10 272 yX10_spanBehind ∈ a_ws := a_in 1241 (by decide +kernel) (by decide +kernel)
theorem ml_10_275 : Cond.methodLink RX10 275 yX10_tabuAt ∈ a_ws := a_in 1250 (by decide +kernel) (by decide +kernel)
theorem ml_10_284 : Cond.methodLink RX10 284 yX10_takesOff ∈ a_ws := a_in 1286 (by decide +kernel) (by decide +kernel)
theorem ml_10_290 : Cond.methodLink RX10 290 yX10_isLongest ∈ a_ws := a_in 1278 (by decide +kernel) (by decide +kernel)
theorem ml_10_293 : Cond.methodLink RX10 293 yX10_notes ∈ a_ws := a_in 1270 (by decide +kernel) (by decide +kernel)
theorem ml_10_296 : Cond.methodLink RX10 296 yX10_chosen ∈ a_ws := a_in 1274 (by decide +kernel) (by decide +kernel)
theorem ml_10_302 : Cond.methodLink RX10 302 yX10_keepsMove ∈ a_ws := a_in 1282 (by decide +kernel) (by decide +kernel)
theorem ml_10_305 : Cond.methodLink RX10 305 yX10_steps ∈ a_ws := a_in 1266 (by decide +kernel) (by decide +kernel)
theorem ml_10_308 : Cond.methodLink RX10 308 yX10_leftOf ∈ a_ws := a_in 1326 (by decide +kernel) (by decide +kernel)
theorem ml_10_311 : Cond.methodLink RX10 311 yX10_mayStart ∈ a_ws := a_in 1318 (by decide +kernel) (by decide +kernel)
theorem ml_10_314 : Cond.methodLink RX10 314 yX10_worthOf ∈ a_ws := a_in 1322 (by decide +kernel) (by decide +kernel)
theorem ml_10_317 : Cond.methodLink RX10 317 yX10_firstOf ∈ a_ws := a_in 1306 (by decide +kernel) (by decide +kernel)
theorem ml_10_320 : Cond.methodLink RX10 320 yX10_isOpen ∈ a_ws := a_in 1310 (by decide +kernel) (by decide +kernel)
theorem ml_10_323 : Cond.methodLink RX10 323 yX10_isBetter ∈ a_ws := a_in 1314 (by decide +kernel) (by decide +kernel)
theorem ml_10_326 : Cond.methodLink RX10 326 yX10_dispatchedBy ∈ a_ws := a_in 1302 (by decide +kernel) (by decide +kernel)
theorem ml_10_332 : Cond.methodLink RX10 332 yX10_headOf ∈ a_ws := a_in 1350 (by decide +kernel) (by decide +kernel)
theorem ml_10_335 : Cond.methodLink RX10 335 yX10_tailOf ∈ a_ws := a_in 1354 (by decide +kernel) (by decide +kernel)
theorem ml_10_338 : Cond.methodLink RX10 338 yX10_bestOf ∈ a_ws := a_in 1346 (by decide +kernel) (by decide +kernel)
theorem ml_10_342 : Cond.methodLink RX10 342 yX10_nextAt ∈ a_ws := a_in 1362 (by decide +kernel) (by decide +kernel)
theorem ml_10_345 : Cond.methodLink RX10 345 yX10_takes ∈ a_ws := a_in 1342 (by decide +kernel) (by decide +kernel)
theorem ml_10_348 : Cond.methodLink RX10 348 yX10_alone ∈ a_ws := a_in 1338 (by decide +kernel) (by decide +kernel)
theorem ml_10_351 : Cond.methodLink RX10 351 yX10_preempted ∈ a_ws := a_in 1358 (by decide +kernel) (by decide +kernel)
theorem ml_10_360 : Cond.methodLink RX10 360 yX10_triesFrom ∈ a_ws := a_in 1379 (by decide +kernel) (by decide +kernel)
theorem ml_10_363 : Cond.methodLink RX10 363 yX10_changesOver ∈ a_ws := a_in 1383 (by decide +kernel) (by decide +kernel)
theorem ml_10_368 : Cond.methodLink RX10 368 yX10_waysAll ∈ a_ws := a_in 1374 (by decide +kernel) (by decide +kernel)
theorem ml_10_371 : Cond.methodLink RX10 371 yX10_byteAt ∈ a_ws := a_in 1391 (by decide +kernel) (by decide +kernel)
theorem ml_10_380 : Cond.methodLink RX10 380 yX10_passes ∈ a_ws := a_in 1403 (by decide +kernel) (by decide +kernel)
theorem ml_10_383 : Cond.methodLink RX10 383 yX10_passesRow ∈ a_ws := a_in 1407 (by decide +kernel) (by decide +kernel)
theorem ml_10_390 : Cond.methodLink RX10 390 yX10_passesAll ∈ a_ws := a_in 1399 (by decide +kernel) (by decide +kernel)
/-- links to a nest mate's private methods -/
def a_nest : List (String × Nat × MethodName × String) := [(RX0, 40, yX9_nextOrder, "ShopFloor"), (RX2, 69, yX9_nextOrder, "ShopFloor"), (RX4, 23, yX9_copyRow, "ShopFloor"), (RX5, 47, yX9_copyRow, "ShopFloor")]
theorem nl_0_40 : (RX0, 40, yX9_nextOrder, "ShopFloor") ∈ a_nest := List.mem_of_getElem? (i := 0) rfl
theorem nl_2_69 : (RX2, 69, yX9_nextOrder, "ShopFloor") ∈ a_nest := List.mem_of_getElem? (i := 1) rfl
theorem nl_4_23 : (RX4, 23, yX9_copyRow, "ShopFloor") ∈ a_nest := List.mem_of_getElem? (i := 2) rfl
theorem nl_5_47 : (RX5, 47, yX9_copyRow, "ShopFloor") ∈ a_nest := List.mem_of_getElem? (i := 3) rfl
theorem a_nest_in : ∀ q ∈ a_nest, Cond.methodLinkNest q.1 q.2.1 q.2.2.1 q.2.2.2 ∈ lw_tbl := List.forall_mem_cons.mpr ⟨List.mem_of_getElem? (i := 796) (by decide +kernel), List.forall_mem_cons.mpr ⟨List.mem_of_getElem? (i := 845) (by decide +kernel), List.forall_mem_cons.mpr ⟨List.mem_of_getElem? (i := 515) (by decide +kernel), List.forall_mem_cons.mpr ⟨List.mem_of_getElem? (i := 496) (by decide +kernel), fun _ h => absurd h List.not_mem_nil⟩⟩⟩⟩
theorem uw_0 : ∀ w ∈ u_ws RX0 TX0 3, w ∈ a_ws := fun w h => List.mem_filter.mpr ⟨(goodIn_r (big := lw_tbl) _ [357, 359, 361] (by decide +kernel) (by decide +kernel) w h).1, List.all_eq_true.mp (by decide +kernel : (u_ws RX0 TX0 3).all goodWord = true) w h⟩
theorem uw_1 : ∀ w ∈ u_ws RX1 TX1 6, w ∈ a_ws := fun w h => List.mem_filter.mpr ⟨(goodIn_r (big := lw_tbl) _ [334, 336, 338, 340, 342, 344] (by decide +kernel) (by decide +kernel) w h).1, List.all_eq_true.mp (by decide +kernel : (u_ws RX1 TX1 6).all goodWord = true) w h⟩
theorem uw_2 : ∀ w ∈ u_ws RX2 TX2 4, w ∈ a_ws := fun w h => List.mem_filter.mpr ⟨(goodIn_r (big := lw_tbl) _ [376, 378, 380, 382] (by decide +kernel) (by decide +kernel) w h).1, List.all_eq_true.mp (by decide +kernel : (u_ws RX2 TX2 4).all goodWord = true) w h⟩
theorem uw_3 : ∀ w ∈ u_ws RX3 TX3 3, w ∈ a_ws := fun w h => List.mem_filter.mpr ⟨(goodIn_r (big := lw_tbl) _ [293, 295, 297] (by decide +kernel) (by decide +kernel) w h).1, List.all_eq_true.mp (by decide +kernel : (u_ws RX3 TX3 3).all goodWord = true) w h⟩
theorem uw_4 : ∀ w ∈ u_ws RX4 TX4 3, w ∈ a_ws := fun w h => List.mem_filter.mpr ⟨(goodIn_r (big := lw_tbl) _ [313, 315, 317] (by decide +kernel) (by decide +kernel) w h).1, List.all_eq_true.mp (by decide +kernel : (u_ws RX4 TX4 3).all goodWord = true) w h⟩
theorem uw_5 : ∀ w ∈ u_ws RX5 TX5 9, w ∈ a_ws := fun w h => List.mem_filter.mpr ⟨(goodIn_r (big := lw_tbl) _ [181, 183, 185, 187, 189, 191, 193, 195, 197] (by decide +kernel) (by decide +kernel) w h).1, List.all_eq_true.mp (by decide +kernel : (u_ws RX5 TX5 9).all goodWord = true) w h⟩
theorem uw_6 : ∀ w ∈ u_ws RX6 TX6 6, w ∈ a_ws := fun w h => List.mem_filter.mpr ⟨(goodIn_r (big := lw_tbl) _ [268, 270, 272, 274, 276, 278] (by decide +kernel) (by decide +kernel) w h).1, List.all_eq_true.mp (by decide +kernel : (u_ws RX6 TX6 6).all goodWord = true) w h⟩
theorem uw_7 : ∀ w ∈ u_ws RX7 TX7 2, w ∈ a_ws := fun w h => List.mem_filter.mpr ⟨(goodIn_r (big := lw_tbl) _ [134, 136] (by decide +kernel) (by decide +kernel) w h).1, List.all_eq_true.mp (by decide +kernel : (u_ws RX7 TX7 2).all goodWord = true) w h⟩
theorem uw_8 : ∀ w ∈ u_ws RX8 TX8 11, w ∈ a_ws := fun w h => List.mem_filter.mpr ⟨(goodIn_r (big := lw_tbl) _ [228, 230, 232, 234, 236, 238, 240, 242, 244, 246, 248] (by decide +kernel) (by decide +kernel) w h).1, List.all_eq_true.mp (by decide +kernel : (u_ws RX8 TX8 11).all goodWord = true) w h⟩
theorem uw_9 : ∀ w ∈ u_ws RX9 TX9 17, w ∈ a_ws := fun w h => List.mem_filter.mpr ⟨(goodIn_r (big := lw_tbl) _ [402, 404, 406, 408, 410, 412, 414, 416, 418, 420, 422, 424, 426, 428, 430, 432, 434] (by decide +kernel) (by decide +kernel) w h).1, List.all_eq_true.mp (by decide +kernel : (u_ws RX9 TX9 17).all goodWord = true) w h⟩
theorem uw_10 : ∀ w ∈ u_ws RX10 TX10 54, w ∈ a_ws := fun w h => List.mem_filter.mpr ⟨(goodIn_r (big := lw_tbl) _ [942, 944, 946, 948, 950, 952, 954, 956, 958, 960, 962, 964, 966, 968, 970, 972, 974, 976, 978, 980, 982, 984, 986, 988, 990, 992, 994, 996, 998, 1000, 1002, 1004, 1006, 1008, 1010, 1012, 1014, 1016, 1018, 1020, 1022, 1024, 1026, 1028, 1030, 1032, 1034, 1036, 1038, 1040, 1042, 1044, 1046, 1048] (by decide +kernel) (by decide +kernel) w h).1, List.all_eq_true.mp (by decide +kernel : (u_ws RX10 TX10 54).all goodWord = true) w h⟩
end
section
/-! THE ABSTRACT MACHINE. All cells stand in one table a_T; a heap is a function: cell, place ↦ a whole number. AW: the method M, at pc, with locals ls, stack st, heap h comes to its end with Q (answer, heap). -/
abbrev aV : Type := Int ⊕ (Nat ⊕ Int)
abbrev aH : Type := Nat → Int → Int
abbrev aG : Type := (Nat → Nat) × va_G × ClassId × ClassId × ClassId
abbrev aQ : Type := Int → aH → Prop
abbrev aI (z : Int) : aV := Sum.inl z
abbrev aR (n : Nat) : aV := Sum.inr (Sum.inl n)
abbrev aJ (z : Int) : aV := Sum.inr (Sum.inr z)
abbrev inR (z : Int) : Prop := -2147483648 ≤ z ∧ z ≤ 2147483647
def a_v (g : aG) (v : aV) : Value := match v with
  | .inl z => .int (Int32.ofInt z)
  | .inr (.inl n) => .ref (g.1 n)
  | .inr (.inr z) => .long (Int64.ofInt z)
def a_r (v : aV) : Prop := match v with
  | .inl z => inR z
  | _ => True
def a_k (v : aV) : Nat := match v with
  | .inr (.inr _) => 2
  | _ => 1
theorem a_k_ok (g : aG) (v : aV) : (a_v g v).category = a_k v := by
  rcases v with z | n | z <;> rfl
def a_f (g : aG) (h : Int → Int) (i : Nat) (o : Option Nat) : Value := match o with
  | none => .int (Int32.ofInt (h i))
  | some r => .ref (g.1 r)
def a_c (g : aG) (h : Int → Int) (s : aS) : va_E := match s with
  | .inl (0, n, _) => .inl (g.2.2.1, n, .inl (fun j => Int32.ofInt (h j)))
  | .inl (1, n, _) => .inl (g.2.2.2.1, n, .inl (fun j => Int32.ofInt (h j)))
  | .inl (_, n, b) => .inl (g.2.2.2.2, n, .inr (.inr (.inr (.inr (fun j => if j < n then some (g.1 (b + j)) else none)))))
  | .inr (ci, fs) => .inr (ci, fs.mapIdx (a_f g h))
def a_lay (g : aG) (h : aH) : va_W := a_T.mapIdx (fun c s => (g.1 c, a_c g (h c) s))
def a_up (h : aH) (c : Nat) (i v : Int) : aH := fun c' => bif Nat.beq c' c then (fun i' => if i' = i then v else h c' i') else h c'
theorem a_up_ne {h : aH} {c : Nat} {i v : Int} {c' : Nat} (hc : c' ≠ c) : a_up h c i v c' = h c' := by
  unfold a_up
  rw [show Nat.beq c' c = false from Bool.eq_false_iff.mpr (fun e => hc (Nat.eq_of_beq_eq_true e))]
  rfl
theorem a_up_at {h : aH} {c : Nat} {i v i' : Int} : a_up h c i v c i' = if i' = i then v else h c i' := by
  unfold a_up
  rw [show Nat.beq c c = true from Nat.beq_refl c]
  rfl
theorem a_up_eq {h : aH} {c : Nat} {i v : Int} : a_up h c i v c i = v := by rw [a_up_at, if_pos rfl]
theorem a_up_off {h : aH} {c : Nat} {i v i' : Int} (hi : i' ≠ i) : a_up h c i v c i' = h c i' := by rw [a_up_at, if_neg hi]
theorem a_up_r {h : aH} {c : Nat} {i v : Int} (hh : ∀ c i, inR (h c i)) (hv : inR v) : ∀ c' i', inR (a_up h c i v c' i') := by
  intro c' i'
  by_cases e : c' = c
  · subst e
    rw [a_up_at]
    split
    · exact hv
    · exact hh _ _
  · rw [a_up_ne e]
    exact hh _ _
/-- a row copied: n places of cell a from i on to cell b from j on -/
def a_cp (h : aH) (a : Nat) (i : Int) (b : Nat) (j n : Int) : aH := fun c' => bif Nat.beq c' b then (fun k => if j ≤ k ∧ k < j + n then h a (i + (k - j)) else h c' k) else h c'
theorem a_cp_ne {h : aH} {a b : Nat} {i j n : Int} {c' : Nat} (hc : c' ≠ b) : a_cp h a i b j n c' = h c' := by
  unfold a_cp
  rw [show Nat.beq c' b = false from Bool.eq_false_iff.mpr (fun e => hc (Nat.eq_of_beq_eq_true e))]
  rfl
theorem a_cp_at {h : aH} {a b : Nat} {i j n k : Int} : a_cp h a i b j n b k = if j ≤ k ∧ k < j + n then h a (i + (k - j)) else h b k := by
  unfold a_cp
  rw [show Nat.beq b b = true from Nat.beq_refl b]
  rfl
theorem a_cp_r {h : aH} {a b : Nat} {i j n : Int} (hh : ∀ c i, inR (h c i)) : ∀ c' k, inR (a_cp h a i b j n c' k) := by
  intro c' k
  by_cases e : c' = b
  · subst e
    rw [a_cp_at]
    split <;> exact hh _ _
  · rw [a_cp_ne e]
    exact hh _ _
theorem a_lay_at {g : aG} {h : aH} {c : Nat} {s : aS} (hs : a_T[c]? = some s) : (a_lay g h)[c]? = some (g.1 c, a_c g (h c) s) := by
  simp [a_lay, hs]
theorem a_lay_inv {g : aG} {h : aH} {c : Nat} {q : Nat × va_E} (hq : (a_lay g h)[c]? = some q) : ∃ s, a_T[c]? = some s ∧ q = (g.1 c, a_c g (h c) s) := by
  simp only [a_lay, List.getElem?_mapIdx, Option.map_eq_some_iff] at hq
  obtain ⟨s, h1, h2⟩ := hq
  exact ⟨s, h1, h2.symm⟩
theorem a_lt {c : Nat} {s : aS} (hs : a_T[c]? = some s) : c < a_N := by
  rw [← a_T_len]
  exact (List.getElem?_eq_some_iff.mp hs).1
/-- one cell changed: the layout with it set -/
theorem a_lay_set {g : aG} {h h' : aH} {c : Nat} {s : aS} {x : Nat × va_E} (hs : a_T[c]? = some s) (hx : x = (g.1 c, a_c g (h' c) s)) (ho : ∀ d, d ≠ c → h' d = h d) : (a_lay g h).set c x = a_lay g h' := by
  apply List.ext_getElem?
  intro d
  by_cases e : d = c
  · subst e
    rw [List.getElem?_set_self (by simpa [a_lay] using (List.getElem?_eq_some_iff.mp hs).1), a_lay_at hs, hx]
  · rw [List.getElem?_set_ne (fun q => e q.symm)]
    simp only [a_lay, List.getElem?_mapIdx, ho d e]
def a_A (g : aG) : Nat → Prop := fun q => ∃ c, c < a_N ∧ q = g.1 c
def a_K (g : aG) (s : State) : Prop := (∀ c d, c < a_N → d < a_N → g.1 c = g.1 d → c = d) ∧ va_K g.2.1 vwCl [(g.2.2.1, .int), (g.2.2.2.1, .boolean), (g.2.2.2.2, .array .int)] s ∧ ∀ q ∈ a_nest, va_Nw (.methodLinkNest q.1 q.2.1 q.2.2.1 q.2.2.2) s
theorem a_K.D {g : aG} {s : State} (K : a_K g s) (h : aH) : va_D (a_A g) (a_lay g h) := by
  refine ⟨fun i j p q hp hq e => ?_, fun k q hq => ?_⟩
  · obtain ⟨s1, h1, rfl⟩ := a_lay_inv hp
    obtain ⟨s2, h2, rfl⟩ := a_lay_inv hq
    exact K.1 i j (a_lt h1) (a_lt h2) e
  · obtain ⟨s1, h1, rfl⟩ := a_lay_inv hq
    exact ⟨k, a_lt h1, rfl⟩
def a_C (M : aM) (p : Program) (s : State) (m : MethodId) (args : Array Value) (meth : Method) (c : Code) : Prop :=
  p.tables.exec = Jvm.exec ∧ c.code = M.2.1 ∧ meth.sig.returnType = M.2.2.2 ∧ c.maxLocals = M.2.2.1 ∧ s.vm.findClass M.1.cls = some m.cls ∧ meth.locks = false ∧ ∀ w ∈ a_ws, w.before args s = true
def a_Rg (h : aH) (ls : List (Option aV)) (st : List aV) : Prop := (∀ c i, inR (h c i)) ∧ (∀ v, some v ∈ ls → a_r v) ∧ ∀ v ∈ st, a_r v
def a_Qi (g : aG) (Q : aQ) : Array Value → State → Outcome → State → Prop := va_Qi (fun (r : Int32) (u : aH) => ∃ z : Int, r = Int32.ofInt z ∧ inR z ∧ (∀ c i, inR (u c i)) ∧ Q z u) (fun u t => va_P g.2.1 vwCl (a_lay g u) t.heap) (a_A g)
def a_Qv (g : aG) (Q : aQ) : Array Value → State → Outcome → State → Prop := va_Qv (fun (u : aH) => (∀ c i, inR (u c i)) ∧ Q 0 u) (fun u t => va_P g.2.1 vwCl (a_lay g u) t.heap) (a_A g)
def a_Qc (g : aG) (M : aM) (Q : aQ) : Array Value → State → Outcome → State → Prop := match M.2.2.2 with
  | none => a_Qv g Q
  | some _ => a_Qi g Q
def a_L (g : aG) (nL : Nat) (L : Array Slot) (ls : List (Option aV)) : Prop := L.size = nL ∧ lv_wf L ∧ ∀ (k : Nat) (v : aV), ls[k]? = some (some v) → L[k]? = some (Slot.val (a_v g v))
def AW (M : aM) (F : Nat) (pc : Nat) (ls : List (Option aV)) (st : List aV) (h : aH) (Q : aQ) : Prop :=
  a_Rg h ls st → ∀ (p : Program) (l : Launch) (e : Env) (R : Room) (s : State) (m : MethodId) (args : Array Value) (below : List Frame) (meth : Method) (c : Code) (H : Heap) (locs : List Loc) (L : Array Slot) (g : aG),
    a_C M p s m args meth c → a_K g s → F ≤ R.frames → F * 40 ≤ R.locals → va_P g.2.1 vwCl (a_lay g h) H → va_S (a_A g) s.heap H locs → a_L g M.2.2.1 L ls →
    W p l e R s m args below meth c H locs 0 0 (MQ below (a_Qc g M Q) args s 0 0 (a_A g)) (F0 m pc L (st.map (a_v g)))
def aRun (M : aM) (F : Nat) (as : List aV) (h : aH) (Q : aQ) : Prop :=
  a_Rg h [] as → ∀ (l : Launch) (g : aG), Met l M.1 (Cond.code M.1 M.2.1 M.2.2.1 M.2.2.2 :: a_ws) { frames := F, cells := 0, slots := 0, locals := F * 40 } (va_Pc (as.map (a_v g)) (fun U => a_K g U ∧ va_P g.2.1 vwCl (a_lay g h) U.heap)) (a_Qc g M Q) 0 0 (a_A g)
theorem AW.mono {M : aM} {F pc : Nat} {ls : List (Option aV)} {st : List aV} {h : aH} {Q Q' : aQ} (hQ : ∀ r u, Q r u → Q' r u) (k : AW M F pc ls st h Q) : AW M F pc ls st h Q' := by
  intro hR p l e R s m args below meth c H locs L g C K h1 h2 hP hS hL T hT X
  obtain ⟨t, a, o, b1, b2, b3, b4⟩ := k hR p l e R s m args below meth c H locs L g C K h1 h2 hP hS hL T hT X
  refine ⟨t, a, o, b1, b2, ?_, b4⟩
  revert b3
  unfold a_Qc
  cases M.2.2.2 with
  | none =>
    rintro ⟨⟨u, e1, ⟨e2, e3⟩, e4⟩, e5⟩
    exact ⟨⟨u, e1, ⟨e2, hQ _ _ e3⟩, e4⟩, e5⟩
  | some ty =>
    rintro ⟨⟨r, u, e1, ⟨z, e2, e3, e6, e7⟩, e4⟩, e5⟩
    exact ⟨⟨r, u, e1, ⟨z, e2, e3, e6, hQ _ _ e7⟩, e4⟩, e5⟩
theorem AW.rg {M : aM} {F pc : Nat} {ls : List (Option aV)} {st : List aV} {h : aH} {Q : aQ} (k : a_Rg h ls st → AW M F pc ls st h Q) : AW M F pc ls st h Q := fun hR => k hR hR
/-! numbers -/
theorem a_ti {z : Int} (h : inR z) : (Int32.ofInt z).toInt = z := Int32.toInt_ofInt_of_le (by omega) (by omega)
theorem a_lt_iff {a b : Int} (ha : inR a) (hb : inR b) : Int32.ofInt a < Int32.ofInt b ↔ a < b := by rw [Int32.lt_iff_toInt_lt, a_ti ha, a_ti hb]
theorem a_le_iff {a b : Int} (ha : inR a) (hb : inR b) : Int32.ofInt a ≤ Int32.ofInt b ↔ a ≤ b := by rw [Int32.le_iff_toInt_le, a_ti ha, a_ti hb]
theorem a_eq_iff {a b : Int} (ha : inR a) (hb : inR b) : Int32.ofInt a = Int32.ofInt b ↔ a = b := by
  constructor
  · intro e
    rw [← a_ti ha, ← a_ti hb, e]
  · intro e
    rw [e]
theorem a_tn {z : Int} (h : inR z) : (Int32.ofInt z).toNatClampNeg = z.toNat := by
  show (Int32.ofInt z).toInt.toNat = _
  rw [a_ti h]
theorem a_32 (x : Int32) : inR x.toInt := ⟨by have := x.le_toInt; omega, by have := x.toInt_lt; omega⟩
theorem a_vin {z : Int} {n : Nat} (hz : inR z) (h0 : 0 ≤ z) (h1 : z < n) : vp_in (Int32.ofInt z) n := by
  intro q
  rcases q with q | q
  · have := (a_lt_iff hz (b := 0) ⟨by decide, by decide⟩).mp q
    omega
  · rw [a_tn hz] at q
    omega
end
section
/-! ONE RULE AN INSTRUCTION -/
section A1
variable {M M' : aM} {F F' pc : Nat} {ls : List (Option aV)} {st : List aV} {h : aH} {Q : aQ}
theorem a_Rg.push {v : aV} (q : a_Rg h ls st) (hv : a_r v) : a_Rg h ls (v :: st) := ⟨q.1, q.2.1, List.forall_mem_cons.mpr ⟨hv, q.2.2⟩⟩
theorem a_Rg.pop {v : aV} (q : a_Rg h ls (v :: st)) : a_Rg h ls st := ⟨q.1, q.2.1, (List.forall_mem_cons.mp q.2.2).2⟩
theorem a_Rg.top {v : aV} (q : a_Rg h ls (v :: st)) : a_r v := (List.forall_mem_cons.mp q.2.2).1
theorem a_Rg.loc {v : aV} {k : Nat} (q : a_Rg h ls st) (e : ls[k]? = some (some v)) : a_r v := q.2.1 v (List.mem_of_getElem? e)
theorem a_Rg.setl {v : aV} {k : Nat} (q : a_Rg h ls st) (hv : a_r v) : a_Rg h (ls.set k (some v)) st := ⟨q.1, fun w hw => by
  rcases List.mem_or_eq_of_mem_set hw with e | e
  · exact q.2.1 w e
  · rw [Option.some.inj e]; exact hv, q.2.2⟩
theorem a_Rg.setn {k : Nat} (q : a_Rg h ls st) : a_Rg h (ls.set k none) st := by
  refine ⟨q.1, fun w hw => ?_, q.2.2⟩
  rcases List.mem_or_eq_of_mem_set hw with e | e
  · exact q.2.1 w e
  · cases e
theorem a_Rg.heap {h' : aH} (q : a_Rg h ls st) (hh : ∀ c i, inR (h' c i)) : a_Rg h' ls st := ⟨hh, q.2⟩
/-! locals -/
def a_lvs (g : aG) (ls : List (Option aV)) : List (Nat × Value) := ls.zipIdx.filterMap (fun q => q.1.map (fun v => (q.2, a_v g v)))
theorem a_lvs_mem {g : aG} {k : Nat} {x : Value} : (k, x) ∈ a_lvs g ls ↔ ∃ v, ls[k]? = some (some v) ∧ x = a_v g v := by
  unfold a_lvs
  rw [List.mem_filterMap]
  constructor
  · rintro ⟨⟨o, j⟩, h1, h2⟩
    have h1 := List.mem_zipIdx_iff_getElem?.mp h1
    cases o with
    | none => simp at h2
    | some v =>
      simp at h2
      obtain ⟨rfl, rfl⟩ := h2
      exact ⟨v, h1, rfl⟩
  · rintro ⟨v, h1, rfl⟩
    exact ⟨(some v, k), List.mem_zipIdx_iff_getElem?.mpr h1, rfl⟩
theorem a_L.has {g : aG} {nL : Nat} {L : Array Slot} (q : a_L g nL L ls) : lv_has L nL (a_lvs g ls) := ⟨q.1, q.2.1, fun x hx => by
  obtain ⟨k, y⟩ := x
  obtain ⟨v, h1, rfl⟩ := a_lvs_mem.mp hx
  exact q.2.2 k v h1⟩
def a_nl (ls : List (Option aV)) (i : Nat) : Bool := match i with
  | 0 => true
  | j + 1 => match ls[j]? with
    | some (some (.inr (.inr _))) => false
    | _ => true
theorem a_nl_no {i j : Nat} {v : aV} (q : a_nl ls i = true) (e : j + 1 = i) (hv : ls[j]? = some (some v)) : a_k v = 1 := by
  subst e
  simp only [a_nl, hv] at q
  rcases v with z | n | z
  · rfl
  · rfl
  · simp at q
theorem a_L.st1 {g : aG} {nL i : Nat} {v : aV} {L : Array Slot} (hq : lv_has L nL ((i, a_v g v) :: (a_lvs g ls).filter (fun q => !(q.1 == i) && !(q.1 + 1 == i && q.2.category == 2)))) (hnl : a_nl ls i = true) : a_L g nL L (ls.set i (some v)) := by
  refine ⟨hq.1, hq.2.1, fun k w hw => ?_⟩
  by_cases e : k = i
  · subst e
    rw [List.getElem?_set] at hw
    simp at hw
    obtain ⟨-, rfl⟩ := hw
    exact hq.2.2 (k, _) List.mem_cons_self
  · rw [List.getElem?_set_ne (fun x => e x.symm)] at hw
    refine hq.2.2 (k, a_v g w) (List.mem_cons_of_mem _ (List.mem_filter.mpr ⟨a_lvs_mem.mpr ⟨w, hw, rfl⟩, ?_⟩))
    by_cases e2 : k + 1 = i
    · have := a_nl_no hnl e2 hw
      simp [e, a_k_ok, this]
    · simp [e, e2]
theorem a_L.st2 {g : aG} {nL i : Nat} {v : aV} {L : Array Slot} (hq : lv_has L nL ((i, a_v g v) :: (a_lvs g ls).filter (fun q => !(q.1 == i) && (!(q.1 == i + 1) && !(q.1 + 1 == i && q.2.category == 2))))) (hnl : a_nl ls i = true) : a_L g nL L ((ls.set i (some v)).set (i + 1) none) := by
  refine ⟨hq.1, hq.2.1, fun k w hw => ?_⟩
  by_cases e1 : k = i + 1
  · subst e1
    rw [List.getElem?_set] at hw
    simp at hw
  rw [List.getElem?_set_ne (fun x => e1 x.symm)] at hw
  by_cases e : k = i
  · subst e
    rw [List.getElem?_set] at hw
    simp at hw
    obtain ⟨-, rfl⟩ := hw
    exact hq.2.2 (k, _) List.mem_cons_self
  · rw [List.getElem?_set_ne (fun x => e x.symm)] at hw
    refine hq.2.2 (k, a_v g w) (List.mem_cons_of_mem _ (List.mem_filter.mpr ⟨a_lvs_mem.mpr ⟨w, hw, rfl⟩, ?_⟩))
    by_cases e2 : k + 1 = i
    · have := a_nl_no hnl e2 hw
      simp [e, e1, a_k_ok, this]
    · simp [e, e1, e2]
/-! constants, locals, arithmetic -/
theorem AW.iconst {n : Int} (hd : decode M.2.1 pc = .ok (.iconst n, 1)) (hn : inR n) (k : AW M F (pc + 1) ls (aI n :: st) h Q) : AW M F pc ls st h Q := by
  intro hR p l e R s m args below meth c H locs L g C K h1 h2 hP hS hL
  exact lv_iconst C.1 C.2.1 hd rfl (k (hR.push hn) p l e R s m args below meth c H locs L g C K h1 h2 hP hS hL)
theorem AW.bipush {n : Int} (hd : decode M.2.1 pc = .ok (.bipush n, 2)) (hv : (Int8.ofInt n).toInt32 = Int32.ofInt n) (hn : inR n) (k : AW M F (pc + 2) ls (aI n :: st) h Q) : AW M F pc ls st h Q := by
  intro hR p l e R s m args below meth c H locs L g C K h1 h2 hP hS hL
  exact lv_bipush C.1 C.2.1 hd hv (k (hR.push hn) p l e R s m args below meth c H locs L g C K h1 h2 hP hS hL)
theorem AW.sipush {n : Int} (hd : decode M.2.1 pc = .ok (.sipush n, 3)) (hv : (Int16.ofInt n).toInt32 = Int32.ofInt n) (hn : inR n) (k : AW M F (pc + 3) ls (aI n :: st) h Q) : AW M F pc ls st h Q := by
  intro hR p l e R s m args below meth c H locs L g C K h1 h2 hP hS hL
  exact lv_sipush C.1 C.2.1 hd hv (k (hR.push hn) p l e R s m args below meth c H locs L g C K h1 h2 hP hS hL)
theorem AW.iload_n {i : Fin 4} {z : Int} (hd : decode M.2.1 pc = .ok (.iload_n i, 1)) (hl : ls[i.val]? = some (some (aI z))) (k : AW M F (pc + 1) ls (aI z :: st) h Q) : AW M F pc ls st h Q := by
  intro hR p l e R s m args below meth c H locs L g C K h1 h2 hP hS hL
  exact lv_iload_n C.1 C.2.1 hd rfl (hL.2.2 _ _ hl) (k (hR.push (hR.loc hl)) p l e R s m args below meth c H locs L g C K h1 h2 hP hS hL)
theorem AW.iload {i : Nat} {z : Int} (hd : decode M.2.1 pc = .ok (.iload i, 2)) (hl : ls[i]? = some (some (aI z))) (k : AW M F (pc + 2) ls (aI z :: st) h Q) : AW M F pc ls st h Q := by
  intro hR p l e R s m args below meth c H locs L g C K h1 h2 hP hS hL
  exact lv_iload C.1 C.2.1 hd (hL.2.2 _ _ hl) (k (hR.push (hR.loc hl)) p l e R s m args below meth c H locs L g C K h1 h2 hP hS hL)
theorem AW.aload_n {i : Fin 4} {z : Nat} (hd : decode M.2.1 pc = .ok (.aload_n i, 1)) (hl : ls[i.val]? = some (some (aR z))) (k : AW M F (pc + 1) ls (aR z :: st) h Q) : AW M F pc ls st h Q := by
  intro hR p l e R s m args below meth c H locs L g C K h1 h2 hP hS hL
  exact lv_aload_n C.1 C.2.1 hd rfl (hL.2.2 _ _ hl) (k (hR.push trivial) p l e R s m args below meth c H locs L g C K h1 h2 hP hS hL)
theorem AW.lload_n {i : Fin 4} {z : Int} (hd : decode M.2.1 pc = .ok (.lload_n i, 1)) (hl : ls[i.val]? = some (some (aJ z))) (k : AW M F (pc + 1) ls (aJ z :: st) h Q) : AW M F pc ls st h Q := by
  intro hR p l e R s m args below meth c H locs L g C K h1 h2 hP hS hL
  exact lv_lload_n C.1 C.2.1 hd rfl (hL.2.2 _ _ hl) (k (hR.push trivial) p l e R s m args below meth c H locs L g C K h1 h2 hP hS hL)
theorem AW.istore_n {i : Fin 4} {z : Int} (hd : decode M.2.1 pc = .ok (.istore_n i, 1)) (hi : i.val < M.2.2.1) (hnl : a_nl ls i.val = true) (k : AW M F (pc + 1) (ls.set i.val (some (aI z))) st h Q) : AW M F pc ls (aI z :: st) h Q := by
  intro hR p l e R s m args below meth c H locs L g C K h1 h2 hP hS hL
  exact lv_istore_n C.1 C.2.1 hd rfl hL.has hi rfl (fun L' hL' => k (hR.pop.setl hR.top) p l e R s m args below meth c H locs L' g C K h1 h2 hP hS (a_L.st1 hL' hnl))
theorem AW.istore {i : Nat} {z : Int} (hd : decode M.2.1 pc = .ok (.istore i, 2)) (hi : i < M.2.2.1) (hnl : a_nl ls i = true) (k : AW M F (pc + 2) (ls.set i (some (aI z))) st h Q) : AW M F pc ls (aI z :: st) h Q := by
  intro hR p l e R s m args below meth c H locs L g C K h1 h2 hP hS hL
  exact lv_istore C.1 C.2.1 hd hL.has hi rfl (fun L' hL' => k (hR.pop.setl hR.top) p l e R s m args below meth c H locs L' g C K h1 h2 hP hS (a_L.st1 hL' hnl))
theorem AW.lstore_n {i : Fin 4} {z : Int} (hd : decode M.2.1 pc = .ok (.lstore_n i, 1)) (hi : i.val + 1 < M.2.2.1) (hnl : a_nl ls i.val = true) (k : AW M F (pc + 1) ((ls.set i.val (some (aJ z))).set (i.val + 1) none) st h Q) : AW M F pc ls (aJ z :: st) h Q := by
  intro hR p l e R s m args below meth c H locs L g C K h1 h2 hP hS hL
  exact lv_lstore_n C.1 C.2.1 hd rfl hL.has hi rfl (fun L' hL' => k ((hR.pop.setl (v := aJ z) trivial).setn) p l e R s m args below meth c H locs L' g C K h1 h2 hP hS (a_L.st2 hL' hnl))
theorem AW.iinc {i : Nat} {n z : Int} (hd : decode M.2.1 pc = .ok (.iinc i n, 3)) (hl : ls[i]? = some (some (aI z))) (hi : i < M.2.2.1) (hnl : a_nl ls i = true) (hz : inR (z + n)) (k : AW M F (pc + 3) (ls.set i (some (aI (z + n)))) st h Q) : AW M F pc ls st h Q := by
  intro hR p l e R s m args below meth c H locs L g C K h1 h2 hP hS hL
  obtain ⟨kk, hkk⟩ := List.getElem?_of_mem (a_lvs_mem (g := g) (k := i) (x := a_v g (aI z)) |>.mpr ⟨_, hl, rfl⟩)
  exact lv_iinc (v := Int32.ofInt (z + n)) C.1 C.2.1 hd hL.has hkk (Int32.ofInt_add z n).symm hi rfl (fun L' hL' => k (hR.setl hz) p l e R s m args below meth c H locs L' g C K h1 h2 hP hS (a_L.st1 (v := aI (z + n)) hL' hnl))
theorem AW.iadd {a b : Int} (hd : decode M.2.1 pc = .ok (.iadd, 1)) (hz : inR (a + b)) (k : AW M F (pc + 1) ls (aI (a + b) :: st) h Q) : AW M F pc ls (aI b :: aI a :: st) h Q := by
  intro hR p l e R s m args below meth c H locs L g C K h1 h2 hP hS hL
  refine lv_iadd C.1 C.2.1 hd ?_
  rw [← Int32.ofInt_add]
  exact k (hR.pop.pop.push hz) p l e R s m args below meth c H locs L g C K h1 h2 hP hS hL
theorem AW.isub {a b : Int} (hd : decode M.2.1 pc = .ok (.isub, 1)) (hz : inR (a - b)) (k : AW M F (pc + 1) ls (aI (a - b) :: st) h Q) : AW M F pc ls (aI b :: aI a :: st) h Q := by
  intro hR p l e R s m args below meth c H locs L g C K h1 h2 hP hS hL
  refine lv_isub C.1 C.2.1 hd ?_
  rw [← Int32.ofInt_sub]
  exact k (hR.pop.pop.push hz) p l e R s m args below meth c H locs L g C K h1 h2 hP hS hL
theorem AW.imul {a b : Int} (hd : decode M.2.1 pc = .ok (.imul, 1)) (hz : inR (a * b)) (k : AW M F (pc + 1) ls (aI (a * b) :: st) h Q) : AW M F pc ls (aI b :: aI a :: st) h Q := by
  intro hR p l e R s m args below meth c H locs L g C K h1 h2 hP hS hL
  refine lv_imul C.1 C.2.1 hd ?_
  rw [← Int32.ofInt_mul]
  exact k (hR.pop.pop.push hz) p l e R s m args below meth c H locs L g C K h1 h2 hP hS hL
theorem AW.ineg {a : Int} (hd : decode M.2.1 pc = .ok (.ineg, 1)) (hz : inR (-a)) (k : AW M F (pc + 1) ls (aI (-a) :: st) h Q) : AW M F pc ls (aI a :: st) h Q := by
  intro hR p l e R s m args below meth c H locs L g C K h1 h2 hP hS hL
  refine lv_ineg C.1 C.2.1 hd ?_
  rw [← Int32.ofInt_neg]
  exact k (hR.pop.push hz) p l e R s m args below meth c H locs L g C K h1 h2 hP hS hL
theorem a_div {a b : Int} (ha : inR a) (hb : inR b) (h0 : 0 ≤ a) (h1 : 0 < b) : Int32.ofInt a / Int32.ofInt b = Int32.ofInt (a / b) := by
  rw [← Int.tdiv_eq_ediv_of_nonneg h0]
  refine (Int32.ofInt_tdiv ?_ ?_ ?_ ?_).symm
  · show (-2147483648 : Int) ≤ a; exact ha.1
  · show a ≤ (2147483647 : Int); exact ha.2
  · show (-2147483648 : Int) ≤ b; exact hb.1
  · show b ≤ (2147483647 : Int); exact hb.2
theorem AW.idiv {a b : Int} (hd : decode M.2.1 pc = .ok (.idiv, 1)) (h0 : 0 ≤ a) (h1 : 0 < b) (k : AW M F (pc + 1) ls (aI (a / b) :: st) h Q) : AW M F pc ls (aI b :: aI a :: st) h Q := by
  intro hR p l e R s m args below meth c H locs L g C K h1' h2 hP hS hL
  have hb : inR b := hR.top
  have ha : inR a := hR.pop.top
  refine lv_idiv C.1 C.2.1 hd (fun e => ?_) ?_
  · have := (a_eq_iff hb (b := 0) ⟨by decide, by decide⟩).mp e
    omega
  rw [a_div ha hb h0 h1]
  refine k (hR.pop.pop.push ?_) p l e R s m args below meth c H locs L g C K h1' h2 hP hS hL
  have q1 := Int.ediv_nonneg h0 (by omega : 0 ≤ b)
  have q2 := Int.ediv_le_self b h0
  exact ⟨by omega, by have := ha.2; omega⟩
theorem AW.irem {a b : Int} (hd : decode M.2.1 pc = .ok (.irem, 1)) (h0 : 0 ≤ a) (h1 : 0 < b) (k : AW M F (pc + 1) ls (aI (a % b) :: st) h Q) : AW M F pc ls (aI b :: aI a :: st) h Q := by
  intro hR p l e R s m args below meth c H locs L g C K h1' h2 hP hS hL
  have hb : inR b := hR.top
  have ha : inR a := hR.pop.top
  refine lv_irem C.1 C.2.1 hd (fun e => ?_) ?_
  · have := (a_eq_iff hb (b := 0) ⟨by decide, by decide⟩).mp e
    omega
  rw [a_div ha hb h0 h1, ← Int32.ofInt_mul, ← Int32.ofInt_sub]
  have e' : a - a / b * b = a % b := by
    have := Int.mul_ediv_add_emod a b
    rw [Int.mul_comm] at this
    omega
  rw [e']
  refine k (hR.pop.pop.push ?_) p l e R s m args below meth c H locs L g C K h1' h2 hP hS hL
  have q1 := Int.emod_nonneg a (by omega : b ≠ 0)
  have q2 := Int.emod_lt_of_pos a h1
  exact ⟨by omega, by have := hb.2; omega⟩
theorem AW.iand {a b : Int} (hd : decode M.2.1 pc = .ok (.iand, 1)) (k : AW M F (pc + 1) ls (aI (Int32.ofInt a &&& Int32.ofInt b).toInt :: st) h Q) : AW M F pc ls (aI b :: aI a :: st) h Q := by
  intro hR p l e R s m args below meth c H locs L g C K h1 h2 hP hS hL
  refine lv_iand C.1 C.2.1 hd ?_
  have q := k (hR.pop.pop.push (a_32 _)) p l e R s m args below meth c H locs L g C K h1 h2 hP hS hL
  simp only [List.map_cons, a_v, Int32.ofInt_toInt] at q
  exact q
theorem AW.ixor {a b : Int} (hd : decode M.2.1 pc = .ok (.ixor, 1)) (k : AW M F (pc + 1) ls (aI (Int32.ofInt a ^^^ Int32.ofInt b).toInt :: st) h Q) : AW M F pc ls (aI b :: aI a :: st) h Q := by
  intro hR p l e R s m args below meth c H locs L g C K h1 h2 hP hS hL
  refine lv_ixor C.1 C.2.1 hd ?_
  have q := k (hR.pop.pop.push (a_32 _)) p l e R s m args below meth c H locs L g C K h1 h2 hP hS hL
  simp only [List.map_cons, a_v, Int32.ofInt_toInt] at q
  exact q
theorem AW.ishl {a b : Int} (hd : decode M.2.1 pc = .ok (.ishl, 1)) (k : AW M F (pc + 1) ls (aI (Int32.ofInt a <<< (Int32.ofInt b &&& 31)).toInt :: st) h Q) : AW M F pc ls (aI b :: aI a :: st) h Q := by
  intro hR p l e R s m args below meth c H locs L g C K h1 h2 hP hS hL
  refine lv_ishl C.1 C.2.1 hd ?_
  have q := k (hR.pop.pop.push (a_32 _)) p l e R s m args below meth c H locs L g C K h1 h2 hP hS hL
  simp only [List.map_cons, a_v, Int32.ofInt_toInt] at q
  exact q
theorem AW.ishr {a b : Int} (hd : decode M.2.1 pc = .ok (.ishr, 1)) (k : AW M F (pc + 1) ls (aI (Int32.ofInt a >>> (Int32.ofInt b &&& 31)).toInt :: st) h Q) : AW M F pc ls (aI b :: aI a :: st) h Q := by
  intro hR p l e R s m args below meth c H locs L g C K h1 h2 hP hS hL
  refine lv_ishr C.1 C.2.1 hd ?_
  have q := k (hR.pop.pop.push (a_32 _)) p l e R s m args below meth c H locs L g C K h1 h2 hP hS hL
  simp only [List.map_cons, a_v, Int32.ofInt_toInt] at q
  exact q
theorem AW.dup {v : aV} (hd : decode M.2.1 pc = .ok (.dup, 1)) (hv : a_k v = 1) (k : AW M F (pc + 1) ls (v :: v :: st) h Q) : AW M F pc ls (v :: st) h Q := by
  intro hR p l e R s m args below meth c H locs L g C K h1 h2 hP hS hL
  exact lv_dup C.1 C.2.1 hd ((a_k_ok g v).trans hv) (k (hR.push hR.top) p l e R s m args below meth c H locs L g C K h1 h2 hP hS hL)
theorem AW.dup2 {v w : aV} (hd : decode M.2.1 pc = .ok (.dup2, 1)) (hv : a_k v = 1) (hw : a_k w = 1) (k : AW M F (pc + 1) ls (v :: w :: v :: w :: st) h Q) : AW M F pc ls (v :: w :: st) h Q := by
  intro hR p l e R s m args below meth c H locs L g C K h1 h2 hP hS hL
  exact lv_dup2_11 C.1 C.2.1 hd ((a_k_ok g v).trans hv) ((a_k_ok g w).trans hw) (k ((hR.push hR.pop.top).push hR.top) p l e R s m args below meth c H locs L g C K h1 h2 hP hS hL)
theorem AW.pop {v : aV} (hd : decode M.2.1 pc = .ok (.pop, 1)) (hv : a_k v = 1) (k : AW M F (pc + 1) ls st h Q) : AW M F pc ls (v :: st) h Q := by
  intro hR p l e R s m args below meth c H locs L g C K h1 h2 hP hS hL
  exact lv_pop C.1 C.2.1 hd ((a_k_ok g v).trans hv) (k hR.pop p l e R s m args below meth c H locs L g C K h1 h2 hP hS hL)
theorem AW.goto {off : Int} {tgt : Nat} (hd : decode M.2.1 pc = .ok (.goto off, 3)) (ht : (pc : Int) + off = (tgt : Int)) (k : AW M F tgt ls st h Q) : AW M F pc ls st h Q := by
  intro hR p l e R s m args below meth c H locs L g C K h1 h2 hP hS hL
  exact lv_goto C.1 C.2.1 hd ht (k hR p l e R s m args below meth c H locs L g C K h1 h2 hP hS hL)
/-! longs (one method of the reference) -/
theorem AW.lconst {n : Fin 2} (hd : decode M.2.1 pc = .ok (.lconst n, 1)) (k : AW M F (pc + 1) ls (aJ (n.val : Int) :: st) h Q) : AW M F pc ls st h Q := by
  intro hR p l e R s m args below meth c H locs L g C K h1 h2 hP hS hL
  exact lv_lconst (v := Int64.ofInt (n.val : Int)) C.1 C.2.1 hd (by match n with | 0 => rfl | 1 => rfl) (k (hR.push trivial) p l e R s m args below meth c H locs L g C K h1 h2 hP hS hL)
theorem AW.lmul {a b : Int} (hd : decode M.2.1 pc = .ok (.lmul, 1)) (k : AW M F (pc + 1) ls (aJ (a * b) :: st) h Q) : AW M F pc ls (aJ b :: aJ a :: st) h Q := by
  intro hR p l e R s m args below meth c H locs L g C K h1 h2 hP hS hL
  refine lv_lmul C.1 C.2.1 hd ?_
  rw [← Int64.ofInt_mul]
  exact k (hR.pop.pop.push trivial) p l e R s m args below meth c H locs L g C K h1 h2 hP hS hL
theorem AW.i2l {a : Int} (hd : decode M.2.1 pc = .ok (.i2l, 1)) (k : AW M F (pc + 1) ls (aJ a :: st) h Q) : AW M F pc ls (aI a :: st) h Q := by
  intro hR p l e R s m args below meth c H locs L g C K h1 h2 hP hS hL
  have ha : inR a := hR.top
  refine lv_i2l C.1 C.2.1 hd (Int32.toInt64_ofInt ?_ ?_) (k (hR.pop.push trivial) p l e R s m args below meth c H locs L g C K h1 h2 hP hS hL)
  · show (-2147483648 : Int) ≤ a; exact ha.1
  · show a ≤ (2147483647 : Int); exact ha.2
theorem AW.l2i {a : Int} (hd : decode M.2.1 pc = .ok (.l2i, 1)) (k : AW M F (pc + 1) ls (aI (Int64.ofInt a).toInt32.toInt :: st) h Q) : AW M F pc ls (aJ a :: st) h Q := by
  intro hR p l e R s m args below meth c H locs L g C K h1 h2 hP hS hL
  refine lv_l2i (v := (Int64.ofInt a).toInt32) C.1 C.2.1 hd rfl ?_
  have q := k (hR.pop.push (a_32 _)) p l e R s m args below meth c H locs L g C K h1 h2 hP hS hL
  simp only [List.map_cons, a_v, Int32.ofInt_toInt] at q
  exact q
theorem AW.lcmp {a b : Int} (hd : decode M.2.1 pc = .ok (.lcmp, 1)) (k : AW M F (pc + 1) ls (aI (lg_cmp (Int64.ofInt a) (Int64.ofInt b)).toInt :: st) h Q) : AW M F pc ls (aJ b :: aJ a :: st) h Q := by
  intro hR p l e R s m args below meth c H locs L g C K h1 h2 hP hS hL
  refine W.lcmp C.1 C.2.1 hd ?_
  have q := k (hR.pop.pop.push (a_32 _)) p l e R s m args below meth c H locs L g C K h1 h2 hP hS hL
  simp only [List.map_cons, a_v, Int32.ofInt_toInt] at q
  exact q
theorem AW.ldc2 {ix : Nat} {n : Int} (hd : decode M.2.1 pc = .ok (.ldc2_w ix, 3)) (hw : Cond.constantLong M.1.cls ix (Int64.ofInt n) ∈ a_ws) (k : AW M F (pc + 3) ls (aJ n :: st) h Q) : AW M F pc ls st h Q := by
  intro hR p l e R s m args below meth c H locs L g C K h1 h2 hP hS hL
  obtain ⟨hx, hb, hr, hml, hown, hlk, hts⟩ := id C
  exact W.ldc2 hx hb hown (hts _ hw) rfl hd (k (hR.push trivial) p l e R s m args below meth c H locs L g C K h1 h2 hP hS hL)
end A1
end
section
section A2
variable {M M' : aM} {F F' pc : Nat} {ls : List (Option aV)} {st : List aV} {h : aH} {Q : aQ}
/-! branches -/
theorem AW.icmp_eq {a b off : Int} {tgt : Nat} (hd : decode M.2.1 pc = .ok (.if_icmp .eq off, 3)) (ht : (pc : Int) + off = (tgt : Int)) (kt : a = b → AW M F tgt ls st h Q) (kf : ¬ (a = b) → AW M F (pc + 3) ls st h Q) : AW M F pc ls (aI b :: aI a :: st) h Q := by
  intro hR p l e R s m args below meth c H locs L g C K h1 h2 hP hS hL
  have hb : inR b := hR.top
  have ha : inR a := hR.pop.top
  exact lv_icmp_eq C.1 C.2.1 hd ht (fun q => kt ((a_eq_iff ha hb).mp q) hR.pop.pop p l e R s m args below meth c H locs L g C K h1 h2 hP hS hL) (fun q => kf (fun q' => q ((a_eq_iff ha hb).mpr q')) hR.pop.pop p l e R s m args below meth c H locs L g C K h1 h2 hP hS hL)
theorem AW.if_eq {a off : Int} {tgt : Nat} (hd : decode M.2.1 pc = .ok (.ifCond .eq off, 3)) (ht : (pc : Int) + off = (tgt : Int)) (kt : a = 0 → AW M F tgt ls st h Q) (kf : ¬ (a = 0) → AW M F (pc + 3) ls st h Q) : AW M F pc ls (aI a :: st) h Q := by
  intro hR p l e R s m args below meth c H locs L g C K h1 h2 hP hS hL
  have hb : inR 0 := ⟨by decide, by decide⟩
  have ha : inR a := hR.top
  exact lv_if_eq C.1 C.2.1 hd ht (fun q => kt ((a_eq_iff ha hb).mp q) hR.pop p l e R s m args below meth c H locs L g C K h1 h2 hP hS hL) (fun q => kf (fun q' => q ((a_eq_iff ha hb).mpr q')) hR.pop p l e R s m args below meth c H locs L g C K h1 h2 hP hS hL)
theorem AW.icmp_ne {a b off : Int} {tgt : Nat} (hd : decode M.2.1 pc = .ok (.if_icmp .ne off, 3)) (ht : (pc : Int) + off = (tgt : Int)) (kt : ¬ a = b → AW M F tgt ls st h Q) (kf : ¬ (¬ a = b) → AW M F (pc + 3) ls st h Q) : AW M F pc ls (aI b :: aI a :: st) h Q := by
  intro hR p l e R s m args below meth c H locs L g C K h1 h2 hP hS hL
  have hb : inR b := hR.top
  have ha : inR a := hR.pop.top
  exact lv_icmp_ne C.1 C.2.1 hd ht (fun q => kt ((not_congr (a_eq_iff ha hb)).mp q) hR.pop.pop p l e R s m args below meth c H locs L g C K h1 h2 hP hS hL) (fun q => kf (fun q' => q' ((a_eq_iff ha hb).mp q)) hR.pop.pop p l e R s m args below meth c H locs L g C K h1 h2 hP hS hL)
theorem AW.if_ne {a off : Int} {tgt : Nat} (hd : decode M.2.1 pc = .ok (.ifCond .ne off, 3)) (ht : (pc : Int) + off = (tgt : Int)) (kt : ¬ a = 0 → AW M F tgt ls st h Q) (kf : ¬ (¬ a = 0) → AW M F (pc + 3) ls st h Q) : AW M F pc ls (aI a :: st) h Q := by
  intro hR p l e R s m args below meth c H locs L g C K h1 h2 hP hS hL
  have hb : inR 0 := ⟨by decide, by decide⟩
  have ha : inR a := hR.top
  exact lv_if_ne C.1 C.2.1 hd ht (fun q => kt ((not_congr (a_eq_iff ha hb)).mp q) hR.pop p l e R s m args below meth c H locs L g C K h1 h2 hP hS hL) (fun q => kf (fun q' => q' ((a_eq_iff ha hb).mp q)) hR.pop p l e R s m args below meth c H locs L g C K h1 h2 hP hS hL)
theorem AW.icmp_lt {a b off : Int} {tgt : Nat} (hd : decode M.2.1 pc = .ok (.if_icmp .lt off, 3)) (ht : (pc : Int) + off = (tgt : Int)) (kt : a < b → AW M F tgt ls st h Q) (kf : ¬ (a < b) → AW M F (pc + 3) ls st h Q) : AW M F pc ls (aI b :: aI a :: st) h Q := by
  intro hR p l e R s m args below meth c H locs L g C K h1 h2 hP hS hL
  have hb : inR b := hR.top
  have ha : inR a := hR.pop.top
  exact lv_icmp_lt C.1 C.2.1 hd ht (fun q => kt ((a_lt_iff ha hb).mp q) hR.pop.pop p l e R s m args below meth c H locs L g C K h1 h2 hP hS hL) (fun q => kf (fun q' => q ((a_lt_iff ha hb).mpr q')) hR.pop.pop p l e R s m args below meth c H locs L g C K h1 h2 hP hS hL)
theorem AW.if_lt {a off : Int} {tgt : Nat} (hd : decode M.2.1 pc = .ok (.ifCond .lt off, 3)) (ht : (pc : Int) + off = (tgt : Int)) (kt : a < 0 → AW M F tgt ls st h Q) (kf : ¬ (a < 0) → AW M F (pc + 3) ls st h Q) : AW M F pc ls (aI a :: st) h Q := by
  intro hR p l e R s m args below meth c H locs L g C K h1 h2 hP hS hL
  have hb : inR 0 := ⟨by decide, by decide⟩
  have ha : inR a := hR.top
  exact lv_if_lt C.1 C.2.1 hd ht (fun q => kt ((a_lt_iff ha hb).mp q) hR.pop p l e R s m args below meth c H locs L g C K h1 h2 hP hS hL) (fun q => kf (fun q' => q ((a_lt_iff ha hb).mpr q')) hR.pop p l e R s m args below meth c H locs L g C K h1 h2 hP hS hL)
theorem AW.icmp_ge {a b off : Int} {tgt : Nat} (hd : decode M.2.1 pc = .ok (.if_icmp .ge off, 3)) (ht : (pc : Int) + off = (tgt : Int)) (kt : b ≤ a → AW M F tgt ls st h Q) (kf : ¬ (b ≤ a) → AW M F (pc + 3) ls st h Q) : AW M F pc ls (aI b :: aI a :: st) h Q := by
  intro hR p l e R s m args below meth c H locs L g C K h1 h2 hP hS hL
  have hb : inR b := hR.top
  have ha : inR a := hR.pop.top
  exact lv_icmp_ge C.1 C.2.1 hd ht (fun q => kt ((a_le_iff hb ha).mp q) hR.pop.pop p l e R s m args below meth c H locs L g C K h1 h2 hP hS hL) (fun q => kf (fun q' => q ((a_le_iff hb ha).mpr q')) hR.pop.pop p l e R s m args below meth c H locs L g C K h1 h2 hP hS hL)
theorem AW.if_ge {a off : Int} {tgt : Nat} (hd : decode M.2.1 pc = .ok (.ifCond .ge off, 3)) (ht : (pc : Int) + off = (tgt : Int)) (kt : 0 ≤ a → AW M F tgt ls st h Q) (kf : ¬ (0 ≤ a) → AW M F (pc + 3) ls st h Q) : AW M F pc ls (aI a :: st) h Q := by
  intro hR p l e R s m args below meth c H locs L g C K h1 h2 hP hS hL
  have hb : inR 0 := ⟨by decide, by decide⟩
  have ha : inR a := hR.top
  exact lv_if_ge C.1 C.2.1 hd ht (fun q => kt ((a_le_iff hb ha).mp q) hR.pop p l e R s m args below meth c H locs L g C K h1 h2 hP hS hL) (fun q => kf (fun q' => q ((a_le_iff hb ha).mpr q')) hR.pop p l e R s m args below meth c H locs L g C K h1 h2 hP hS hL)
theorem AW.icmp_gt {a b off : Int} {tgt : Nat} (hd : decode M.2.1 pc = .ok (.if_icmp .gt off, 3)) (ht : (pc : Int) + off = (tgt : Int)) (kt : b < a → AW M F tgt ls st h Q) (kf : ¬ (b < a) → AW M F (pc + 3) ls st h Q) : AW M F pc ls (aI b :: aI a :: st) h Q := by
  intro hR p l e R s m args below meth c H locs L g C K h1 h2 hP hS hL
  have hb : inR b := hR.top
  have ha : inR a := hR.pop.top
  exact lv_icmp_gt C.1 C.2.1 hd ht (fun q => kt ((a_lt_iff hb ha).mp q) hR.pop.pop p l e R s m args below meth c H locs L g C K h1 h2 hP hS hL) (fun q => kf (fun q' => q ((a_lt_iff hb ha).mpr q')) hR.pop.pop p l e R s m args below meth c H locs L g C K h1 h2 hP hS hL)
theorem AW.if_gt {a off : Int} {tgt : Nat} (hd : decode M.2.1 pc = .ok (.ifCond .gt off, 3)) (ht : (pc : Int) + off = (tgt : Int)) (kt : 0 < a → AW M F tgt ls st h Q) (kf : ¬ (0 < a) → AW M F (pc + 3) ls st h Q) : AW M F pc ls (aI a :: st) h Q := by
  intro hR p l e R s m args below meth c H locs L g C K h1 h2 hP hS hL
  have hb : inR 0 := ⟨by decide, by decide⟩
  have ha : inR a := hR.top
  exact lv_if_gt C.1 C.2.1 hd ht (fun q => kt ((a_lt_iff hb ha).mp q) hR.pop p l e R s m args below meth c H locs L g C K h1 h2 hP hS hL) (fun q => kf (fun q' => q ((a_lt_iff hb ha).mpr q')) hR.pop p l e R s m args below meth c H locs L g C K h1 h2 hP hS hL)
theorem AW.icmp_le {a b off : Int} {tgt : Nat} (hd : decode M.2.1 pc = .ok (.if_icmp .le off, 3)) (ht : (pc : Int) + off = (tgt : Int)) (kt : a ≤ b → AW M F tgt ls st h Q) (kf : ¬ (a ≤ b) → AW M F (pc + 3) ls st h Q) : AW M F pc ls (aI b :: aI a :: st) h Q := by
  intro hR p l e R s m args below meth c H locs L g C K h1 h2 hP hS hL
  have hb : inR b := hR.top
  have ha : inR a := hR.pop.top
  exact lv_icmp_le C.1 C.2.1 hd ht (fun q => kt ((a_le_iff ha hb).mp q) hR.pop.pop p l e R s m args below meth c H locs L g C K h1 h2 hP hS hL) (fun q => kf (fun q' => q ((a_le_iff ha hb).mpr q')) hR.pop.pop p l e R s m args below meth c H locs L g C K h1 h2 hP hS hL)
theorem AW.if_le {a off : Int} {tgt : Nat} (hd : decode M.2.1 pc = .ok (.ifCond .le off, 3)) (ht : (pc : Int) + off = (tgt : Int)) (kt : a ≤ 0 → AW M F tgt ls st h Q) (kf : ¬ (a ≤ 0) → AW M F (pc + 3) ls st h Q) : AW M F pc ls (aI a :: st) h Q := by
  intro hR p l e R s m args below meth c H locs L g C K h1 h2 hP hS hL
  have hb : inR 0 := ⟨by decide, by decide⟩
  have ha : inR a := hR.top
  exact lv_if_le C.1 C.2.1 hd ht (fun q => kt ((a_le_iff ha hb).mp q) hR.pop p l e R s m args below meth c H locs L g C K h1 h2 hP hS hL) (fun q => kf (fun q' => q ((a_le_iff ha hb).mpr q')) hR.pop p l e R s m args below meth c H locs L g C K h1 h2 hP hS hL)
theorem AW.tsw {a d lo hi : Int} {offs : Array Int} {len : Nat} (hd : decode M.2.1 pc = .ok (.tableswitch d lo hi offs, len)) (kin : lo ≤ a → a ≤ hi → ∃ (tgt : Nat) (off : Int), offs[(a - lo).toNat]? = some off ∧ (pc : Int) + off = (tgt : Int) ∧ AW M F tgt ls st h Q) (kout : (a < lo ∨ hi < a) → ∃ tgt : Nat, (pc : Int) + d = (tgt : Int) ∧ AW M F tgt ls st h Q) : AW M F pc ls (aI a :: st) h Q := by
  intro hR p l e R s m args below meth c H locs L g C K h1 h2 hP hS hL
  have ha : inR a := hR.top
  by_cases q : a < lo ∨ hi < a
  · obtain ⟨tgt, ht, k⟩ := kout q
    exact lv_tableOut C.1 C.2.1 hd (by rw [a_ti ha]; exact q) ht (k hR.pop p l e R s m args below meth c H locs L g C K h1 h2 hP hS hL)
  · obtain ⟨tgt, off, ho, ht, k⟩ := kin (by omega) (by omega)
    exact lv_tableIn C.1 C.2.1 hd (by rw [a_ti ha]; omega) (by rw [a_ti ha]; omega) (by rw [a_ti ha]; exact ho) ht (k hR.pop p l e R s m args below meth c H locs L g C K h1 h2 hP hS hL)
/-! fields -/
def a_cls (ci : Nat) (C : String) (T : u_T) (N : Nat) (ty : Nat → FieldType) : Prop := vwCl[ci]? = some (C, T, N) ∧ (∀ w ∈ u_ws C T N, w ∈ a_ws) ∧ (∀ k, k < N → parseFieldDescriptor (T k).2.2.1 = some (ty k)) ∧ ∀ a, a < N → ∀ b, b < N → a ≠ b → (T a).2.1 ≠ (T b).2.1
theorem AW.getr {ci x ix k r N : Nat} {C : String} {T : u_T} {ty : Nat → FieldType} {fs : List (Option Nat)} (hd : decode M.2.1 pc = .ok (.getfield ix, 3)) (hc : a_cls ci C T N ty) (hs : a_T[x]? = some (.inr (ci, fs))) (hf : fs[k]? = some (some r)) (hk : k < N) (hl : Cond.fieldLink M.1.cls ix (T k).1 (T k).2.1 (T k).2.2.1 ∈ a_ws) (kk : AW M F (pc + 3) ls (aR r :: st) h Q) : AW M F pc ls (aR x :: st) h Q := by
  intro hR p l e R s m args below meth c H locs L g C K h1 h2 hP hS hL
  obtain ⟨hx, hb, hr, hml, hown, hlk, hts⟩ := id C
  refine va_get (D := g.2.1) (v := .ref (g.1 r)) (ref := (T k).1) hx hb hts hc.2.1 hown K.2.1 hP x (a_lay_at hs) hc.1 k hk (hts _ hl) (fun _ q => q) ?_ hd (kk (hR.pop.push trivial) p l e R s m args below meth c H locs L g C K h1 h2 hP hS hL)
  simp [hf, a_f]
theorem AW.geti {ci x ix k N : Nat} {v : Int} {C : String} {T : u_T} {ty : Nat → FieldType} {fs : List (Option Nat)} (hd : decode M.2.1 pc = .ok (.getfield ix, 3)) (hc : a_cls ci C T N ty) (hs : a_T[x]? = some (.inr (ci, fs))) (hf : fs[k]? = some none) (hk : k < N) (hl : Cond.fieldLink M.1.cls ix (T k).1 (T k).2.1 (T k).2.2.1 ∈ a_ws) (hv : h x (k : Int) = v) (kk : AW M F (pc + 3) ls (aI v :: st) h Q) : AW M F pc ls (aR x :: st) h Q := by
  subst hv
  intro hR p l e R s m args below meth c H locs L g C K h1 h2 hP hS hL
  obtain ⟨hx, hb, hr, hml, hown, hlk, hts⟩ := id C
  refine va_get (D := g.2.1) (v := .int (Int32.ofInt (h x (k : Int)))) (ref := (T k).1) hx hb hts hc.2.1 hown K.2.1 hP x (a_lay_at hs) hc.1 k hk (hts _ hl) (fun _ q => q) ?_ hd (kk (hR.pop.push (hR.1 _ _)) p l e R s m args below meth c H locs L g C K h1 h2 hP hS hL)
  simp [hf, a_f]
theorem a_mapIdx_set {g : aG} {h : aH} {x k : Nat} {v : Int} {fs : List (Option Nat)} (hf : fs[k]? = some none) : (fs.mapIdx (a_f g (h x))).set k (.int (Int32.ofInt v)) = fs.mapIdx (a_f g (a_up h x (k : Int) v x)) := by
  apply List.ext_getElem?
  intro d
  by_cases e : d = k
  · subst e
    rw [List.getElem?_set_self (by simpa using (List.getElem?_eq_some_iff.mp hf).1)]
    simp [hf, a_f, a_up_eq]
  · rw [List.getElem?_set_ne (fun q => e q.symm)]
    have e2 : ((d : Int) = (k : Int)) = False := by simp; omega
    simp only [List.getElem?_mapIdx]
    congr 1
    funext o
    cases o <;> simp [a_f, a_up_at, e2]
theorem AW.puti {ci x ix k N : Nat} {v : Int} {C : String} {T : u_T} {ty : Nat → FieldType} {fs : List (Option Nat)} {fty : FieldType} (hd : decode M.2.1 pc = .ok (.putfield ix, 3)) (hc : a_cls ci C T N ty) (hs : a_T[x]? = some (.inr (ci, fs))) (hf : fs[k]? = some none) (hk : k < N) (hl : Cond.fieldLink M.1.cls ix (T k).1 (T k).2.1 (T k).2.2.1 ∈ a_ws) (hfin : (T k).2.2.2 = false) (hty : parseFieldDescriptor (T k).2.2.1 = some fty) (hn : fty = .int ∨ (fty = .boolean ∧ (v = 0 ∨ v = 1))) (kk : AW M F (pc + 3) ls st (a_up h x (k : Int) v) Q) : AW M F pc ls (aI v :: aR x :: st) h Q := by
  intro hR p l e R s m args below meth c H locs L g C K h1 h2 hP hS hL
  obtain ⟨hx, hb, hr, hml, hown, hlk, hts⟩ := id C
  refine va_put (D := g.2.1) (v := .int (Int32.ofInt v)) (ref := (T k).1) hx hb hts hc.2.1 ty hc.2.2.1 hc.2.2.2 hown K.2.1 hP (K.D h) hS x (a_lay_at hs) hc.1 k hk (hts _ hl) (fun _ q => q) hfin hty ?_ ?_ ?_ hd (fun H1 locs1 hP1 hD1 hS1 => ?_)
  · rcases hn with rfl | ⟨rfl, rfl | rfl⟩ <;> rfl
  · rcases hn with rfl | ⟨rfl, rfl | rfl⟩ <;> rfl
  · simpa using (List.getElem?_eq_some_iff.mp hf).1
  · rw [a_lay_set (h' := a_up h x (k : Int) v) hs (by rw [a_mapIdx_set hf]; rfl) (fun d hd => a_up_ne hd)] at hP1
    exact kk (hR.pop.pop.heap (a_up_r hR.1 hR.top)) p l e R s m args below meth c H1 locs1 L g C K h1 h2 hP1 hS1 hL
/-! arrays -/
theorem a_tn2 {i : Int} (h0 : 0 ≤ i) : ((i.toNat : Nat) : Int) = i := Int.toNat_of_nonneg h0
theorem AW.iald {x n b : Nat} {i v : Int} (hd : decode M.2.1 pc = .ok (.iaload, 1)) (hs : a_T[x]? = some (.inl (0, n, b))) (hi : 0 ≤ i ∧ i < n) (hv : h x i = v) (kk : AW M F (pc + 1) ls (aI v :: st) h Q) : AW M F pc ls (aI i :: aR x :: st) h Q := by
  subst hv
  intro hR p l e R s m args below meth c H locs L g C K h1 h2 hP hS hL
  have hr : inR i := hR.top
  refine va_iald (D := g.2.1) C.1 C.2.1 K.2.1 hP x 0 (a_lay_at hs) rfl (a_vin hr hi.1 hi.2) hd ?_
  rw [a_tn hr]
  have q := kk (hR.pop.pop.push (hR.1 _ _)) p l e R s m args below meth c H locs L g C K h1 h2 hP hS hL
  rw [← a_tn2 hi.1] at q
  exact q
theorem AW.zald {x n b : Nat} {i v : Int} (hd : decode M.2.1 pc = .ok (.baload, 1)) (hs : a_T[x]? = some (.inl (1, n, b))) (hi : 0 ≤ i ∧ i < n) (hv : h x i = v) (kk : AW M F (pc + 1) ls (aI v :: st) h Q) : AW M F pc ls (aI i :: aR x :: st) h Q := by
  subst hv
  intro hR p l e R s m args below meth c H locs L g C K h1 h2 hP hS hL
  have hr : inR i := hR.top
  refine va_zald (D := g.2.1) C.1 C.2.1 K.2.1 hP x 1 (a_lay_at hs) rfl (a_vin hr hi.1 hi.2) hd ?_
  rw [a_tn hr]
  have q := kk (hR.pop.pop.push (hR.1 _ _)) p l e R s m args below meth c H locs L g C K h1 h2 hP hS hL
  rw [← a_tn2 hi.1] at q
  exact q
theorem a_upd {h : aH} {x : Nat} {i v : Int} (h0 : 0 ≤ i) : upd (fun (j : Nat) => Int32.ofInt (h x (j : Int))) i.toNat (Int32.ofInt v) = fun (j : Nat) => Int32.ofInt (a_up h x i v x (j : Int)) := by
  funext j
  rw [a_up_at]
  unfold upd
  by_cases e : j = i.toNat
  · rw [if_pos e, if_pos (by omega)]
  · rw [if_neg e, if_neg (by omega)]
theorem AW.iast {x n b : Nat} {i v : Int} (hd : decode M.2.1 pc = .ok (.iastore, 1)) (hs : a_T[x]? = some (.inl (0, n, b))) (hi : 0 ≤ i ∧ i < n) (kk : AW M F (pc + 1) ls st (a_up h x i v) Q) : AW M F pc ls (aI v :: aI i :: aR x :: st) h Q := by
  intro hR p l e R s m args below meth c H locs L g C K h1 h2 hP hS hL
  have hr : inR i := hR.pop.top
  refine va_iast (D := g.2.1) C.1 C.2.1 K.2.1 hP (K.D h) hS x 0 (a_lay_at hs) rfl (a_vin hr hi.1 hi.2) hd (fun H1 locs1 hP1 hD1 hS1 => ?_)
  rw [a_tn hr, a_upd hi.1] at hP1
  have hP1 : va_P g.2.1 vwCl (a_lay g (a_up h x i v)) H1 := by
    rw [← a_lay_set (g := g) (h := h) (h' := a_up h x i v) hs rfl (fun d hd => a_up_ne hd)]
    exact hP1
  exact kk (hR.pop.pop.pop.heap (a_up_r hR.1 hR.top)) p l e R s m args below meth c H1 locs1 L g C K h1 h2 hP1 hS1 hL
theorem AW.zast {x n b : Nat} {i v : Int} (hd : decode M.2.1 pc = .ok (.bastore, 1)) (hs : a_T[x]? = some (.inl (1, n, b))) (hi : 0 ≤ i ∧ i < n) (hv : v = 0 ∨ v = 1) (kk : AW M F (pc + 1) ls st (a_up h x i v) Q) : AW M F pc ls (aI v :: aI i :: aR x :: st) h Q := by
  intro hR p l e R s m args below meth c H locs L g C K h1 h2 hP hS hL
  have hr : inR i := hR.pop.top
  refine va_zast (D := g.2.1) C.1 C.2.1 K.2.1 hP (K.D h) hS x 1 (a_lay_at hs) rfl (a_vin hr hi.1 hi.2) hd (fun H1 locs1 hP1 hD1 hS1 => ?_)
  have hz : vp_nar .boolean (Int32.ofInt v) = Int32.ofInt v := by rcases hv with rfl | rfl <;> rfl
  rw [hz, a_tn hr, a_upd hi.1] at hP1
  have hP1 : va_P g.2.1 vwCl (a_lay g (a_up h x i v)) H1 := by
    rw [← a_lay_set (g := g) (h := h) (h' := a_up h x i v) hs rfl (fun d hd => a_up_ne hd)]
    exact hP1
  exact kk (hR.pop.pop.pop.heap (a_up_r hR.1 hR.top)) p l e R s m args below meth c H1 locs1 L g C K h1 h2 hP1 hS1 hL
theorem AW.alen {x n b : Nat} (hd : decode M.2.1 pc = .ok (.arraylength, 1)) (hs : a_T[x]? = some (.inl (0, n, b))) (hn : inR (n : Int)) (kk : AW M F (pc + 1) ls (aI (n : Int) :: st) h Q) : AW M F pc ls (aR x :: st) h Q := by
  intro hR p l e R s m args below meth c H locs L g C K h1 h2 hP hS hL
  exact va_alen (D := g.2.1) C.1 C.2.1 K.2.1 hP x 0 (a_lay_at hs) rfl (v := Int32.ofInt (n : Int)) Int32.ofInt_eq_ofNat.symm hd (kk (hR.pop.push hn) p l e R s m args below meth c H locs L g C K h1 h2 hP hS hL)
theorem AW.aald {x n b : Nat} {i : Int} (hd : decode M.2.1 pc = .ok (.aaload, 1)) (hs : a_T[x]? = some (.inl (2, n, b))) (hi : 0 ≤ i ∧ i < n) (kk : AW M F (pc + 1) ls (aR (b + i.toNat) :: st) h Q) : AW M F pc ls (aI i :: aR x :: st) h Q := by
  intro hR p l e R s m args below meth c H locs L g C K h1 h2 hP hS hL
  have hr : inR i := hR.top
  have hlt : i.toNat < n := by omega
  have hcell := hP x _ (a_lay_at hs)
  refine W.aald (v := .ref (g.1 (b + i.toNat))) (ty := .array .int) C.1 C.2.1 hcell ((K.2.1.2 2 _ rfl).1 n _) rfl (fun q => by cases q) ?_ ?_ rfl rfl hd (kk (hR.pop.pop.push trivial) p l e R s m args below meth c H locs L g C K h1 h2 hP hS hL)
  · show ¬ (_ ∨ (arrV _ _ _).slots.size ≤ _)
    rw [arrV_size]
    exact a_vin hr hi.1 hi.2
  · show (arrV _ _ _).slots[_]? = _
    rw [a_tn hr, arrV_read _ _ hlt]
    simp [hlt, va_rf]
/-! the end -/
theorem AW.iret {z : Int} (hd : decode M.2.1 pc = .ok (.ireturn, 1)) (ht : M.2.2.2 = some .int) (k : Q z h) : AW M F pc ls [aI z] h Q := by
  intro hR p l e R s m args below meth c H locs L g C K h1 h2 hP hS hL
  have hQ : a_Qc g M Q = a_Qi g Q := by unfold a_Qc; rw [ht]
  rw [hQ]
  exact W.iret (v := Int32.ofInt z) C.1 C.2.1 (C.2.2.1.trans ht) (fun t ht' hW => ⟨⟨_, h, rfl, ⟨z, rfl, hR.top, hR.1, k⟩, (congrArg (va_P g.2.1 vwCl (a_lay g h)) ht').mpr hP⟩, hS.F ht'⟩) hS.2.2 hd C.2.2.2.2.2.1
theorem AW.zret {z : Int} (hd : decode M.2.1 pc = .ok (.ireturn, 1)) (ht : M.2.2.2 = some .boolean) (hz : z = 0 ∨ z = 1) (k : Q z h) : AW M F pc ls [aI z] h Q := by
  intro hR p l e R s m args below meth c H locs L g C K h1 h2 hP hS hL
  have hQ : a_Qc g M Q = a_Qi g Q := by unfold a_Qc; rw [ht]
  rw [hQ]
  exact W.zret (v := Int32.ofInt z) (ty := .boolean) C.1 C.2.1 (C.2.2.1.trans ht) (by rcases hz with rfl | rfl <;> rfl) (fun t ht' hW => ⟨⟨_, h, rfl, ⟨z, rfl, hR.top, hR.1, k⟩, (congrArg (va_P g.2.1 vwCl (a_lay g h)) ht').mpr hP⟩, hS.F ht'⟩) hS.2.2 hd C.2.2.2.2.2.1
theorem AW.vret (hd : decode M.2.1 pc = .ok (.return_, 1)) (ht : M.2.2.2 = none) (k : Q 0 h) : AW M F pc ls [] h Q := by
  intro hR p l e R s m args below meth c H locs L g C K h1 h2 hP hS hL
  have hQ : a_Qc g M Q = a_Qv g Q := by unfold a_Qc; rw [ht]
  rw [hQ]
  exact W.vret C.1 C.2.1 (C.2.2.1.trans ht) (fun t ht' hW => ⟨⟨h, rfl, ⟨hR.1, k⟩, (congrArg (va_P g.2.1 vwCl (a_lay g h)) ht').mpr hP⟩, hS.F ht'⟩) hS.2.2 hd C.2.2.2.2.2.1
end A2
end
section
section A3
variable {M M' : aM} {F F' pc : Nat} {ls : List (Option aV)} {st : List aV} {h : aH} {Q : aQ}
theorem a_Rg.args {as rest : List aV} (q : a_Rg h ls (as.reverse ++ rest)) : a_Rg h [] as := ⟨q.1, fun v hv => absurd hv List.not_mem_nil, fun v hv => q.2.2 v (List.mem_append_left _ (List.mem_reverse.mpr hv))⟩
theorem a_Rg.rest {as rest : List aV} (q : a_Rg h ls (as.reverse ++ rest)) : a_Rg h ls rest := ⟨q.1, q.2.1, fun v hv => q.2.2 v (List.mem_append_right _ hv)⟩
theorem a_pay {s : State} {args : Array Value} (hk : Cond.code M'.1 M'.2.1 M'.2.2.1 M'.2.2.2 ∈ a_ws) (hts : ∀ w ∈ a_ws, w.before args s = true) : ∀ w ∈ Cond.code M'.1 M'.2.1 M'.2.2.1 M'.2.2.2 :: a_ws, ∀ (a' : Array Value) (U : State), s.WarmedH U.vm → w.before a' U = true := by
  intro w hw
  have hw : w ∈ a_ws := by
    rcases List.mem_cons.mp hw with rfl | e
    · exact hk
    · exact e
  exact pay_in hts a_ws_good w hw
theorem a_K.warm {g : aG} {s U : State} (K : a_K g s) (hW : s.WarmedH U.vm) : a_K g U := ⟨K.1, va_K.moved hW.alike K.2.1, fun q hq => va_Nw.warmM hW (K.2.2 q hq)⟩
theorem a_K.same {g : aG} {s U : State} (K : a_K g s) (e : s.vm = U.vm) : a_K g U := ⟨K.1, va_K.moved (by rw [e]; exact Vm.Alike.refl _) K.2.1, fun q hq => va_Nw.same rfl e (K.2.2 q hq)⟩
theorem a_blind {g : aG} {vs : List Value} : FrameBlind (va_Pc vs (fun U => a_K g U ∧ va_P g.2.1 vwCl (a_lay g h) U.heap)) := fun a U f mk q => ⟨q.1, q.2.1.same (U := U.calling f mk a) rfl, q.2.2⟩
theorem a_pre {g : aG} {s U : State} {H : Heap} {vs : List Value} (K : a_K g s) (hP : va_P g.2.1 vwCl (a_lay g h) H) (hU : U.heap = H) (hW : s.WarmedH U.vm) : va_Pc vs (fun U => a_K g U ∧ va_P g.2.1 vwCl (a_lay g h) U.heap) vs.toArray U := ⟨rfl, K.warm hW, by rw [hU]; exact hP⟩
theorem a_cat {g : aG} (hst : (st.map a_k).sum ≤ 8) : ((st.map (a_v g)).map fun v => v.category).sum ≤ 8 := by
  rw [List.map_map]
  have : ((fun v : Value => v.category) ∘ a_v g) = a_k := by
    funext v
    exact a_k_ok g v
  rw [this]
  exact hst
def a_np (M : aM) (n : Nat) : Prop := (parseMethodDescriptor M.1.desc).map (fun d => d.parameters.length) = some n
theorem a_np.use {n : Nat} (q : a_np M n) : ∀ sig, parseMethodDescriptor M.1.desc = some sig → n = sig.parameters.length := by
  intro sig e
  unfold a_np at q
  rw [e] at q
  exact (Option.some.inj q).symm
theorem a_room {R : Room} (hF : F' + 1 ≤ F) (h1 : F ≤ R.frames) (h2 : F * 40 ≤ R.locals) (hm : M'.2.2.1 ≤ 20) : F' + 1 ≤ R.frames ∧ 8 + (M'.2.2.1 + 11) + F' * 40 ≤ R.locals := ⟨by omega, by omega⟩
theorem a_callB {R : Room} {s : State} {args : Array Value} {ix n : Nat} {own : String} (hts : ∀ w ∈ a_ws, w.before args s = true) (h1 : Cond.code M'.1 M'.2.1 M'.2.2.1 M'.2.2.2 ∈ a_ws) (h2 : Cond.initialized M'.1.cls ∈ a_ws) (h3 : M'.1.cls ≠ "java/lang/invoke/MethodHandle" ∧ M'.1.cls ≠ "java/lang/invoke/VarHandle" ∧ M'.2.2.1 ≤ 20) (hl : Cond.methodLink own ix M'.1 ∈ a_ws) (hn : a_np M' n) (hF : F' + 1 ≤ F) (q1 : F ≤ R.frames) (q2 : F * 40 ≤ R.locals) :
    CallB R s args own ix M'.1 M'.2.1 M'.2.2.1 M'.2.2.2 (Cond.code M'.1 M'.2.1 M'.2.2.1 M'.2.2.2 :: a_ws) { frames := F', cells := 0, slots := 0, locals := F' * 40 } 0 0 n :=
  ⟨rfl, rfl, (a_room hF q1 q2 h3.2.2).1, (a_room hF q1 q2 h3.2.2).2, a_pay h1 hts, List.mem_cons_self, hts _ h1, hts _ h2, ⟨h3.1, h3.2.1⟩, hn.use, hts _ hl⟩
def a_obj (x : Nat) (C : String) : Prop := ∃ (ci : Nat) (fs : List (Option Nat)) (q : vw_C), a_T[x]? = some (.inr (ci, fs)) ∧ vwCl[ci]? = some q ∧ q.1 = C
theorem a_obj.recv {x : Nat} {C : String} (ho : a_obj x C) {g : aG} {s : State} {H : Heap} (K : a_K g s) (hP : va_P g.2.1 vwCl (a_lay g h) H) : ∃ cell : Cell, H[g.1 x]? = some cell ∧ cell.vm.isStatics = false ∧ s.vm.findClass C = some cell.cls := by
  obtain ⟨ci, fs, q, h1, h2, rfl⟩ := ho
  exact va_recv K.2.1 hP h2 (a_lay_at h1)
/-! calls: the callee's run, with what is behind it as its end -/
theorem AW.callVi {x ix : Nat} {as : List aV} {ty : FieldType} (hd : decode M.2.1 pc = .ok (.invokevirtual ix, 3)) (hF : F' + 1 ≤ F) (hk : a_inst M') (hl : Cond.methodLink M.1.cls ix M'.1 ∈ a_ws) (ho : a_obj x M'.1.cls) (hr : M'.2.2.2 = some ty) (hn : a_np M' as.length) (hst : (st.map a_k).sum ≤ 8) (hrun : aRun M' F' (aR x :: as) h (fun r h' => AW M F (pc + 3) ls (aI r :: st) h' Q)) : AW M F pc ls (as.reverse ++ aR x :: st) h Q := by
  intro hR p l e R s m args below meth c H locs L g C K h1 h2 hP hS hL
  obtain ⟨hx, hb, hrt, hml, hown, hlk, hts⟩ := id C
  have hM := hrun ⟨hR.1, fun v hv => absurd hv List.not_mem_nil, fun v hv => hR.2.2 v (by
    rcases List.mem_cons.mp hv with rfl | e
    · exact List.mem_append_right _ List.mem_cons_self
    · exact List.mem_append_left _ (List.mem_reverse.mpr e))⟩ l g
  rw [show a_Qc g M' (fun r h' => AW M F (pc + 3) ls (aI r :: st) h' Q) = a_Qi g (fun r h' => AW M F (pc + 3) ls (aI r :: st) h' Q) from by unfold a_Qc; rw [hr]] at hM
  refine va_calli (va_runV (As := as.map (a_v g)) (rest := st.map (a_v g)) (b := g.1 x) (C := M'.1.cls) (g := F0 m pc L ((as.reverse ++ aR x :: st).map (a_v g))) ⟨hx, hb, hml, hown, hts⟩ hM ⟨a_callB (n := as.length) hts hk.1 hk.2.1 hk.2.2.2 hl hn hF h1 h2, hts _ hk.2.2.1.1, hts _ hk.2.2.1.2⟩ ⟨a_blind, ho.recv K hP, fun U hU hW => a_pre (vs := (aR x :: as).map (a_v g)) K hP hU hW⟩ rfl (by simp) hL.1 (by simp [a_v]) (lv_room (a_cat hst)) hd ⟨Nat.zero_le _, Nat.zero_le _⟩) hS (fun _ _ q => q) (fun _ q => q) (fun r u t H1 locs1 ht hvm hp hB hz hk1 hS1 => ?_)
  obtain ⟨z, rfl, hz1, hu, hA⟩ := hp
  exact hA ((hR.rest.pop.heap hu).push hz1) p l e R s m args below meth c H1 locs1 L g C K h1 h2 (by rw [← ht]; exact hB) hS1 hL
theorem AW.callVv {x ix : Nat} {as : List aV} (hd : decode M.2.1 pc = .ok (.invokevirtual ix, 3)) (hF : F' + 1 ≤ F) (hk : a_inst M') (hl : Cond.methodLink M.1.cls ix M'.1 ∈ a_ws) (ho : a_obj x M'.1.cls) (hr : M'.2.2.2 = none) (hn : a_np M' as.length) (hst : (st.map a_k).sum ≤ 8) (hrun : aRun M' F' (aR x :: as) h (fun _ h' => AW M F (pc + 3) ls st h' Q)) : AW M F pc ls (as.reverse ++ aR x :: st) h Q := by
  intro hR p l e R s m args below meth c H locs L g C K h1 h2 hP hS hL
  obtain ⟨hx, hb, hrt, hml, hown, hlk, hts⟩ := id C
  have hM := hrun ⟨hR.1, fun v hv => absurd hv List.not_mem_nil, fun v hv => hR.2.2 v (by
    rcases List.mem_cons.mp hv with rfl | e
    · exact List.mem_append_right _ List.mem_cons_self
    · exact List.mem_append_left _ (List.mem_reverse.mpr e))⟩ l g
  rw [show a_Qc g M' (fun _ h' => AW M F (pc + 3) ls st h' Q) = a_Qv g (fun _ h' => AW M F (pc + 3) ls st h' Q) from by unfold a_Qc; rw [hr]] at hM
  refine va_callv (va_runV (As := as.map (a_v g)) (rest := st.map (a_v g)) (b := g.1 x) (C := M'.1.cls) (g := F0 m pc L ((as.reverse ++ aR x :: st).map (a_v g))) ⟨hx, hb, hml, hown, hts⟩ hM ⟨a_callB (n := as.length) hts hk.1 hk.2.1 hk.2.2.2 hl hn hF h1 h2, hts _ hk.2.2.1.1, hts _ hk.2.2.1.2⟩ ⟨a_blind, ho.recv K hP, fun U hU hW => a_pre (vs := (aR x :: as).map (a_v g)) K hP hU hW⟩ rfl (by simp) hL.1 (by simp [a_v]) (lv_room (a_cat hst)) hd ⟨Nat.zero_le _, Nat.zero_le _⟩) hS (fun _ _ q => q) (fun _ q => q) (fun u t H1 locs1 ht hvm hp hB hz hk1 hS1 => ?_)
  obtain ⟨hu, hA⟩ := hp
  exact hA (hR.rest.pop.heap hu) p l e R s m args below meth c H1 locs1 L g C K h1 h2 (by rw [← ht]; exact hB) hS1 hL
theorem AW.callSi {ix : Nat} {as : List aV} {ty : FieldType} (hd : decode M.2.1 pc = .ok (.invokestatic ix, 3)) (hF : F' + 1 ≤ F) (hk : a_stat M') (hl : Cond.methodLink M.1.cls ix M'.1 ∈ a_ws) (hr : M'.2.2.2 = some ty) (hn : a_np M' as.length) (hst : (st.map a_k).sum ≤ 8) (hrun : aRun M' F' as h (fun r h' => AW M F (pc + 3) ls (aI r :: st) h' Q)) : AW M F pc ls (as.reverse ++ st) h Q := by
  intro hR p l e R s m args below meth c H locs L g C K h1 h2 hP hS hL
  obtain ⟨hx, hb, hrt, hml, hown, hlk, hts⟩ := id C
  have hM := hrun hR.args l g
  rw [show a_Qc g M' (fun r h' => AW M F (pc + 3) ls (aI r :: st) h' Q) = a_Qi g (fun r h' => AW M F (pc + 3) ls (aI r :: st) h' Q) from by unfold a_Qc; rw [hr]] at hM
  refine va_calli (va_runS (As := as.map (a_v g)) (rest := st.map (a_v g)) (g := F0 m pc L ((as.reverse ++ st).map (a_v g))) ⟨hx, hb, hml, hown, hts⟩ hM ⟨a_callB (n := as.length) hts hk.1 hk.2.1 hk.2.2.2 hl hn hF h1 h2, hts _ hk.2.2.1⟩ ⟨a_blind, fun U hU hW => a_pre (vs := as.map (a_v g)) K hP hU hW⟩ rfl (by simp) hL.1 (by simp) (lv_room (a_cat hst)) hd ⟨Nat.zero_le _, Nat.zero_le _⟩) hS (fun _ _ q => q) (fun _ q => q) (fun r u t H1 locs1 ht hvm hp hB hz hk1 hS1 => ?_)
  obtain ⟨z, rfl, hz1, hu, hA⟩ := hp
  exact hA ((hR.rest.heap hu).push hz1) p l e R s m args below meth c H1 locs1 L g C K h1 h2 (by rw [← ht]; exact hB) hS1 hL
theorem AW.callSv {ix : Nat} {as : List aV} (hd : decode M.2.1 pc = .ok (.invokestatic ix, 3)) (hF : F' + 1 ≤ F) (hk : a_stat M') (hl : Cond.methodLink M.1.cls ix M'.1 ∈ a_ws) (hr : M'.2.2.2 = none) (hn : a_np M' as.length) (hst : (st.map a_k).sum ≤ 8) (hrun : aRun M' F' as h (fun _ h' => AW M F (pc + 3) ls st h' Q)) : AW M F pc ls (as.reverse ++ st) h Q := by
  intro hR p l e R s m args below meth c H locs L g C K h1 h2 hP hS hL
  obtain ⟨hx, hb, hrt, hml, hown, hlk, hts⟩ := id C
  have hM := hrun hR.args l g
  rw [show a_Qc g M' (fun _ h' => AW M F (pc + 3) ls st h' Q) = a_Qv g (fun _ h' => AW M F (pc + 3) ls st h' Q) from by unfold a_Qc; rw [hr]] at hM
  refine va_callv (va_runS (As := as.map (a_v g)) (rest := st.map (a_v g)) (g := F0 m pc L ((as.reverse ++ st).map (a_v g))) ⟨hx, hb, hml, hown, hts⟩ hM ⟨a_callB (n := as.length) hts hk.1 hk.2.1 hk.2.2.2 hl hn hF h1 h2, hts _ hk.2.2.1⟩ ⟨a_blind, fun U hU hW => a_pre (vs := as.map (a_v g)) K hP hU hW⟩ rfl (by simp) hL.1 (by simp) (lv_room (a_cat hst)) hd ⟨Nat.zero_le _, Nat.zero_le _⟩) hS (fun _ _ q => q) (fun _ q => q) (fun u t H1 locs1 ht hvm hp hB hz hk1 hS1 => ?_)
  obtain ⟨hu, hA⟩ := hp
  exact hA (hR.rest.heap hu) p l e R s m args below meth c H1 locs1 L g C K h1 h2 (by rw [← ht]; exact hB) hS1 hL
theorem a_callN {R : Room} {g : aG} {s : State} {args : Array Value} {ix n : Nat} {own host : String} (K : a_K g s) (hts : ∀ w ∈ a_ws, w.before args s = true) (h1 : Cond.code M'.1 M'.2.1 M'.2.2.1 M'.2.2.2 ∈ a_ws) (h2 : Cond.initialized M'.1.cls ∈ a_ws) (h3 : M'.1.cls ≠ "java/lang/invoke/MethodHandle" ∧ M'.1.cls ≠ "java/lang/invoke/VarHandle" ∧ M'.2.2.1 ≤ 20) (hl : (own, ix, M'.1, host) ∈ a_nest) (hn : a_np M' n) (hF : F' + 1 ≤ F) (q1 : F ≤ R.frames) (q2 : F * 40 ≤ R.locals) :
    va_CN R s args own ix M'.1 host M'.2.1 M'.2.2.1 M'.2.2.2 (Cond.code M'.1 M'.2.1 M'.2.2.1 M'.2.2.2 :: a_ws) { frames := F', cells := 0, slots := 0, locals := F' * 40 } 0 0 n :=
  ⟨⟨rfl, rfl, (a_room hF q1 q2 h3.2.2).1, (a_room hF q1 q2 h3.2.2).2, a_pay h1 hts, List.mem_cons_self⟩, hts _ h1, hts _ h2, ⟨h3.1, h3.2.1⟩, hn.use, va_Nw.use rfl (K.2.2 _ hl)⟩
theorem AW.callNi {ix : Nat} {as : List aV} {ty : FieldType} {host : String} (hd : decode M.2.1 pc = .ok (.invokestatic ix, 3)) (hF : F' + 1 ≤ F) (hk : a_stat M') (hl : (M.1.cls, ix, M'.1, host) ∈ a_nest) (hr : M'.2.2.2 = some ty) (hn : a_np M' as.length) (hst : (st.map a_k).sum ≤ 8) (hrun : aRun M' F' as h (fun r h' => AW M F (pc + 3) ls (aI r :: st) h' Q)) : AW M F pc ls (as.reverse ++ st) h Q := by
  intro hR p l e R s m args below meth c H locs L g C K h1 h2 hP hS hL
  obtain ⟨hx, hb, hrt, hml, hown, hlk, hts⟩ := id C
  have hM := hrun hR.args l g
  rw [show a_Qc g M' (fun r h' => AW M F (pc + 3) ls (aI r :: st) h' Q) = a_Qi g (fun r h' => AW M F (pc + 3) ls (aI r :: st) h' Q) from by unfold a_Qc; rw [hr]] at hM
  refine va_calli (va_runSN (As := as.map (a_v g)) (rest := st.map (a_v g)) (g := F0 m pc L ((as.reverse ++ st).map (a_v g))) ⟨hx, hb, hml, hown, hts⟩ hM ⟨a_callN (n := as.length) K hts hk.1 hk.2.1 hk.2.2.2 hl hn hF h1 h2, hts _ hk.2.2.1, trivial⟩ ⟨a_blind, fun U hU hW => a_pre (vs := as.map (a_v g)) K hP hU hW⟩ rfl (by simp) hL.1 (by simp) (lv_room (a_cat hst)) hd ⟨Nat.zero_le _, Nat.zero_le _⟩) hS (fun _ _ q => q) (fun _ q => q) (fun r u t H1 locs1 ht hvm hp hB hz hk1 hS1 => ?_)
  obtain ⟨z, rfl, hz1, hu, hA⟩ := hp
  exact hA ((hR.rest.heap hu).push hz1) p l e R s m args below meth c H1 locs1 L g C K h1 h2 (by rw [← ht]; exact hB) hS1 hL
theorem AW.callNv {ix : Nat} {as : List aV} {host : String} (hd : decode M.2.1 pc = .ok (.invokestatic ix, 3)) (hF : F' + 1 ≤ F) (hk : a_stat M') (hl : (M.1.cls, ix, M'.1, host) ∈ a_nest) (hr : M'.2.2.2 = none) (hn : a_np M' as.length) (hst : (st.map a_k).sum ≤ 8) (hrun : aRun M' F' as h (fun _ h' => AW M F (pc + 3) ls st h' Q)) : AW M F pc ls (as.reverse ++ st) h Q := by
  intro hR p l e R s m args below meth c H locs L g C K h1 h2 hP hS hL
  obtain ⟨hx, hb, hrt, hml, hown, hlk, hts⟩ := id C
  have hM := hrun hR.args l g
  rw [show a_Qc g M' (fun _ h' => AW M F (pc + 3) ls st h' Q) = a_Qv g (fun _ h' => AW M F (pc + 3) ls st h' Q) from by unfold a_Qc; rw [hr]] at hM
  refine va_callv (va_runSN (As := as.map (a_v g)) (rest := st.map (a_v g)) (g := F0 m pc L ((as.reverse ++ st).map (a_v g))) ⟨hx, hb, hml, hown, hts⟩ hM ⟨a_callN (n := as.length) K hts hk.1 hk.2.1 hk.2.2.2 hl hn hF h1 h2, hts _ hk.2.2.1, trivial⟩ ⟨a_blind, fun U hU hW => a_pre (vs := as.map (a_v g)) K hP hU hW⟩ rfl (by simp) hL.1 (by simp) (lv_room (a_cat hst)) hd ⟨Nat.zero_le _, Nat.zero_le _⟩) hS (fun _ _ q => q) (fun _ q => q) (fun u t H1 locs1 ht hvm hp hB hz hk1 hS1 => ?_)
  obtain ⟨hu, hA⟩ := hp
  exact hA (hR.rest.heap hu) p l e R s m args below meth c H1 locs1 L g C K h1 h2 (by rw [← ht]; exact hB) hS1 hL
/-! Math.max, min; arraycopy -/
theorem AW.mmax {ix : Nat} {a b : Int} (hd : decode M.2.1 pc = .ok (.invokestatic ix, 3)) (hF : 1 ≤ F) (hl : Cond.methodLink M.1.cls ix Lib.Math.max.name ∈ a_ws) (hst : (st.map a_k).sum ≤ 8) (k : AW M F (pc + 3) ls (aI (max a b) :: st) h Q) : AW M F pc ls (aI b :: aI a :: st) h Q := by
  intro hR p l e R s m args below meth c H locs L g C K h1 h2 hP hS hL
  obtain ⟨hx, hb, hrt, hml, hown, hlk, hts⟩ := id C
  have hb' : inR b := hR.top
  have ha' : inR a := hR.pop.top
  refine va_mmax hx hb (hml.trans hL.1.symm) hown (hts _ hl) (hts _ sw_max) (hts _ iw_Math) (hts _ cw_max) (by omega) (by have := a_cat (g := g) hst; omega) (Nat.zero_le _) (Nat.zero_le _) hd ?_
  have e9 : (if Int32.ofInt a < Int32.ofInt b then Int32.ofInt b else Int32.ofInt a) = Int32.ofInt (max a b) := by
    by_cases q : a < b
    · rw [if_pos ((a_lt_iff ha' hb').mpr q), Int.max_eq_right (by omega)]
    · rw [if_neg (fun z => q ((a_lt_iff ha' hb').mp z)), Int.max_eq_left (by omega)]
  rw [e9]
  refine k (hR.pop.pop.push ?_) p l e R s m args below meth c H locs L g C K h1 h2 hP hS hL
  show inR (max a b)
  omega
theorem AW.mmin {ix : Nat} {a b : Int} (hd : decode M.2.1 pc = .ok (.invokestatic ix, 3)) (hF : 1 ≤ F) (hl : Cond.methodLink M.1.cls ix Lib.Math.min.name ∈ a_ws) (hst : (st.map a_k).sum ≤ 8) (k : AW M F (pc + 3) ls (aI (min a b) :: st) h Q) : AW M F pc ls (aI b :: aI a :: st) h Q := by
  intro hR p l e R s m args below meth c H locs L g C K h1 h2 hP hS hL
  obtain ⟨hx, hb, hrt, hml, hown, hlk, hts⟩ := id C
  have hb' : inR b := hR.top
  have ha' : inR a := hR.pop.top
  refine va_mmin hx hb (hml.trans hL.1.symm) hown (hts _ hl) (hts _ sw_min) (hts _ iw_Math) (hts _ cw_min) (by omega) (by have := a_cat (g := g) hst; omega) (Nat.zero_le _) (Nat.zero_le _) hd ?_
  have e9 : (if Int32.ofInt b < Int32.ofInt a then Int32.ofInt b else Int32.ofInt a) = Int32.ofInt (min a b) := by
    by_cases q : b < a
    · rw [if_pos ((a_lt_iff hb' ha').mpr q), Int.min_eq_right (by omega)]
    · rw [if_neg (fun z => q ((a_lt_iff hb' ha').mp z)), Int.min_eq_left (by omega)]
  rw [e9]
  refine k (hR.pop.pop.push ?_) p l e R s m args below meth c H locs L g C K h1 h2 hP hS hL
  show inR (min a b)
  omega
theorem AW.copy {ix x y n n' b b' : Nat} {i j cnt : Int} (hd : decode M.2.1 pc = .ok (.invokestatic ix, 3)) (hF : 1 ≤ F) (hl : Cond.methodLink M.1.cls ix arraycopyName ∈ a_ws) (hst : (st.map a_k).sum ≤ 8) (hs : a_T[x]? = some (.inl (0, n, b))) (hs' : a_T[y]? = some (.inl (0, n', b'))) (hi : 0 ≤ i ∧ 0 ≤ j ∧ 0 ≤ cnt ∧ i + cnt ≤ n ∧ j + cnt ≤ n') (k : AW M F (pc + 3) ls st (a_cp h x i y j cnt) Q) : AW M F pc ls (aI cnt :: aI j :: aR y :: aI i :: aR x :: st) h Q := by
  intro hR p l e R s m args below meth c H locs L g C K h1 h2 hP hS hL
  obtain ⟨hx, hb, hrt, hml, hown, hlk, hts⟩ := id C
  have r1 : inR cnt := hR.top
  have r2 : inR j := hR.pop.top
  have r3 : inR i := hR.pop.pop.pop.top
  have hz : inR 0 := ⟨by decide, by decide⟩
  obtain ⟨q1, q2, q3, q4, q5⟩ := hi
  refine va_copyi (D := g.2.1) (ty := .int) hx hb (hml.trans hL.1.symm) hown (hts _ hl) (hts _ nw_copy) (hts _ sw_copy) (hts _ iw_System) K.2.1 hP (K.D h) hS x y 0 0 (a_lay_at hs) (a_lay_at hs') rfl rfl rfl (fun z => by have := (a_lt_iff r3 hz).mp z; omega) (fun z => by have := (a_lt_iff r2 hz).mp z; omega) (fun z => by have := (a_lt_iff r1 hz).mp z; omega) (by rw [a_tn r3, a_tn r1]; omega) (by rw [a_tn r2, a_tn r1]; omega) (fun _ _ => rfl) (by omega) (by have := a_cat (g := g) hst; have : nativeFrameWords "java/lang/System" "arraycopy" 5 + 11 ≤ 32 := (by decide +kernel); omega) hd (fun H1 locs1 hP1 hD1 hS1 => ?_)
  rw [a_tn r1, a_tn r2, a_tn r3] at hP1
  have e9 : va_cpy (fun (j : Nat) => Int32.ofInt (h x (j : Int))) (fun (j : Nat) => Int32.ofInt (h y (j : Int))) i.toNat j.toNat cnt.toNat = fun (k : Nat) => Int32.ofInt (a_cp h x i y j cnt y (k : Int)) := by
    funext k
    rw [a_cp_at]
    unfold va_cpy
    by_cases z : j ≤ (k : Int) ∧ (k : Int) < j + cnt
    · rw [if_pos (by omega), if_pos z]
      have e8 : ((i.toNat + (k - j.toNat) : Nat) : Int) = i + ((k : Int) - j) := by omega
      show Int32.ofInt (h x ((i.toNat + (k - j.toNat) : Nat) : Int)) = _
      rw [e8]
    · rw [if_neg (by omega), if_neg z]
  have hP1 : va_P g.2.1 vwCl (a_lay g (a_cp h x i y j cnt)) H1 := by
    rw [← a_lay_set (g := g) (h := h) (h' := a_cp h x i y j cnt) hs' rfl (fun d hd => a_cp_ne hd)]
    rw [e9] at hP1
    exact hP1
  exact k (hR.pop.pop.pop.pop.pop.heap (a_cp_r hR.1)) p l e R s m args below meth c H1 locs1 L g C K h1 h2 hP1 hS1 hL
/-! a method's run out of its walk -/
theorem a_nolong {as : List aV} (hn : as.all (fun v => a_k v == 1) = true) (g : aG) : lg_sl (as.map (a_v g)) = (as.map (a_v g)).map Slot.val := by
  induction as with
  | nil => rfl
  | cons v t ih =>
    simp only [List.all_cons, Bool.and_eq_true, beq_iff_eq] at hn
    have := ih hn.2
    unfold lg_sl at this ⊢
    simp only [List.map_cons, List.flatMap_cons, this]
    rw [if_neg (by rw [a_k_ok, hn.1]; decide)]
    rfl
theorem aRun.of {as : List aV} (hp : plainName M.1.cls = true) (hn : as.all (fun v => a_k v == 1) = true) (hle : as.length ≤ M.2.2.1) (k : AW M F 0 (as.map some ++ List.replicate (M.2.2.1 - as.length) none) [] h Q) : aRun M F as h Q := by
  intro hR l g
  refine Met.ofW hp rfl ?_
  intro p e s m args below meth c s₁ B hml hv
  obtain ⟨rfl, hK, hP⟩ := hv
  have hts := atoms_spec (ws := Cond.code M.1 M.2.1 M.2.2.1 M.2.2.2 :: a_ws) B.pre
  have hE := lv_entry (as.map (a_v g)) (n := M.2.2.1) (by rw [a_nolong hn]; simpa using hle)
  rw [lg_entry_eq]
  refine k ⟨hR.1, fun v hv => ?_, fun v hv => absurd hv List.not_mem_nil⟩ p l e _ s m _ below meth c s.heap [] _ g ⟨B.exec, B.bytes, B.returns, hml, findClass_of_methodNamed B.named, B.notSynchronized, fun w hw => hts w (List.mem_cons_of_mem _ hw)⟩ hK (Nat.le_refl _) (Nat.le_refl _) hP va_S.rf ⟨hE.1, hE.2.1, fun i v hi => ?_⟩
  · rcases List.mem_append.mp hv with q | q
    · exact hR.2.2 v (by simpa using q)
    · simp at q
  · have hi' : as[i]? = some v := by
      by_cases q : i < as.length
      · rw [List.getElem?_append_left (by simpa using q)] at hi
        simpa using hi
      · rw [List.getElem?_append_right (by simpa using q)] at hi
        simp [List.getElem?_replicate] at hi
    have hlt : i < as.length := (List.getElem?_eq_some_iff.mp hi').1
    rw [a_nolong hn]
    simp only [List.getElem?_toArray]
    rw [List.getElem?_append_left (by simpa using hlt)]
    simp [hi']
theorem aRun.mono {as : List aV} {Q' : aQ} (hQ : ∀ r u, Q r u → Q' r u) (k : aRun M F as h Q) : aRun M F as h Q' := by
  intro hR l g p e ha hc hk s m args below hf hpre hP hK
  obtain ⟨t, o, a1, a2, a3, a4, a5⟩ := k hR l g p e ha hc hk s m args below hf hpre hP hK
  refine ⟨t, o, a1, a2, a3, ?_, a5⟩
  revert a4
  unfold a_Qc
  cases M.2.2.2 with
  | none =>
    rintro ⟨⟨u, e1, ⟨e2, e3⟩, e4⟩, e5⟩
    exact ⟨⟨u, e1, ⟨e2, hQ _ _ e3⟩, e4⟩, e5⟩
  | some ty =>
    rintro ⟨⟨r, u, e1, ⟨z, e2, e3, e6, e7⟩, e4⟩, e5⟩
    exact ⟨⟨r, u, e1, ⟨z, e2, e3, e6, hQ _ _ e7⟩, e4⟩, e5⟩
end A3
end
section
section A4
variable {M M' : aM} {F F' pc : Nat} {ls : List (Option aV)} {st : List aV} {h : aH} {Q : aQ}
def a_mask : List Bool → List (Option aV) → List (Option aV)
  | b :: bs, o :: os => (bif b then o else none) :: a_mask bs os
  | _, os => os
theorem a_mask_at : ∀ (bs : List Bool) (ls : List (Option aV)) (k : Nat) (v : aV), (a_mask bs ls)[k]? = some (some v) → ls[k]? = some (some v)
  | [], ls, k, v, e => by simpa [a_mask] using e
  | b :: bs, [], k, v, e => by simp [a_mask] at e
  | b :: bs, o :: os, 0, v, e => by
    cases b <;> simp [a_mask] at e ⊢
    exact e
  | b :: bs, o :: os, k + 1, v, e => by
    simp only [a_mask, List.getElem?_cons_succ] at e ⊢
    exact a_mask_at bs os k v e
theorem AW.mask (bs : List Bool) (k : AW M F pc (a_mask bs ls) st h Q) : AW M F pc ls st h Q := by
  intro hR p l e R s m args below meth c H locs L g C K h1 h2 hP hS hL
  refine k ⟨hR.1, fun v hv => ?_, hR.2.2⟩ p l e R s m args below meth c H locs L g C K h1 h2 hP hS ⟨hL.1, hL.2.1, fun i v hv => hL.2.2 i v (a_mask_at bs ls i v hv)⟩
  obtain ⟨i, hi⟩ := List.getElem?_of_mem hv
  exact hR.loc (a_mask_at bs ls i v hi)
theorem AW.geti' {ci x ix k N : Nat} {v j : Int} {C : String} {T : u_T} {ty : Nat → FieldType} {fs : List (Option Nat)} (hd : decode M.2.1 pc = .ok (.getfield ix, 3)) (hc : a_cls ci C T N ty) (hs : a_T[x]? = some (.inr (ci, fs))) (hf : fs[k]? = some none) (hk : k < N) (hl : Cond.fieldLink M.1.cls ix (T k).1 (T k).2.1 (T k).2.2.1 ∈ a_ws) (hj : (k : Int) = j) (hv : h x j = v) (kk : AW M F (pc + 3) ls (aI v :: st) h Q) : AW M F pc ls (aR x :: st) h Q :=
  AW.geti hd hc hs hf hk hl (by rw [hj]; exact hv) kk
theorem AW.puti' {ci x ix k N : Nat} {v j : Int} {C : String} {T : u_T} {ty : Nat → FieldType} {fs : List (Option Nat)} {fty : FieldType} (hd : decode M.2.1 pc = .ok (.putfield ix, 3)) (hc : a_cls ci C T N ty) (hs : a_T[x]? = some (.inr (ci, fs))) (hf : fs[k]? = some none) (hk : k < N) (hl : Cond.fieldLink M.1.cls ix (T k).1 (T k).2.1 (T k).2.2.1 ∈ a_ws) (hj : (k : Int) = j) (hfin : (T k).2.2.2 = false) (hty : parseFieldDescriptor (T k).2.2.1 = some fty) (hn : fty = .int ∨ (fty = .boolean ∧ (v = 0 ∨ v = 1))) (kk : AW M F (pc + 3) ls st (a_up h x j v) Q) : AW M F pc ls (aI v :: aR x :: st) h Q := by
  subst hj
  exact AW.puti hd hc hs hf hk hl hfin hty hn kk
end A4
end
section
theorem ac_0 : a_cls 0 RX0 TX0 3 tyX0 := ⟨rfl, uw_0, tyX0_ok, nmX0⟩
theorem ac_1 : a_cls 1 RX1 TX1 6 tyX1 := ⟨rfl, uw_1, tyX1_ok, nmX1⟩
theorem ac_2 : a_cls 2 RX2 TX2 4 tyX2 := ⟨rfl, uw_2, tyX2_ok, nmX2⟩
theorem ac_3 : a_cls 3 RX3 TX3 3 tyX3 := ⟨rfl, uw_3, tyX3_ok, nmX3⟩
theorem ac_4 : a_cls 4 RX4 TX4 3 tyX4 := ⟨rfl, uw_4, tyX4_ok, nmX4⟩
theorem ac_5 : a_cls 5 RX5 TX5 9 tyX5 := ⟨rfl, uw_5, tyX5_ok, nmX5⟩
theorem ac_6 : a_cls 6 RX6 TX6 6 tyX6 := ⟨rfl, uw_6, tyX6_ok, nmX6⟩
theorem ac_7 : a_cls 7 RX7 TX7 2 tyX7 := ⟨rfl, uw_7, tyX7_ok, nmX7⟩
theorem ac_8 : a_cls 8 RX8 TX8 11 tyX8 := ⟨rfl, uw_8, tyX8_ok, nmX8⟩
theorem ac_9 : a_cls 9 RX9 TX9 17 tyX9 := ⟨rfl, uw_9, tyX9_ok, nmX9⟩
theorem ac_10 : a_cls 10 RX10 TX10 54 tyX10 := ⟨rfl, uw_10, tyX10_ok, nmX10⟩
theorem sh_0 : a_T[0]? = some (.inr (9, [some 4, some 6, some 14, some 1, some 22, some 31, some 40, some 44, some 46, some 65, some 71, some 75, some 77, some 2, some 3, none, none])) := rfl
theorem ob_0 : a_obj 0 RX9 := ⟨9, _, _, sh_0, rfl, rfl⟩
theorem sh_1 : a_T[1]? = some (.inl (0, 24, 0)) := rfl
theorem sh_2 : a_T[2]? = some (.inl (0, 24, 0)) := rfl
theorem sh_3 : a_T[3]? = some (.inl (0, 24, 0)) := rfl
theorem sh_4 : a_T[4]? = some (.inr (7, [some 5, none])) := rfl
theorem ob_4 : a_obj 4 RX7 := ⟨7, _, _, sh_4, rfl, rfl⟩
theorem sh_5 : a_T[5]? = some (.inl (0, 140, 0)) := rfl
theorem sh_6 : a_T[6]? = some (.inr (5, [none, none, some 7, some 8, some 9, some 10, some 11, some 12, some 13])) := rfl
theorem ob_6 : a_obj 6 RX5 := ⟨5, _, _, sh_6, rfl, rfl⟩
theorem sh_7 : a_T[7]? = some (.inl (0, 24, 0)) := rfl
theorem sh_8 : a_T[8]? = some (.inl (0, 24, 0)) := rfl
theorem sh_9 : a_T[9]? = some (.inl (0, 24, 0)) := rfl
theorem sh_10 : a_T[10]? = some (.inl (0, 24, 0)) := rfl
theorem sh_11 : a_T[11]? = some (.inl (0, 24, 0)) := rfl
theorem sh_12 : a_T[12]? = some (.inl (0, 24, 0)) := rfl
theorem sh_13 : a_T[13]? = some (.inl (0, 6, 0)) := rfl
theorem sh_14 : a_T[14]? = some (.inr (5, [none, none, some 15, some 16, some 17, some 18, some 19, some 20, some 21])) := rfl
theorem ob_14 : a_obj 14 RX5 := ⟨5, _, _, sh_14, rfl, rfl⟩
theorem sh_15 : a_T[15]? = some (.inl (0, 24, 0)) := rfl
theorem sh_16 : a_T[16]? = some (.inl (0, 24, 0)) := rfl
theorem sh_17 : a_T[17]? = some (.inl (0, 24, 0)) := rfl
theorem sh_18 : a_T[18]? = some (.inl (0, 24, 0)) := rfl
theorem sh_19 : a_T[19]? = some (.inl (0, 24, 0)) := rfl
theorem sh_20 : a_T[20]? = some (.inl (0, 24, 0)) := rfl
theorem sh_21 : a_T[21]? = some (.inl (0, 6, 0)) := rfl
theorem sh_22 : a_T[22]? = some (.inr (8, [some 23, some 24, some 25, some 26, some 27, some 28, some 29, some 30, none, none, none])) := rfl
theorem ob_22 : a_obj 22 RX8 := ⟨8, _, _, sh_22, rfl, rfl⟩
theorem sh_23 : a_T[23]? = some (.inl (0, 24, 0)) := rfl
theorem sh_24 : a_T[24]? = some (.inl (0, 24, 0)) := rfl
theorem sh_25 : a_T[25]? = some (.inl (0, 24, 0)) := rfl
theorem sh_26 : a_T[26]? = some (.inl (0, 24, 0)) := rfl
theorem sh_27 : a_T[27]? = some (.inl (0, 24, 0)) := rfl
theorem sh_28 : a_T[28]? = some (.inl (0, 24, 0)) := rfl
theorem sh_29 : a_T[29]? = some (.inl (0, 24, 0)) := rfl
theorem sh_30 : a_T[30]? = some (.inl (0, 24, 0)) := rfl
theorem sh_31 : a_T[31]? = some (.inr (8, [some 32, some 33, some 34, some 35, some 36, some 37, some 38, some 39, none, none, none])) := rfl
theorem ob_31 : a_obj 31 RX8 := ⟨8, _, _, sh_31, rfl, rfl⟩
theorem sh_32 : a_T[32]? = some (.inl (0, 24, 0)) := rfl
theorem sh_33 : a_T[33]? = some (.inl (0, 24, 0)) := rfl
theorem sh_34 : a_T[34]? = some (.inl (0, 24, 0)) := rfl
theorem sh_35 : a_T[35]? = some (.inl (0, 24, 0)) := rfl
theorem sh_36 : a_T[36]? = some (.inl (0, 24, 0)) := rfl
theorem sh_37 : a_T[37]? = some (.inl (0, 24, 0)) := rfl
theorem sh_38 : a_T[38]? = some (.inl (0, 24, 0)) := rfl
theorem sh_39 : a_T[39]? = some (.inl (0, 24, 0)) := rfl
theorem sh_40 : a_T[40]? = some (.inr (6, [some 41, none, some 42, none, some 43, none])) := rfl
theorem ob_40 : a_obj 40 RX6 := ⟨6, _, _, sh_40, rfl, rfl⟩
theorem sh_41 : a_T[41]? = some (.inl (0, 24, 0)) := rfl
theorem sh_42 : a_T[42]? = some (.inl (0, 25, 0)) := rfl
theorem sh_43 : a_T[43]? = some (.inl (0, 24, 0)) := rfl
theorem sh_44 : a_T[44]? = some (.inr (3, [some 45, none, none])) := rfl
theorem ob_44 : a_obj 44 RX3 := ⟨3, _, _, sh_44, rfl, rfl⟩
theorem sh_45 : a_T[45]? = some (.inl (0, 9, 0)) := rfl
theorem sh_46 : a_T[46]? = some (.inr (4, [some 47, none, none])) := rfl
theorem ob_46 : a_obj 46 RX4 := ⟨4, _, _, sh_46, rfl, rfl⟩
theorem sh_47 : a_T[47]? = some (.inl (2, 17, 48)) := rfl
theorem sh_48 : a_T[48]? = some (.inl (0, 24, 0)) := rfl
theorem sh_49 : a_T[49]? = some (.inl (0, 24, 0)) := rfl
theorem sh_50 : a_T[50]? = some (.inl (0, 24, 0)) := rfl
theorem sh_51 : a_T[51]? = some (.inl (0, 24, 0)) := rfl
theorem sh_52 : a_T[52]? = some (.inl (0, 24, 0)) := rfl
theorem sh_53 : a_T[53]? = some (.inl (0, 24, 0)) := rfl
theorem sh_54 : a_T[54]? = some (.inl (0, 24, 0)) := rfl
theorem sh_55 : a_T[55]? = some (.inl (0, 24, 0)) := rfl
theorem sh_56 : a_T[56]? = some (.inl (0, 24, 0)) := rfl
theorem sh_57 : a_T[57]? = some (.inl (0, 24, 0)) := rfl
theorem sh_58 : a_T[58]? = some (.inl (0, 24, 0)) := rfl
theorem sh_59 : a_T[59]? = some (.inl (0, 24, 0)) := rfl
theorem sh_60 : a_T[60]? = some (.inl (0, 24, 0)) := rfl
theorem sh_61 : a_T[61]? = some (.inl (0, 24, 0)) := rfl
theorem sh_62 : a_T[62]? = some (.inl (0, 24, 0)) := rfl
theorem sh_63 : a_T[63]? = some (.inl (0, 24, 0)) := rfl
theorem sh_64 : a_T[64]? = some (.inl (0, 24, 0)) := rfl
theorem sh_65 : a_T[65]? = some (.inr (1, [some 66, some 67, some 68, some 69, some 70, none])) := rfl
theorem ob_65 : a_obj 65 RX1 := ⟨1, _, _, sh_65, rfl, rfl⟩
theorem sh_66 : a_T[66]? = some (.inl (0, 24, 0)) := rfl
theorem sh_67 : a_T[67]? = some (.inl (0, 5, 0)) := rfl
theorem sh_68 : a_T[68]? = some (.inl (0, 5, 0)) := rfl
theorem sh_69 : a_T[69]? = some (.inl (0, 6, 0)) := rfl
theorem sh_70 : a_T[70]? = some (.inl (1, 24, 0)) := rfl
theorem sh_71 : a_T[71]? = some (.inr (0, [some 72, some 73, some 74])) := rfl
theorem ob_71 : a_obj 71 RX0 := ⟨0, _, _, sh_71, rfl, rfl⟩
theorem sh_72 : a_T[72]? = some (.inl (0, 6, 0)) := rfl
theorem sh_73 : a_T[73]? = some (.inl (0, 24, 0)) := rfl
theorem sh_74 : a_T[74]? = some (.inl (0, 5, 0)) := rfl
theorem sh_75 : a_T[75]? = some (.inr (2, [some 76, none, none, none])) := rfl
theorem ob_75 : a_obj 75 RX2 := ⟨2, _, _, sh_75, rfl, rfl⟩
theorem sh_76 : a_T[76]? = some (.inl (0, 24, 0)) := rfl
theorem sh_77 : a_T[77]? = some (.inr (5, [none, none, some 78, some 79, some 80, some 81, some 82, some 83, some 84])) := rfl
theorem ob_77 : a_obj 77 RX5 := ⟨5, _, _, sh_77, rfl, rfl⟩
theorem sh_78 : a_T[78]? = some (.inl (0, 24, 0)) := rfl
theorem sh_79 : a_T[79]? = some (.inl (0, 24, 0)) := rfl
theorem sh_80 : a_T[80]? = some (.inl (0, 24, 0)) := rfl
theorem sh_81 : a_T[81]? = some (.inl (0, 24, 0)) := rfl
theorem sh_82 : a_T[82]? = some (.inl (0, 24, 0)) := rfl
theorem sh_83 : a_T[83]? = some (.inl (0, 24, 0)) := rfl
theorem sh_84 : a_T[84]? = some (.inl (0, 6, 0)) := rfl
theorem sh_85 : a_T[85]? = some (.inr (10, [none, none, some 86, some 87, some 88, some 89, some 90, some 91, some 92, none, none, none, none, none, some 93, some 94, some 95, some 96, none, none, some 97, some 98, some 99, some 100, some 101, some 102, none, some 103, none, some 104, none, some 105, some 106, none, none, some 107, none, none, none, some 108, none, some 109, some 110, some 111, some 112, some 113, none, some 114, none, none, some 115, none, none, none])) := rfl
theorem ob_85 : a_obj 85 RX10 := ⟨10, _, _, sh_85, rfl, rfl⟩
theorem sh_86 : a_T[86]? = some (.inl (0, 24, 0)) := rfl
theorem sh_87 : a_T[87]? = some (.inl (0, 24, 0)) := rfl
theorem sh_88 : a_T[88]? = some (.inl (0, 24, 0)) := rfl
theorem sh_89 : a_T[89]? = some (.inl (0, 24, 0)) := rfl
theorem sh_90 : a_T[90]? = some (.inl (0, 120, 0)) := rfl
theorem sh_91 : a_T[91]? = some (.inl (0, 5, 0)) := rfl
theorem sh_92 : a_T[92]? = some (.inl (0, 140, 0)) := rfl
theorem sh_93 : a_T[93]? = some (.inl (0, 24, 0)) := rfl
theorem sh_94 : a_T[94]? = some (.inl (0, 24, 0)) := rfl
theorem sh_95 : a_T[95]? = some (.inl (0, 24, 0)) := rfl
theorem sh_96 : a_T[96]? = some (.inl (0, 2040, 0)) := rfl
theorem sh_97 : a_T[97]? = some (.inl (0, 24, 0)) := rfl
theorem sh_98 : a_T[98]? = some (.inl (0, 24, 0)) := rfl
theorem sh_99 : a_T[99]? = some (.inl (0, 24, 0)) := rfl
theorem sh_100 : a_T[100]? = some (.inl (0, 24, 0)) := rfl
theorem sh_101 : a_T[101]? = some (.inl (0, 24, 0)) := rfl
theorem sh_102 : a_T[102]? = some (.inl (1, 24, 0)) := rfl
theorem sh_103 : a_T[103]? = some (.inl (0, 24, 0)) := rfl
theorem sh_104 : a_T[104]? = some (.inl (0, 25, 0)) := rfl
theorem sh_105 : a_T[105]? = some (.inl (0, 48, 0)) := rfl
theorem sh_106 : a_T[106]? = some (.inl (0, 48, 0)) := rfl
theorem sh_107 : a_T[107]? = some (.inl (0, 10, 0)) := rfl
theorem sh_108 : a_T[108]? = some (.inl (0, 120, 0)) := rfl
theorem sh_109 : a_T[109]? = some (.inl (0, 48, 0)) := rfl
theorem sh_110 : a_T[110]? = some (.inl (0, 6, 0)) := rfl
theorem sh_111 : a_T[111]? = some (.inl (0, 6, 0)) := rfl
theorem sh_112 : a_T[112]? = some (.inl (0, 5, 0)) := rfl
theorem sh_113 : a_T[113]? = some (.inl (0, 24, 0)) := rfl
theorem sh_114 : a_T[114]? = some (.inl (0, 24, 0)) := rfl
theorem sh_115 : a_T[115]? = some (.inl (0, 223, 0)) := rfl
theorem npX0_atBest : a_np mX0_atBest 2 := by unfold a_np; decide +kernel
theorem npX0_forget : a_np mX0_forget 0 := by unfold a_np; decide +kernel
theorem npX0_init : a_np mX0_init 0 := by unfold a_np; decide +kernel
theorem npX0_leastOfAllOrders : a_np mX0_leastOfAllOrders 2 := by unfold a_np; decide +kernel
theorem npX0_nextHead : a_np mX0_nextHead 2 := by unfold a_np; decide +kernel
theorem npX0_over : a_np mX0_over 2 := by unfold a_np; decide +kernel
theorem npX0_preempted : a_np mX0_preempted 2 := by unfold a_np; decide +kernel
theorem npX0_workedOn : a_np mX0_workedOn 2 := by unfold a_np; decide +kernel
theorem npX10_all : a_np mX10_all 1 := by unfold a_np; decide +kernel
theorem npX10_alone : a_np mX10_alone 1 := by unfold a_np; decide +kernel
theorem npX10_back : a_np mX10_back 0 := by unfold a_np; decide +kernel
theorem npX10_begins : a_np mX10_begins 0 := by unfold a_np; decide +kernel
theorem npX10_best : a_np mX10_best 1 := by unfold a_np; decide +kernel
theorem npX10_bestOf : a_np mX10_bestOf 3 := by unfold a_np; decide +kernel
theorem npX10_block : a_np mX10_block 1 := by unfold a_np; decide +kernel
theorem npX10_bound : a_np mX10_bound 0 := by unfold a_np; decide +kernel
theorem npX10_brings : a_np mX10_brings 2 := by unfold a_np; decide +kernel
theorem npX10_byteAt : a_np mX10_byteAt 2 := by unfold a_np; decide +kernel
theorem npX10_changed : a_np mX10_changed 0 := by unfold a_np; decide +kernel
theorem npX10_changesOver : a_np mX10_changesOver 2 := by unfold a_np; decide +kernel
theorem npX10_chart : a_np mX10_chart 1 := by unfold a_np; decide +kernel
theorem npX10_chosen : a_np mX10_chosen 0 := by unfold a_np; decide +kernel
theorem npX10_comesBehind : a_np mX10_comesBehind 2 := by unfold a_np; decide +kernel
theorem npX10_comesMove : a_np mX10_comesMove 1 := by unfold a_np; decide +kernel
theorem npX10_count : a_np mX10_count 1 := by unfold a_np; decide +kernel
theorem npX10_dispatch : a_np mX10_dispatch 1 := by unfold a_np; decide +kernel
theorem npX10_dispatchedBy : a_np mX10_dispatchedBy 1 := by unfold a_np; decide +kernel
theorem npX10_does : a_np mX10_does 1 := by unfold a_np; decide +kernel
theorem npX10_endOf : a_np mX10_endOf 1 := by unfold a_np; decide +kernel
theorem npX10_feed : a_np mX10_feed 1 := by unfold a_np; decide +kernel
theorem npX10_fetches : a_np mX10_fetches 0 := by unfold a_np; decide +kernel
theorem npX10_findsMoves : a_np mX10_findsMoves 0 := by unfold a_np; decide +kernel
theorem npX10_firstOf : a_np mX10_firstOf 1 := by unfold a_np; decide +kernel
theorem npX10_forgets : a_np mX10_forgets 0 := by unfold a_np; decide +kernel
theorem npX10_headOf : a_np mX10_headOf 1 := by unfold a_np; decide +kernel
theorem npX10_image : a_np mX10_image 0 := by unfold a_np; decide +kernel
theorem npX10_in : a_np mX10_in 3 := by unfold a_np; decide +kernel
theorem npX10_init : a_np mX10_init 0 := by unfold a_np; decide +kernel
theorem npX10_is : a_np mX10_is 1 := by unfold a_np; decide +kernel
theorem npX10_isBetter : a_np mX10_isBetter 3 := by unfold a_np; decide +kernel
theorem npX10_isCritical : a_np mX10_isCritical 1 := by unfold a_np; decide +kernel
theorem npX10_isFigure : a_np mX10_isFigure 2 := by unfold a_np; decide +kernel
theorem npX10_isLongest : a_np mX10_isLongest 1 := by unfold a_np; decide +kernel
theorem npX10_isMachine : a_np mX10_isMachine 1 := by unfold a_np; decide +kernel
theorem npX10_isOpen : a_np mX10_isOpen 1 := by unfold a_np; decide +kernel
theorem npX10_isReady : a_np mX10_isReady 1 := by unfold a_np; decide +kernel
theorem npX10_isTask : a_np mX10_isTask 1 := by unfold a_np; decide +kernel
theorem npX10_jobAhead : a_np mX10_jobAhead 1 := by unfold a_np; decide +kernel
theorem npX10_jobBehind : a_np mX10_jobBehind 1 := by unfold a_np; decide +kernel
theorem npX10_keepsMove : a_np mX10_keepsMove 1 := by unfold a_np; decide +kernel
theorem npX10_kept : a_np mX10_kept 1 := by unfold a_np; decide +kernel
theorem npX10_lays : a_np mX10_lays 0 := by unfold a_np; decide +kernel
theorem npX10_leastBy : a_np mX10_leastBy 2 := by unfold a_np; decide +kernel
theorem npX10_leftOf : a_np mX10_leftOf 1 := by unfold a_np; decide +kernel
theorem npX10_machine : a_np mX10_machine 2 := by unfold a_np; decide +kernel
theorem npX10_mayStart : a_np mX10_mayStart 1 := by unfold a_np; decide +kernel
theorem npX10_move : a_np mX10_move 1 := by unfold a_np; decide +kernel
theorem npX10_must : a_np mX10_must 1 := by unfold a_np; decide +kernel
theorem npX10_neighbours : a_np mX10_neighbours 0 := by unfold a_np; decide +kernel
theorem npX10_nextAt : a_np mX10_nextAt 1 := by unfold a_np; decide +kernel
theorem npX10_nextOnWay : a_np mX10_nextOnWay 1 := by unfold a_np; decide +kernel
theorem npX10_nextReady : a_np mX10_nextReady 0 := by unfold a_np; decide +kernel
theorem npX10_notes : a_np mX10_notes 1 := by unfold a_np; decide +kernel
theorem npX10_of : a_np mX10_of 2 := by unfold a_np; decide +kernel
theorem npX10_order : a_np mX10_order 2 := by unfold a_np; decide +kernel
theorem npX10_parts : a_np mX10_parts 0 := by unfold a_np; decide +kernel
theorem npX10_passes : a_np mX10_passes 1 := by unfold a_np; decide +kernel
theorem npX10_passesAll : a_np mX10_passesAll 1 := by unfold a_np; decide +kernel
theorem npX10_passesRow : a_np mX10_passesRow 1 := by unfold a_np; decide +kernel
theorem npX10_placeOf : a_np mX10_placeOf 1 := by unfold a_np; decide +kernel
theorem npX10_preempted : a_np mX10_preempted 0 := by unfold a_np; decide +kernel
theorem npX10_puts : a_np mX10_puts 1 := by unfold a_np; decide +kernel
theorem npX10_readsAll : a_np mX10_readsAll 0 := by unfold a_np; decide +kernel
theorem npX10_readsJob : a_np mX10_readsJob 0 := by unfold a_np; decide +kernel
theorem npX10_readsTask : a_np mX10_readsTask 1 := by unfold a_np; decide +kernel
theorem npX10_reckons : a_np mX10_reckons 0 := by unfold a_np; decide +kernel
theorem npX10_redo : a_np mX10_redo 0 := by unfold a_np; decide +kernel
theorem npX10_restOf : a_np mX10_restOf 1 := by unfold a_np; decide +kernel
theorem npX10_shop : a_np mX10_shop 0 := by unfold a_np; decide +kernel
theorem npX10_span : a_np mX10_span 0 := by unfold a_np; decide +kernel
theorem npX10_spanBehind : a_np mX10_spanBehind 1 := by unfold a_np; decide +kernel
theorem npX10_step : a_np mX10_step 1 := by unfold a_np; decide +kernel
theorem npX10_steps : a_np mX10_steps 0 := by unfold a_np; decide +kernel
theorem npX10_swaps : a_np mX10_swaps 2 := by unfold a_np; decide +kernel
theorem npX10_swapsMove : a_np mX10_swapsMove 1 := by unfold a_np; decide +kernel
theorem npX10_tabu : a_np mX10_tabu 1 := by unfold a_np; decide +kernel
theorem npX10_tabuAt : a_np mX10_tabuAt 1 := by unfold a_np; decide +kernel
theorem npX10_tailOf : a_np mX10_tailOf 1 := by unfold a_np; decide +kernel
theorem npX10_takes : a_np mX10_takes 1 := by unfold a_np; decide +kernel
theorem npX10_takesOff : a_np mX10_takesOff 1 := by unfold a_np; decide +kernel
theorem npX10_task : a_np mX10_task 2 := by unfold a_np; decide +kernel
theorem npX10_toldAt : a_np mX10_toldAt 3 := by unfold a_np; decide +kernel
theorem npX10_triesFrom : a_np mX10_triesFrom 2 := by unfold a_np; decide +kernel
theorem npX10_turn : a_np mX10_turn 2 := by unfold a_np; decide +kernel
theorem npX10_undo : a_np mX10_undo 0 := by unfold a_np; decide +kernel
theorem npX10_walks : a_np mX10_walks 0 := by unfold a_np; decide +kernel
theorem npX10_way : a_np mX10_way 1 := by unfold a_np; decide +kernel
theorem npX10_waysAll : a_np mX10_waysAll 0 := by unfold a_np; decide +kernel
theorem npX10_worthOf : a_np mX10_worthOf 2 := by unfold a_np; decide +kernel
theorem npX10_would : a_np mX10_would 1 := by unfold a_np; decide +kernel
theorem npX10_wrong : a_np mX10_wrong 0 := by unfold a_np; decide +kernel
theorem npX1_choose : a_np mX1_choose 2 := by unfold a_np; decide +kernel
theorem npX1_clear : a_np mX1_clear 0 := by unfold a_np; decide +kernel
theorem npX1_init : a_np mX1_init 0 := by unfold a_np; decide +kernel
theorem npX1_isNext : a_np mX1_isNext 2 := by unfold a_np; decide +kernel
theorem npX1_key : a_np mX1_key 3 := by unfold a_np; decide +kernel
theorem npX1_lay : a_np mX1_lay 2 := by unfold a_np; decide +kernel
theorem npX1_putLast : a_np mX1_putLast 2 := by unfold a_np; decide +kernel
theorem npX1_startOf : a_np mX1_startOf 2 := by unfold a_np; decide +kernel
theorem npX2_forget : a_np mX2_forget 0 := by unfold a_np; decide +kernel
theorem npX2_init : a_np mX2_init 0 := by unfold a_np; decide +kernel
theorem npX2_look : a_np mX2_look 2 := by unfold a_np; decide +kernel
theorem npX2_lookAtAll : a_np mX2_lookAtAll 3 := by unfold a_np; decide +kernel
theorem npX2_nextOfAll : a_np mX2_nextOfAll 1 := by unfold a_np; decide +kernel
theorem npX2_waysOf : a_np mX2_waysOf 1 := by unfold a_np; decide +kernel
theorem npX3_find : a_np mX3_find 1 := by unfold a_np; decide +kernel
theorem npX3_init : a_np mX3_init 0 := by unfold a_np; decide +kernel
theorem npX3_keep : a_np mX3_keep 1 := by unfold a_np; decide +kernel
theorem npX3_takeOff : a_np mX3_takeOff 1 := by unfold a_np; decide +kernel
theorem npX4_begin : a_np mX4_begin 1 := by unfold a_np; decide +kernel
theorem npX4_goAhead : a_np mX4_goAhead 1 := by unfold a_np; decide +kernel
theorem npX4_goBack : a_np mX4_goBack 1 := by unfold a_np; decide +kernel
theorem npX4_init : a_np mX4_init 0 := by unfold a_np; decide +kernel
theorem npX4_note : a_np mX4_note 1 := by unfold a_np; decide +kernel
theorem npX5_add : a_np mX5_add 4 := by unfold a_np; decide +kernel
theorem npX5_clear : a_np mX5_clear 0 := by unfold a_np; decide +kernel
theorem npX5_copyOf : a_np mX5_copyOf 1 := by unfold a_np; decide +kernel
theorem npX5_finish : a_np mX5_finish 0 := by unfold a_np; decide +kernel
theorem npX5_init : a_np mX5_init 0 := by unfold a_np; decide +kernel
theorem npX5_jobAhead : a_np mX5_jobAhead 1 := by unfold a_np; decide +kernel
theorem npX5_jobNext : a_np mX5_jobNext 1 := by unfold a_np; decide +kernel
theorem npX5_longestJob : a_np mX5_longestJob 0 := by unfold a_np; decide +kernel
theorem npX5_orderByNumbers : a_np mX5_orderByNumbers 1 := by unfold a_np; decide +kernel
theorem npX5_tasksOn : a_np mX5_tasksOn 1 := by unfold a_np; decide +kernel
theorem npX6_addMove : a_np mX6_addMove 3 := by unfold a_np; decide +kernel
theorem npX6_beginning : a_np mX6_beginning 2 := by unfold a_np; decide +kernel
theorem npX6_cutBlocks : a_np mX6_cutBlocks 1 := by unfold a_np; decide +kernel
theorem npX6_find : a_np mX6_find 2 := by unfold a_np; decide +kernel
theorem npX6_findMoves : a_np mX6_findMoves 1 := by unfold a_np; decide +kernel
theorem npX6_first : a_np mX6_first 1 := by unfold a_np; decide +kernel
theorem npX6_goesOn : a_np mX6_goesOn 3 := by unfold a_np; decide +kernel
theorem npX6_init : a_np mX6_init 0 := by unfold a_np; decide +kernel
theorem npX6_second : a_np mX6_second 1 := by unfold a_np; decide +kernel
theorem npX6_walk : a_np mX6_walk 2 := by unfold a_np; decide +kernel
theorem npX7_init : a_np mX7_init 0 := by unfold a_np; decide +kernel
theorem npX7_isFigure : a_np mX7_isFigure 3 := by unfold a_np; decide +kernel
theorem npX7_isTask : a_np mX7_isTask 2 := by unfold a_np; decide +kernel
theorem npX7_letterAt : a_np mX7_letterAt 1 := by unfold a_np; decide +kernel
theorem npX7_number : a_np mX7_number 2 := by unfold a_np; decide +kernel
theorem npX7_put : a_np mX7_put 1 := by unfold a_np; decide +kernel
theorem npX7_readInto : a_np mX7_readInto 1 := by unfold a_np; decide +kernel
theorem npX7_taskEnd : a_np mX7_taskEnd 1 := by unfold a_np; decide +kernel
theorem npX8_atLeast : a_np mX8_atLeast 3 := by unfold a_np; decide +kernel
theorem npX8_endOf : a_np mX8_endOf 2 := by unfold a_np; decide +kernel
theorem npX8_init : a_np mX8_init 0 := by unfold a_np; decide +kernel
theorem npX8_lay : a_np mX8_lay 2 := by unfold a_np; decide +kernel
theorem npX8_layTails : a_np mX8_layTails 1 := by unfold a_np; decide +kernel
theorem npX8_link : a_np mX8_link 2 := by unfold a_np; decide +kernel
theorem npX8_queueFree : a_np mX8_queueFree 1 := by unfold a_np; decide +kernel
theorem npX8_release : a_np mX8_release 2 := by unfold a_np; decide +kernel
theorem npX8_toCome : a_np mX8_toCome 2 := by unfold a_np; decide +kernel
theorem npX9_all : a_np mX9_all 1 := by unfold a_np; decide +kernel
theorem npX9_back : a_np mX9_back 0 := by unfold a_np; decide +kernel
theorem npX9_best : a_np mX9_best 1 := by unfold a_np; decide +kernel
theorem npX9_block : a_np mX9_block 1 := by unfold a_np; decide +kernel
theorem npX9_bound : a_np mX9_bound 0 := by unfold a_np; decide +kernel
theorem npX9_brings : a_np mX9_brings 2 := by unfold a_np; decide +kernel
theorem npX9_changePlaces : a_np mX9_changePlaces 1 := by unfold a_np; decide +kernel
theorem npX9_changed : a_np mX9_changed 0 := by unfold a_np; decide +kernel
theorem npX9_chart : a_np mX9_chart 1 := by unfold a_np; decide +kernel
theorem npX9_chartByte : a_np mX9_chartByte 2 := by unfold a_np; decide +kernel
theorem npX9_chosen : a_np mX9_chosen 0 := by unfold a_np; decide +kernel
theorem npX9_copyRow : a_np mX9_copyRow 2 := by unfold a_np; decide +kernel
theorem npX9_count : a_np mX9_count 1 := by unfold a_np; decide +kernel
theorem npX9_dispatch : a_np mX9_dispatch 1 := by unfold a_np; decide +kernel
theorem npX9_does : a_np mX9_does 1 := by unfold a_np; decide +kernel
theorem npX9_feed : a_np mX9_feed 1 := by unfold a_np; decide +kernel
theorem npX9_forgetSteps : a_np mX9_forgetSteps 0 := by unfold a_np; decide +kernel
theorem npX9_goOn : a_np mX9_goOn 0 := by unfold a_np; decide +kernel
theorem npX9_image : a_np mX9_image 0 := by unfold a_np; decide +kernel
theorem npX9_init : a_np mX9_init 0 := by unfold a_np; decide +kernel
theorem npX9_kept : a_np mX9_kept 1 := by unfold a_np; decide +kernel
theorem npX9_keptSince : a_np mX9_keptSince 1 := by unfold a_np; decide +kernel
theorem npX9_lookForLeast : a_np mX9_lookForLeast 0 := by unfold a_np; decide +kernel
theorem npX9_machine : a_np mX9_machine 2 := by unfold a_np; decide +kernel
theorem npX9_move : a_np mX9_move 1 := by unfold a_np; decide +kernel
theorem npX9_nextOrder : a_np mX9_nextOrder 3 := by unfold a_np; decide +kernel
theorem npX9_noMachine : a_np mX9_noMachine 1 := by unfold a_np; decide +kernel
theorem npX9_noShop : a_np mX9_noShop 0 := by unfold a_np; decide +kernel
theorem npX9_noTask : a_np mX9_noTask 1 := by unfold a_np; decide +kernel
theorem npX9_of : a_np mX9_of 2 := by unfold a_np; decide +kernel
theorem npX9_order : a_np mX9_order 2 := by unfold a_np; decide +kernel
theorem npX9_pair : a_np mX9_pair 2 := by unfold a_np; decide +kernel
theorem npX9_redo : a_np mX9_redo 0 := by unfold a_np; decide +kernel
theorem npX9_refusedByState : a_np mX9_refusedByState 0 := by unfold a_np; decide +kernel
theorem npX9_settle : a_np mX9_settle 0 := by unfold a_np; decide +kernel
theorem npX9_shop : a_np mX9_shop 0 := by unfold a_np; decide +kernel
theorem npX9_slotOf : a_np mX9_slotOf 1 := by unfold a_np; decide +kernel
theorem npX9_span : a_np mX9_span 0 := by unfold a_np; decide +kernel
theorem npX9_spanBehind : a_np mX9_spanBehind 1 := by unfold a_np; decide +kernel
theorem npX9_spanOrRing : a_np mX9_spanOrRing 0 := by unfold a_np; decide +kernel
theorem npX9_startAnew : a_np mX9_startAnew 0 := by unfold a_np; decide +kernel
theorem npX9_step : a_np mX9_step 1 := by unfold a_np; decide +kernel
theorem npX9_tabu : a_np mX9_tabu 1 := by unfold a_np; decide +kernel
theorem npX9_task : a_np mX9_task 2 := by unfold a_np; decide +kernel
theorem npX9_turn : a_np mX9_turn 2 := by unfold a_np; decide +kernel
theorem npX9_undo : a_np mX9_undo 0 := by unfold a_np; decide +kernel
theorem npX9_way : a_np mX9_way 1 := by unfold a_np; decide +kernel
theorem npX9_would : a_np mX9_would 1 := by unfold a_np; decide +kernel
theorem pn_0 : plainName RX0 = true := by decide +kernel
theorem pn_1 : plainName RX1 = true := by decide +kernel
theorem pn_2 : plainName RX2 = true := by decide +kernel
theorem pn_3 : plainName RX3 = true := by decide +kernel
theorem pn_4 : plainName RX4 = true := by decide +kernel
theorem pn_5 : plainName RX5 = true := by decide +kernel
theorem pn_6 : plainName RX6 = true := by decide +kernel
theorem pn_7 : plainName RX7 = true := by decide +kernel
theorem pn_8 : plainName RX8 = true := by decide +kernel
theorem pn_9 : plainName RX9 = true := by decide +kernel
theorem pn_10 : plainName RX10 = true := by decide +kernel
abbrev isJ (x : Nat) : Prop := x = 6 ∨ x = 14 ∨ x = 77
theorem sh_isJ {x : Nat} (hx : isJ x) : a_T[x]? = some (.inr (5, [none, none, some (x + 1), some (x + 2), some (x + 3), some (x + 4), some (x + 5), some (x + 6), some (x + 7)])) := by rcases hx with rfl | rfl | rfl <;> rfl
theorem ob_isJ {x : Nat} (hx : isJ x) : a_obj x RX5 := ⟨5, _, _, sh_isJ hx, rfl, rfl⟩
theorem sh_isJ_1 {x : Nat} (hx : isJ x) : a_T[x + 1]? = some (.inl (0, 24, 0)) := by rcases hx with rfl | rfl | rfl <;> rfl
theorem sh_isJ_2 {x : Nat} (hx : isJ x) : a_T[x + 2]? = some (.inl (0, 24, 0)) := by rcases hx with rfl | rfl | rfl <;> rfl
theorem sh_isJ_3 {x : Nat} (hx : isJ x) : a_T[x + 3]? = some (.inl (0, 24, 0)) := by rcases hx with rfl | rfl | rfl <;> rfl
theorem sh_isJ_4 {x : Nat} (hx : isJ x) : a_T[x + 4]? = some (.inl (0, 24, 0)) := by rcases hx with rfl | rfl | rfl <;> rfl
theorem sh_isJ_5 {x : Nat} (hx : isJ x) : a_T[x + 5]? = some (.inl (0, 24, 0)) := by rcases hx with rfl | rfl | rfl <;> rfl
theorem sh_isJ_6 {x : Nat} (hx : isJ x) : a_T[x + 6]? = some (.inl (0, 24, 0)) := by rcases hx with rfl | rfl | rfl <;> rfl
theorem sh_isJ_7 {x : Nat} (hx : isJ x) : a_T[x + 7]? = some (.inl (0, 6, 0)) := by rcases hx with rfl | rfl | rfl <;> rfl
abbrev isT (x : Nat) : Prop := x = 22 ∨ x = 31
theorem sh_isT {x : Nat} (hx : isT x) : a_T[x]? = some (.inr (8, [some (x + 1), some (x + 2), some (x + 3), some (x + 4), some (x + 5), some (x + 6), some (x + 7), some (x + 8), none, none, none])) := by rcases hx with rfl | rfl <;> rfl
theorem ob_isT {x : Nat} (hx : isT x) : a_obj x RX8 := ⟨8, _, _, sh_isT hx, rfl, rfl⟩
theorem sh_isT_1 {x : Nat} (hx : isT x) : a_T[x + 1]? = some (.inl (0, 24, 0)) := by rcases hx with rfl | rfl <;> rfl
theorem sh_isT_2 {x : Nat} (hx : isT x) : a_T[x + 2]? = some (.inl (0, 24, 0)) := by rcases hx with rfl | rfl <;> rfl
theorem sh_isT_3 {x : Nat} (hx : isT x) : a_T[x + 3]? = some (.inl (0, 24, 0)) := by rcases hx with rfl | rfl <;> rfl
theorem sh_isT_4 {x : Nat} (hx : isT x) : a_T[x + 4]? = some (.inl (0, 24, 0)) := by rcases hx with rfl | rfl <;> rfl
theorem sh_isT_5 {x : Nat} (hx : isT x) : a_T[x + 5]? = some (.inl (0, 24, 0)) := by rcases hx with rfl | rfl <;> rfl
theorem sh_isT_6 {x : Nat} (hx : isT x) : a_T[x + 6]? = some (.inl (0, 24, 0)) := by rcases hx with rfl | rfl <;> rfl
theorem sh_isT_7 {x : Nat} (hx : isT x) : a_T[x + 7]? = some (.inl (0, 24, 0)) := by rcases hx with rfl | rfl <;> rfl
theorem sh_isT_8 {x : Nat} (hx : isT x) : a_T[x + 8]? = some (.inl (0, 24, 0)) := by rcases hx with rfl | rfl <;> rfl
abbrev isRow (r : Nat) : Prop := r = 1 ∨ r = 76
theorem sh_isRow {r : Nat} (hr : isRow r) : a_T[r]? = some (.inl (0, 24, 0)) := by rcases hr with rfl | rfl <;> rfl
abbrev isHist (r : Nat) : Prop := 48 ≤ r ∧ r ≤ 64
theorem sh_isHist {r : Nat} (hr : isHist r) : a_T[r]? = some (.inl (0, 24, 0)) := by
  have : r = 48 ∨ r = 49 ∨ r = 50 ∨ r = 51 ∨ r = 52 ∨ r = 53 ∨ r = 54 ∨ r = 55 ∨ r = 56 ∨ r = 57 ∨ r = 58 ∨ r = 59 ∨ r = 60 ∨ r = 61 ∨ r = 62 ∨ r = 63 ∨ r = 64 := by omega
  rcases this with rfl | rfl | rfl | rfl | rfl | rfl | rfl | rfl | rfl | rfl | rfl | rfl | rfl | rfl | rfl | rfl | rfl <;> rfl
end
