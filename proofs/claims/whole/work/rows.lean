section
-- ===== PART A: goes FIRST, ahead of the names: the tables' words, and 'selects' of the private methods out of them =====
/-- a private method of a class that the tables say can be made, by its rows of tables_1 -/
def lw_okq (q : MethodName × Nat) : Prop := (q.1.cls ≠ "java/lang/invoke/MethodHandle" ∧ q.1.cls ≠ "java/lang/invoke/VarHandle") ∧ Cond.instantiable q.1.cls q.2 ∈ tables_1 ∧ Cond.privateMethod q.1 ∈ tables_1 ∧ Cond.instanceMethod q.1 ∈ tables_1
theorem lw_p0 : lw_okq (⟨"PlainWarehouse", "replay", "(I)V"⟩, 6) := ⟨⟨by decide +kernel, by decide +kernel⟩, List.mem_of_getElem? (i := 18) (by decide +kernel), List.mem_of_getElem? (i := 121) (by decide +kernel), List.mem_of_getElem? (i := 122) (by decide +kernel)⟩
theorem lw_p1 : lw_okq (⟨"PlainWarehouse$House", "empty", "()V"⟩, 8) := ⟨⟨by decide +kernel, by decide +kernel⟩, List.mem_of_getElem? (i := 26) (by decide +kernel), List.mem_of_getElem? (i := 125) (by decide +kernel), List.mem_of_getElem? (i := 126) (by decide +kernel)⟩
theorem lw_p2 : lw_okq (⟨"PlainWarehouse", "takeKept", "(I)Z"⟩, 6) := ⟨⟨by decide +kernel, by decide +kernel⟩, List.mem_of_getElem? (i := 18) (by decide +kernel), List.mem_of_getElem? (i := 132) (by decide +kernel), List.mem_of_getElem? (i := 133) (by decide +kernel)⟩
theorem lw_p3 : lw_okq (⟨"PlainWarehouse$House", "take", "(IIII)Z"⟩, 8) := ⟨⟨by decide +kernel, by decide +kernel⟩, List.mem_of_getElem? (i := 26) (by decide +kernel), List.mem_of_getElem? (i := 136) (by decide +kernel), List.mem_of_getElem? (i := 137) (by decide +kernel)⟩
theorem lw_p4 : lw_okq (⟨"PlainWarehouse$House", "isPossible", "(III)Z"⟩, 8) := ⟨⟨by decide +kernel, by decide +kernel⟩, List.mem_of_getElem? (i := 26) (by decide +kernel), List.mem_of_getElem? (i := 140) (by decide +kernel), List.mem_of_getElem? (i := 141) (by decide +kernel)⟩
theorem lw_p5 : lw_okq (⟨"PlainWarehouse$House", "isInside", "(I)Z"⟩, 8) := ⟨⟨by decide +kernel, by decide +kernel⟩, List.mem_of_getElem? (i := 26) (by decide +kernel), List.mem_of_getElem? (i := 144) (by decide +kernel), List.mem_of_getElem? (i := 145) (by decide +kernel)⟩
theorem lw_p6 : lw_okq (⟨"PlainWarehouse$House", "isOpen", "(I)Z"⟩, 8) := ⟨⟨by decide +kernel, by decide +kernel⟩, List.mem_of_getElem? (i := 26) (by decide +kernel), List.mem_of_getElem? (i := 148) (by decide +kernel), List.mem_of_getElem? (i := 149) (by decide +kernel)⟩
theorem lw_p7 : lw_okq (⟨"PlainWarehouse$House", "isTold", "(I)Z"⟩, 8) := ⟨⟨by decide +kernel, by decide +kernel⟩, List.mem_of_getElem? (i := 26) (by decide +kernel), List.mem_of_getElem? (i := 152) (by decide +kernel), List.mem_of_getElem? (i := 153) (by decide +kernel)⟩
theorem lw_p8 : lw_okq (⟨"PlainWarehouse$House", "isFree", "(I)Z"⟩, 8) := ⟨⟨by decide +kernel, by decide +kernel⟩, List.mem_of_getElem? (i := 26) (by decide +kernel), List.mem_of_getElem? (i := 156) (by decide +kernel), List.mem_of_getElem? (i := 157) (by decide +kernel)⟩
theorem lw_p9 : lw_okq (⟨"PlainWarehouse$House", "happen", "(IIII)V"⟩, 8) := ⟨⟨by decide +kernel, by decide +kernel⟩, List.mem_of_getElem? (i := 26) (by decide +kernel), List.mem_of_getElem? (i := 160) (by decide +kernel), List.mem_of_getElem? (i := 161) (by decide +kernel)⟩
theorem lw_p10 : lw_okq (⟨"PlainWarehouse$House", "come", "(III)V"⟩, 8) := ⟨⟨by decide +kernel, by decide +kernel⟩, List.mem_of_getElem? (i := 26) (by decide +kernel), List.mem_of_getElem? (i := 164) (by decide +kernel), List.mem_of_getElem? (i := 165) (by decide +kernel)⟩
theorem lw_p11 : lw_okq (⟨"PlainWarehouse$House", "leave", "(I)V"⟩, 8) := ⟨⟨by decide +kernel, by decide +kernel⟩, List.mem_of_getElem? (i := 26) (by decide +kernel), List.mem_of_getElem? (i := 168) (by decide +kernel), List.mem_of_getElem? (i := 169) (by decide +kernel)⟩
theorem lw_p12 : lw_okq (⟨"PlainWarehouse$House", "unitsAt", "(II)I"⟩, 8) := ⟨⟨by decide +kernel, by decide +kernel⟩, List.mem_of_getElem? (i := 26) (by decide +kernel), List.mem_of_getElem? (i := 175) (by decide +kernel), List.mem_of_getElem? (i := 176) (by decide +kernel)⟩
theorem lw_p13 : lw_okq (⟨"PlainWarehouse$House", "toldOrders", "()I"⟩, 8) := ⟨⟨by decide +kernel, by decide +kernel⟩, List.mem_of_getElem? (i := 26) (by decide +kernel), List.mem_of_getElem? (i := 182) (by decide +kernel), List.mem_of_getElem? (i := 183) (by decide +kernel)⟩
theorem lw_p14 : lw_okq (⟨"PlainWarehouse$House", "fullOrders", "()I"⟩, 8) := ⟨⟨by decide +kernel, by decide +kernel⟩, List.mem_of_getElem? (i := 26) (by decide +kernel), List.mem_of_getElem? (i := 186) (by decide +kernel), List.mem_of_getElem? (i := 187) (by decide +kernel)⟩
theorem lw_p15 : lw_okq (⟨"PlainWarehouse$House", "isFull", "(I)Z"⟩, 8) := ⟨⟨by decide +kernel, by decide +kernel⟩, List.mem_of_getElem? (i := 26) (by decide +kernel), List.mem_of_getElem? (i := 190) (by decide +kernel), List.mem_of_getElem? (i := 191) (by decide +kernel)⟩
def lw_privs_1 : List (MethodName × Nat) := [(⟨"PlainWarehouse", "replay", "(I)V"⟩, 6), (⟨"PlainWarehouse$House", "empty", "()V"⟩, 8), (⟨"PlainWarehouse", "takeKept", "(I)Z"⟩, 6), (⟨"PlainWarehouse$House", "take", "(IIII)Z"⟩, 8), (⟨"PlainWarehouse$House", "isPossible", "(III)Z"⟩, 8), (⟨"PlainWarehouse$House", "isInside", "(I)Z"⟩, 8), (⟨"PlainWarehouse$House", "isOpen", "(I)Z"⟩, 8), (⟨"PlainWarehouse$House", "isTold", "(I)Z"⟩, 8), (⟨"PlainWarehouse$House", "isFree", "(I)Z"⟩, 8), (⟨"PlainWarehouse$House", "happen", "(IIII)V"⟩, 8), (⟨"PlainWarehouse$House", "come", "(III)V"⟩, 8), (⟨"PlainWarehouse$House", "leave", "(I)V"⟩, 8), (⟨"PlainWarehouse$House", "unitsAt", "(II)I"⟩, 8), (⟨"PlainWarehouse$House", "toldOrders", "()I"⟩, 8), (⟨"PlainWarehouse$House", "fullOrders", "()I"⟩, 8), (⟨"PlainWarehouse$House", "isFull", "(I)Z"⟩, 8)]
theorem lw_r1 : ∀ q ∈ lw_privs_1, lw_okq q := List.forall_mem_cons.mpr ⟨lw_p0, List.forall_mem_cons.mpr ⟨lw_p1, List.forall_mem_cons.mpr ⟨lw_p2, List.forall_mem_cons.mpr ⟨lw_p3, List.forall_mem_cons.mpr ⟨lw_p4, List.forall_mem_cons.mpr ⟨lw_p5, List.forall_mem_cons.mpr ⟨lw_p6, List.forall_mem_cons.mpr ⟨lw_p7, List.forall_mem_cons.mpr ⟨lw_p8, List.forall_mem_cons.mpr ⟨lw_p9, List.forall_mem_cons.mpr ⟨lw_p10, List.forall_mem_cons.mpr ⟨lw_p11, List.forall_mem_cons.mpr ⟨lw_p12, List.forall_mem_cons.mpr ⟨lw_p13, List.forall_mem_cons.mpr ⟨lw_p14, List.forall_mem_cons.mpr ⟨lw_p15, fun _ h => absurd h List.not_mem_nil⟩⟩⟩⟩⟩⟩⟩⟩⟩⟩⟩⟩⟩⟩⟩⟩
theorem lw_p16 : lw_okq (⟨"PlainWarehouse$House", "linkedPairs", "()I"⟩, 8) := ⟨⟨by decide +kernel, by decide +kernel⟩, List.mem_of_getElem? (i := 26) (by decide +kernel), List.mem_of_getElem? (i := 194) (by decide +kernel), List.mem_of_getElem? (i := 195) (by decide +kernel)⟩
theorem lw_p17 : lw_okq (⟨"java/lang/Throwable", "fillInStackTrace", "(I)Ljava/lang/Throwable;"⟩, 6) := ⟨⟨by decide +kernel, by decide +kernel⟩, List.mem_of_getElem? (i := 267) (by decide +kernel), List.mem_of_getElem? (i := 265) (by decide +kernel), List.mem_of_getElem? (i := 266) (by decide +kernel)⟩
theorem lw_p18 : lw_okq (⟨"PlainWarehouse", "keep", "(IIII)V"⟩, 6) := ⟨⟨by decide +kernel, by decide +kernel⟩, List.mem_of_getElem? (i := 18) (by decide +kernel), List.mem_of_getElem? (i := 313) (by decide +kernel), List.mem_of_getElem? (i := 314) (by decide +kernel)⟩
theorem lw_p19 : lw_okq (⟨"PlainWarehouse", "hasSoMany", "(I)Z"⟩, 6) := ⟨⟨by decide +kernel, by decide +kernel⟩, List.mem_of_getElem? (i := 18) (by decide +kernel), List.mem_of_getElem? (i := 334) (by decide +kernel), List.mem_of_getElem? (i := 335) (by decide +kernel)⟩
theorem lw_p20 : lw_okq (⟨"PlainWarehouse$House", "freeUnits", "(I)I"⟩, 8) := ⟨⟨by decide +kernel, by decide +kernel⟩, List.mem_of_getElem? (i := 26) (by decide +kernel), List.mem_of_getElem? (i := 365) (by decide +kernel), List.mem_of_getElem? (i := 366) (by decide +kernel)⟩
theorem lw_p21 : lw_okq (⟨"PlainWarehouse", "areAllTold", "(I)Z"⟩, 6) := ⟨⟨by decide +kernel, by decide +kernel⟩, List.mem_of_getElem? (i := 18) (by decide +kernel), List.mem_of_getElem? (i := 377) (by decide +kernel), List.mem_of_getElem? (i := 378) (by decide +kernel)⟩
theorem lw_p22 : lw_okq (⟨"PlainWarehouse$Fillings", "most", "(LPlainWarehouse$House;I)I"⟩, 5) := ⟨⟨by decide +kernel, by decide +kernel⟩, List.mem_of_getElem? (i := 66) (by decide +kernel), List.mem_of_getElem? (i := 391) (by decide +kernel), List.mem_of_getElem? (i := 392) (by decide +kernel)⟩
theorem lw_p23 : lw_okq (⟨"PlainWarehouse$Fillings", "countFree", "(LPlainWarehouse$House;)V"⟩, 5) := ⟨⟨by decide +kernel, by decide +kernel⟩, List.mem_of_getElem? (i := 66) (by decide +kernel), List.mem_of_getElem? (i := 395) (by decide +kernel), List.mem_of_getElem? (i := 396) (by decide +kernel)⟩
theorem lw_p24 : lw_okq (⟨"PlainWarehouse$Fillings", "chooseOpen", "(LPlainWarehouse$House;I)V"⟩, 5) := ⟨⟨by decide +kernel, by decide +kernel⟩, List.mem_of_getElem? (i := 66) (by decide +kernel), List.mem_of_getElem? (i := 400) (by decide +kernel), List.mem_of_getElem? (i := 401) (by decide +kernel)⟩
theorem lw_p25 : lw_okq (⟨"PlainWarehouse$Fillings", "isEnoughFor", "(I)Z"⟩, 5) := ⟨⟨by decide +kernel, by decide +kernel⟩, List.mem_of_getElem? (i := 66) (by decide +kernel), List.mem_of_getElem? (i := 407) (by decide +kernel), List.mem_of_getElem? (i := 408) (by decide +kernel)⟩
theorem lw_p26 : lw_okq (⟨"PlainWarehouse$Ways", "measure", "(LPlainWarehouse$House;)V"⟩, 1) := ⟨⟨by decide +kernel, by decide +kernel⟩, List.mem_of_getElem? (i := 88) (by decide +kernel), List.mem_of_getElem? (i := 421) (by decide +kernel), List.mem_of_getElem? (i := 422) (by decide +kernel)⟩
theorem lw_p27 : lw_okq (⟨"PlainWarehouse$Ways", "layLinks", "(LPlainWarehouse$House;)V"⟩, 1) := ⟨⟨by decide +kernel, by decide +kernel⟩, List.mem_of_getElem? (i := 88) (by decide +kernel), List.mem_of_getElem? (i := 425) (by decide +kernel), List.mem_of_getElem? (i := 426) (by decide +kernel)⟩
theorem lw_p28 : lw_okq (⟨"PlainWarehouse$Ways", "shortenVia", "(II)V"⟩, 1) := ⟨⟨by decide +kernel, by decide +kernel⟩, List.mem_of_getElem? (i := 88) (by decide +kernel), List.mem_of_getElem? (i := 431) (by decide +kernel), List.mem_of_getElem? (i := 432) (by decide +kernel)⟩
theorem lw_p29 : lw_okq (⟨"PlainWarehouse$Ways", "between", "(II)I"⟩, 1) := ⟨⟨by decide +kernel, by decide +kernel⟩, List.mem_of_getElem? (i := 88) (by decide +kernel), List.mem_of_getElem? (i := 438) (by decide +kernel), List.mem_of_getElem? (i := 439) (by decide +kernel)⟩
theorem lw_p30 : lw_okq (⟨"PlainWarehouse$House", "placesOfUnitsGivenTo", "(I)I"⟩, 8) := ⟨⟨by decide +kernel, by decide +kernel⟩, List.mem_of_getElem? (i := 26) (by decide +kernel), List.mem_of_getElem? (i := 453) (by decide +kernel), List.mem_of_getElem? (i := 454) (by decide +kernel)⟩
theorem lw_p31 : lw_okq (⟨"PlainWarehouse$Ways", "fewestThrough", "(II)I"⟩, 1) := ⟨⟨by decide +kernel, by decide +kernel⟩, List.mem_of_getElem? (i := 88) (by decide +kernel), List.mem_of_getElem? (i := 457) (by decide +kernel), List.mem_of_getElem? (i := 458) (by decide +kernel)⟩
def lw_privs_2 : List (MethodName × Nat) := [(⟨"PlainWarehouse$House", "linkedPairs", "()I"⟩, 8), (⟨"java/lang/Throwable", "fillInStackTrace", "(I)Ljava/lang/Throwable;"⟩, 6), (⟨"PlainWarehouse", "keep", "(IIII)V"⟩, 6), (⟨"PlainWarehouse", "hasSoMany", "(I)Z"⟩, 6), (⟨"PlainWarehouse$House", "freeUnits", "(I)I"⟩, 8), (⟨"PlainWarehouse", "areAllTold", "(I)Z"⟩, 6), (⟨"PlainWarehouse$Fillings", "most", "(LPlainWarehouse$House;I)I"⟩, 5), (⟨"PlainWarehouse$Fillings", "countFree", "(LPlainWarehouse$House;)V"⟩, 5), (⟨"PlainWarehouse$Fillings", "chooseOpen", "(LPlainWarehouse$House;I)V"⟩, 5), (⟨"PlainWarehouse$Fillings", "isEnoughFor", "(I)Z"⟩, 5), (⟨"PlainWarehouse$Ways", "measure", "(LPlainWarehouse$House;)V"⟩, 1), (⟨"PlainWarehouse$Ways", "layLinks", "(LPlainWarehouse$House;)V"⟩, 1), (⟨"PlainWarehouse$Ways", "shortenVia", "(II)V"⟩, 1), (⟨"PlainWarehouse$Ways", "between", "(II)I"⟩, 1), (⟨"PlainWarehouse$House", "placesOfUnitsGivenTo", "(I)I"⟩, 8), (⟨"PlainWarehouse$Ways", "fewestThrough", "(II)I"⟩, 1)]
theorem lw_r2 : ∀ q ∈ lw_privs_2, lw_okq q := List.forall_mem_cons.mpr ⟨lw_p16, List.forall_mem_cons.mpr ⟨lw_p17, List.forall_mem_cons.mpr ⟨lw_p18, List.forall_mem_cons.mpr ⟨lw_p19, List.forall_mem_cons.mpr ⟨lw_p20, List.forall_mem_cons.mpr ⟨lw_p21, List.forall_mem_cons.mpr ⟨lw_p22, List.forall_mem_cons.mpr ⟨lw_p23, List.forall_mem_cons.mpr ⟨lw_p24, List.forall_mem_cons.mpr ⟨lw_p25, List.forall_mem_cons.mpr ⟨lw_p26, List.forall_mem_cons.mpr ⟨lw_p27, List.forall_mem_cons.mpr ⟨lw_p28, List.forall_mem_cons.mpr ⟨lw_p29, List.forall_mem_cons.mpr ⟨lw_p30, List.forall_mem_cons.mpr ⟨lw_p31, fun _ h => absurd h List.not_mem_nil⟩⟩⟩⟩⟩⟩⟩⟩⟩⟩⟩⟩⟩⟩⟩⟩
theorem lw_p32 : lw_okq (⟨"PlainWarehouse", "isEvent", "(I)Z"⟩, 6) := ⟨⟨by decide +kernel, by decide +kernel⟩, List.mem_of_getElem? (i := 18) (by decide +kernel), List.mem_of_getElem? (i := 480) (by decide +kernel), List.mem_of_getElem? (i := 481) (by decide +kernel)⟩
theorem lw_p33 : lw_okq (⟨"PlainWarehouseModel", "can", "(IIII)Z"⟩, 18) := ⟨⟨by decide +kernel, by decide +kernel⟩, List.mem_of_getElem? (i := 524) (by decide +kernel), List.mem_of_getElem? (i := 605) (by decide +kernel), List.mem_of_getElem? (i := 606) (by decide +kernel)⟩
theorem lw_p34 : lw_okq (⟨"PlainWarehouseModel", "mayGo", "(II)Z"⟩, 18) := ⟨⟨by decide +kernel, by decide +kernel⟩, List.mem_of_getElem? (i := 524) (by decide +kernel), List.mem_of_getElem? (i := 609) (by decide +kernel), List.mem_of_getElem? (i := 610) (by decide +kernel)⟩
theorem lw_p35 : lw_okq (⟨"PlainWarehouseModel", "isOpen", "(II)Z"⟩, 18) := ⟨⟨by decide +kernel, by decide +kernel⟩, List.mem_of_getElem? (i := 524) (by decide +kernel), List.mem_of_getElem? (i := 613) (by decide +kernel), List.mem_of_getElem? (i := 614) (by decide +kernel)⟩
theorem lw_p36 : lw_okq (⟨"PlainWarehouseModel", "mayGive", "(III)Z"⟩, 18) := ⟨⟨by decide +kernel, by decide +kernel⟩, List.mem_of_getElem? (i := 524) (by decide +kernel), List.mem_of_getElem? (i := 617) (by decide +kernel), List.mem_of_getElem? (i := 618) (by decide +kernel)⟩
theorem lw_p37 : lw_okq (⟨"PlainWarehouseModel", "copy", "(II)V"⟩, 18) := ⟨⟨by decide +kernel, by decide +kernel⟩, List.mem_of_getElem? (i := 524) (by decide +kernel), List.mem_of_getElem? (i := 621) (by decide +kernel), List.mem_of_getElem? (i := 622) (by decide +kernel)⟩
theorem lw_p38 : lw_okq (⟨"PlainWarehouseModel", "apply", "(IIIII)V"⟩, 18) := ⟨⟨by decide +kernel, by decide +kernel⟩, List.mem_of_getElem? (i := 524) (by decide +kernel), List.mem_of_getElem? (i := 625) (by decide +kernel), List.mem_of_getElem? (i := 626) (by decide +kernel)⟩
theorem lw_p39 : lw_okq (⟨"PlainWarehouseModel", "isOrder", "(I)Z"⟩, 18) := ⟨⟨by decide +kernel, by decide +kernel⟩, List.mem_of_getElem? (i := 524) (by decide +kernel), List.mem_of_getElem? (i := 649) (by decide +kernel), List.mem_of_getElem? (i := 650) (by decide +kernel)⟩
theorem lw_p40 : lw_okq (⟨"PlainWarehouseModel", "freeOf", "(I)I"⟩, 18) := ⟨⟨by decide +kernel, by decide +kernel⟩, List.mem_of_getElem? (i := 524) (by decide +kernel), List.mem_of_getElem? (i := 653) (by decide +kernel), List.mem_of_getElem? (i := 654) (by decide +kernel)⟩
theorem lw_p41 : lw_okq (⟨"PlainWarehouseModel", "filled", "(II)I"⟩, 18) := ⟨⟨by decide +kernel, by decide +kernel⟩, List.mem_of_getElem? (i := 524) (by decide +kernel), List.mem_of_getElem? (i := 661) (by decide +kernel), List.mem_of_getElem? (i := 662) (by decide +kernel)⟩
theorem lw_p42 : lw_okq (⟨"PlainWarehouseModel", "reach", "()V"⟩, 18) := ⟨⟨by decide +kernel, by decide +kernel⟩, List.mem_of_getElem? (i := 524) (by decide +kernel), List.mem_of_getElem? (i := 669) (by decide +kernel), List.mem_of_getElem? (i := 670) (by decide +kernel)⟩
theorem lw_p43 : lw_okq (⟨"PlainWarehouseModel", "places", "(I)I"⟩, 18) := ⟨⟨by decide +kernel, by decide +kernel⟩, List.mem_of_getElem? (i := 524) (by decide +kernel), List.mem_of_getElem? (i := 678) (by decide +kernel), List.mem_of_getElem? (i := 679) (by decide +kernel)⟩
theorem lw_p44 : lw_okq (⟨"PlainWarehouseModel", "isEvent", "(I)Z"⟩, 18) := ⟨⟨by decide +kernel, by decide +kernel⟩, List.mem_of_getElem? (i := 524) (by decide +kernel), List.mem_of_getElem? (i := 686) (by decide +kernel), List.mem_of_getElem? (i := 687) (by decide +kernel)⟩
theorem lw_p45 : lw_okq (⟨"PlainWarehouseModel", "without", "(IZ)I"⟩, 18) := ⟨⟨by decide +kernel, by decide +kernel⟩, List.mem_of_getElem? (i := 524) (by decide +kernel), List.mem_of_getElem? (i := 690) (by decide +kernel), List.mem_of_getElem? (i := 691) (by decide +kernel)⟩
def lw_privs_3 : List (MethodName × Nat) := [(⟨"PlainWarehouse", "isEvent", "(I)Z"⟩, 6), (⟨"PlainWarehouseModel", "can", "(IIII)Z"⟩, 18), (⟨"PlainWarehouseModel", "mayGo", "(II)Z"⟩, 18), (⟨"PlainWarehouseModel", "isOpen", "(II)Z"⟩, 18), (⟨"PlainWarehouseModel", "mayGive", "(III)Z"⟩, 18), (⟨"PlainWarehouseModel", "copy", "(II)V"⟩, 18), (⟨"PlainWarehouseModel", "apply", "(IIIII)V"⟩, 18), (⟨"PlainWarehouseModel", "isOrder", "(I)Z"⟩, 18), (⟨"PlainWarehouseModel", "freeOf", "(I)I"⟩, 18), (⟨"PlainWarehouseModel", "filled", "(II)I"⟩, 18), (⟨"PlainWarehouseModel", "reach", "()V"⟩, 18), (⟨"PlainWarehouseModel", "places", "(I)I"⟩, 18), (⟨"PlainWarehouseModel", "isEvent", "(I)Z"⟩, 18), (⟨"PlainWarehouseModel", "without", "(IZ)I"⟩, 18)]
theorem lw_r3 : ∀ q ∈ lw_privs_3, lw_okq q := List.forall_mem_cons.mpr ⟨lw_p32, List.forall_mem_cons.mpr ⟨lw_p33, List.forall_mem_cons.mpr ⟨lw_p34, List.forall_mem_cons.mpr ⟨lw_p35, List.forall_mem_cons.mpr ⟨lw_p36, List.forall_mem_cons.mpr ⟨lw_p37, List.forall_mem_cons.mpr ⟨lw_p38, List.forall_mem_cons.mpr ⟨lw_p39, List.forall_mem_cons.mpr ⟨lw_p40, List.forall_mem_cons.mpr ⟨lw_p41, List.forall_mem_cons.mpr ⟨lw_p42, List.forall_mem_cons.mpr ⟨lw_p43, List.forall_mem_cons.mpr ⟨lw_p44, List.forall_mem_cons.mpr ⟨lw_p45, fun _ h => absurd h List.not_mem_nil⟩⟩⟩⟩⟩⟩⟩⟩⟩⟩⟩⟩⟩⟩
def lw_privs : List (MethodName × Nat) := lw_privs_1 ++ (lw_privs_2 ++ (lw_privs_3))
def lw_tbl : List Cond := k2_sels lw_privs ++ tables_1
theorem lw_privs_ok : ∀ q ∈ lw_privs, lw_okq q := by
  show ∀ q ∈ lw_privs_1 ++ (lw_privs_2 ++ (lw_privs_3)), lw_okq q
  exact List.forall_mem_append.mpr ⟨lw_r1, List.forall_mem_append.mpr ⟨lw_r2, lw_r3⟩⟩
end
section
/-! ===== BEGIN words of one list among another's, by their places ===== -/
theorem goodIn_r {big : List Cond} (ws : List Cond) (ps : List Nat) (hp : ws = ps.filterMap (fun i => big[i]?)) (h : ws.all goodWord = true) : GoodIn big ws := by
  intro w hw
  have h1 := List.all_eq_true.mp h w hw
  rw [hp] at hw
  obtain ⟨i, -, hi⟩ := List.mem_filterMap.mp hw
  have hm : w ∈ big := by first | exact List.mem_of_getElem? hi | exact List.getElem?_mem hi
  exact ⟨hm, good_of_word h1⟩
theorem goodIn_app {big a b : List Cond} (ha : GoodIn big a) (hb : GoodIn big b) : GoodIn big (a ++ b) := fun w h => (List.mem_append.mp h).elim (ha w) (hb w)
theorem goodIn_ca {big a b : List Cond} {c : Cond} (ha : GoodIn big (c :: a)) (hb : GoodIn big b) : GoodIn big (c :: (a ++ b)) := fun w h => (List.mem_cons.mp h).elim (fun e => ha w (List.mem_cons.mpr (Or.inl e))) (fun h => (List.mem_append.mp h).elim (fun h => ha w (List.mem_cons.mpr (Or.inr h))) (hb w))
theorem goodIn_sub {big ws : List Cond} (hm : ∀ w ∈ ws, w ∈ big) (h : ws.all goodWord = true) : GoodIn big ws := fun w hw => ⟨hm w hw, good_of_word (List.all_eq_true.mp h w hw)⟩
/-! ===== END ===== -/

/-! ===== BEGIN exceptions that leave a method, and their catching by the caller (launches without stack traces) ===== -/
section VXA
/-! The laws vx_back, vx_callV, vx_callS, vx_callSW, vx_throw0, vx_throwS follow proofs of the library, with one case more: JvmDerived/Free/Laws.lean (Back.of_free), Shelf42/LK1.lean (callV, callS), Shelf/KitTraced.lean (throwNew0V, throwNewS). -/
/-- where a method has thrown q: the class by its name, the cell, what was written, the world -/
def vx_T (XC : String → State → State → Prop) (st : State) (q : Addr) (t : State) (mc ms : Nat) (free : Addr → Prop) : Prop :=
  ∃ (E : String) (ce : Cell) (L : List Loc), XC E st t ∧ t.heap[q]? = some ce ∧ ce.vm = .none ∧ st.vm.findClass E = some ce.cls ∧ st.WarmedH t.vm ∧ st.sameButNew ({ t with vm := st.vm } : State) L mc ms ∧ ∀ z ∈ L, free z.base
def vx_Q (Qc : Array Value → State → Outcome → State → Prop) (XC : String → State → State → Prop) (mc ms : Nat) (free : Addr → Prop) : Array Value → State → Outcome → State → Prop := fun a st o t =>
  (Qc a st o t ∧ ∃ L, FrameEnd st o t L mc ms ∧ ∀ q ∈ L, free q.base) ∨ ∃ q, o = .threw q ∧ vx_T XC st q t mc ms free
/-- a callee that returns or throws -/
def vx_Met (l : Launch) (y : MethodName) (ws : List Cond) (rm : Room) (Pc : Array Value → State → Prop) (Qc : Array Value → State → Outcome → State → Prop) (XC : String → State → State → Prop) (mc ms : Nat) (free : Addr → Prop) : Prop :=
  MetFree l y (headSpec ws rm) Pc (fun _ _ _ _ _ => True) (vx_Q Qc XC mc ms free)
def vx_Post (XC : String → State → State → Prop) (mc ms : Nat) (free : Addr → Prop) : Pt → Array Value → Addr → Pt → Prop := fun A a q B =>
  ∃ (g : JFrame) (mk : MethodId) (t : State) (L : List Loc) (E : String) (ce : Cell), B.U.heap = t.heap ∧ B.U.vm = t.vm ∧ XC E (A.U.calling g mk a) t ∧ t.heap[q]? = some ce ∧ ce.vm = .none ∧ A.U.vm.findClass E = some ce.cls ∧ B.locs = A.locs ++ L ∧ (∀ z ∈ L, free z.base) ∧ B.cells = A.cells + mc ∧ B.slots = A.slots + ms
def vx_Back (l : Launch) (R : Room) (p : Program) (e : Env) (below : List Frame) (s : State) (sargs : Array Value) (y : MethodName) (len W9 : Nat)
    (Pre : Pt → Array Value → Prop) (Post : Pt → Array Value → Option Value → Pt → Prop) (PostX : Pt → Array Value → Addr → Pt → Prop) : Prop :=
  ∀ (m : MethodId) (meth : Method) (c : Code) (A : Pt) (g : JFrame) (ig : Instr) (mk : MethodId) (a : Array Value),
    Stand p l e R s m sargs below meth c A.U A.locs A.cells A.slots → g.method = m → g.locals.size = c.maxLocals → decode c.code g.pc = .ok (ig, len) →
    2 * g.monitorRoom + (g.stack.map fun v => v.category).sum ≤ W9 → A.U.methodNamed? y = some mk → Pre A a →
    (∃ (v : Option Value) (B : Pt), Stand p l e R s m sargs below meth c B.U B.locs B.cells B.slots ∧ Post A a v B ∧
      Steps p.tables e below (doInvoke e (A.U.setTop g) [] mk a).1 (B.U.setTop { g with pc := g.pc + len, stack := v.toList ++ g.stack })) ∨
    (∃ (q : Addr) (B : Pt), Stand p l e R s m sargs below meth c B.U B.locs B.cells B.slots ∧ PostX A a q B ∧
      Steps p.tables e below (doInvoke e (A.U.setTop g) [] mk a).1 ((B.U.setTop g).pushFrame (.throwing q)))
section Payer
variable {l : Launch} {R : Room} {p : Program} {e : Env} {below : List Frame} {s : State} {sargs : Array Value} {y : MethodName} {len W9 : Nat}
theorem vx_back {ws : List Cond} {rm : Room} {Pc : Array Value → State → Prop} {Qc : Array Value → State → Outcome → State → Prop} {XC : String → State → State → Prop} {mc ms : Nat} {free : Addr → Prop} {bytes : ByteArray} {maxL : Nat} {ret : Option FieldType}
    (hM : vx_Met l y ws rm Pc Qc XC mc ms free) (hblind : FrameBlind Pc) (hrc : rm.cells = mc) (hrs : rm.slots = ms)
    (hframes : rm.frames + 1 ≤ R.frames) (hlocals : W9 + (maxL + 11) + rm.locals ≤ R.locals)
    (hws : ∀ w ∈ ws, ∀ a' U, s.WarmedH U.vm → w.before a' U = true) (hcode : Cond.code y bytes maxL ret ∈ ws) (hinit : ∀ a' U, s.WarmedH U.vm → (Cond.initialized y.cls).before a' U = true) :
    vx_Back l R p e below s sargs y len W9 (PreOf R mc ms Pc) (PostOf Qc mc ms free) (vx_Post XC mc ms free) := by
  intro m meth c A g ig mk a X hg hsize hdg hW hn hp
  have h1 : (headSpec ws rm).pre.before a A.U = true := atoms_intro fun w hw => hws w hw _ _ X.warmed
  have h2 : (Cond.code y bytes maxL ret).before a A.U = true := hws _ hcode _ _ X.warmed
  have h3 : (Cond.initialized y.cls).before a A.U = true := hinit _ _ X.warmed
  have h4 : A.cells + (headSpec ws rm).room.cells ≤ R.cells := by rw [show (headSpec ws rm).room.cells = mc from hrc]; exact hp.1
  have h5 : A.slots + (headSpec ws rm).room.slots ≤ R.slots := by rw [show (headSpec ws rm).room.slots = ms from hrs]; exact hp.2.1
  have hPc : Pc a (A.U.calling g mk a) := hblind _ _ _ _ hp.2.2
  obtain ⟨U, Ls, c0, s0⟩ := A
  dsimp only [Pt.U, Pt.locs, Pt.cells, Pt.slots] at h1 h2 h3 h4 h5 X hn hPc ⊢
  obtain ⟨methY, cY, hmY, hcY, -, hlY, -, -, -, -⟩ := Cond.code_spec hn h2
  obtain ⟨kY, hkY, -⟩ := className_of_methodNamed hn
  have hinitY : kY.init = .initialized := Cond.initialized_spec (findClass_of_methodNamed hn) hkY h3
  have h : At U g.method c below := by rw [hg]; exact X.here
  have hlocals9 : W9 + (maxL + 11) + (headSpec ws rm).room.locals ≤ R.locals := hlocals
  have happ : (headSpec ws rm).appliesLoose y e.platform (U.calling g mk a) = true :=
    Spec.appliesLoose_calling (g := g) h hdg hn hkY hinitY
      (X.room_calling (g := g) (R' := (headSpec ws rm).room) hsize hmY hcY hframes (by rw [hlY]; omega) h4 h5) h1
  obtain ⟨mid, hmid⟩ := h.above
  have hfr : (U.setTop g).frames = (.java g :: mid) ++ below := by rw [State.frames_setTop' g h.top, hmid]; rfl
  obtain ⟨o, s₂, hsteps, -, hend, hq⟩ := Steps.callFree hM p X.admits X.cas X.clock (acts := []) hfr happ hPc trivial
  have hq' : vx_Q Qc XC mc ms free a (U.calling g mk a) o s₂ := hq
  rw [State.frames_setTop' g h.top] at hend
  obtain ⟨g₀, hg0⟩ := Option.isSome_iff_exists.mp h.top
  obtain ⟨r, hr⟩ := State.topJava?_eq_some.mp hg0
  have hr' : (({ U with heap := s₂.heap, slotsUsed := s₂.slotsUsed } : State).setVm s₂.vm).frames = .java g₀ :: r := hr
  rcases hq' with ⟨hqc, L, hfe, hL⟩ | ⟨q, rfl, E, ce, L, hx, hce, hcv, hcl, hW₂, hsm, hL⟩
  · obtain ⟨⟨v, rfl⟩, hW₂, e2, q2, q3, q4, q5, q6⟩ := id hfe
    have e3 : s₂ = ({ (U.calling g mk a).setFrames s₂.frames with heap := s₂.heap, slotsUsed := s₂.slotsUsed } : State).setVm s₂.vm := by
      have : s₂ = ({ s₂ with vm := (U.calling g mk a).vm } : State).setVm s₂.vm := rfl
      rw [e2] at this
      exact this
    obtain ⟨c₂, i₂, len₂, hc₂, hd₂, hf₂⟩ := hend
    have hW' : U.WarmedH s₂.vm := hW₂
    have hcc : c₂ = c := by
      have h1 : s₂.code? g.method = U.code? g.method := by
        rw [State.code?_eq, State.code?_eq, hW'.alike.method?]
      exact Option.some.inj (hc₂.symm.trans (h1.trans h.code))
    subst hcc
    have hlen : len₂ = len := by rw [hdg] at hd₂; cases hd₂; rfl
    subst hlen
    have hs₂ : s₂ = (({ U with heap := s₂.heap, slotsUsed := s₂.slotsUsed } : State).setVm s₂.vm).setTop { g with pc := g.pc + len₂, stack := v.toList ++ g.stack } := by
      refine e3.trans ?_
      rw [hf₂, State.calling_eq h.top, State.setFrames_setFrames, State.setTop_of_frames _ hr', hr]
      rfl
    have hsame : U.sameButNew ({ U with heap := s₂.heap, slotsUsed := s₂.slotsUsed } : State) L mc ms := by
      refine ⟨?_, q2, q3, q4, q5, q6⟩
      obtain ⟨t, ht, -⟩ := State.frames_cons hr
      show ({ U with heap := s₂.heap, slotsUsed := s₂.slotsUsed } : State) = { U.setFrames U.frames with heap := s₂.heap, slotsUsed := s₂.slotsUsed }
      rw [State.setFrames_self ht]
    subst hg
    refine Or.inl ⟨v, ⟨(({ U with heap := s₂.heap, slotsUsed := s₂.slotsUsed } : State).setVm s₂.vm), Ls ++ L, c0 + mc, s0 + ms⟩,
      ⟨X.admits, X.cas, X.clock, X.frames, X.room, X.hears, X.method, X.code, (X.here.setHeapUsed s₂.heap s₂.slotsUsed).setVm hW'.alike, X.tail, State.WarmedH.trans X.warmed hW', X.limits, X.bytes, X.same.trans (hsame.setVm s.vm)⟩,
      ⟨g, mk, s₂, L, rfl, rfl, hqc, rfl, hL, rfl, rfl⟩, ?_⟩
    show Steps p.tables e below _ ((({ U with heap := s₂.heap, slotsUsed := s₂.slotsUsed } : State).setVm s₂.vm).setTop { g with pc := g.pc + len₂, stack := v.toList ++ g.stack })
    rw [← hs₂]
    exact hsteps
  · obtain ⟨e2, q2, q3, q4, q5, q6⟩ := id hsm
    have e3 : s₂ = ({ (U.calling g mk a).setFrames s₂.frames with heap := s₂.heap, slotsUsed := s₂.slotsUsed } : State).setVm s₂.vm := by
      have : s₂ = ({ s₂ with vm := (U.calling g mk a).vm } : State).setVm s₂.vm := rfl
      rw [e2] at this
      exact this
    have hf₂ : s₂.frames = .throwing q :: .java g :: U.frames.tail := hend
    have hW' : U.WarmedH s₂.vm := hW₂
    have hs₂ : s₂ = ((({ U with heap := s₂.heap, slotsUsed := s₂.slotsUsed } : State).setVm s₂.vm).setTop g).pushFrame (.throwing q) := by
      refine e3.trans ?_
      rw [hf₂, State.calling_eq h.top, State.setFrames_setFrames, State.pushFrame, State.frames_setTop _ hr', State.setTop_of_frames _ hr', State.setFrames_setFrames, hr]
      rfl
    have hsame : U.sameButNew ({ U with heap := s₂.heap, slotsUsed := s₂.slotsUsed } : State) L mc ms := by
      refine ⟨?_, q2, q3, q4, q5, q6⟩
      obtain ⟨t, ht, -⟩ := State.frames_cons hr
      show ({ U with heap := s₂.heap, slotsUsed := s₂.slotsUsed } : State) = { U.setFrames U.frames with heap := s₂.heap, slotsUsed := s₂.slotsUsed }
      rw [State.setFrames_self ht]
    subst hg
    refine Or.inr ⟨q, ⟨(({ U with heap := s₂.heap, slotsUsed := s₂.slotsUsed } : State).setVm s₂.vm), Ls ++ L, c0 + mc, s0 + ms⟩,
      ⟨X.admits, X.cas, X.clock, X.frames, X.room, X.hears, X.method, X.code, (X.here.setHeapUsed s₂.heap s₂.slotsUsed).setVm hW'.alike, X.tail, State.WarmedH.trans X.warmed hW', X.limits, X.bytes, X.same.trans (hsame.setVm s.vm)⟩,
      ⟨g, mk, s₂, L, E, ce, rfl, rfl, hx, hce, hcv, hcl, rfl, hL, rfl, rfl⟩, ?_⟩
    show Steps p.tables e below _ (((({ U with heap := s₂.heap, slotsUsed := s₂.slotsUsed } : State).setVm s₂.vm).setTop g).pushFrame (.throwing q))
    rw [← hs₂]
    exact hsteps
end Payer
section Calls
variable {p : Program} {l : Launch} {e : Env} {R : Room} {s : State} {m : MethodId} {args : Array Value} {below : List Frame} {meth : Method} {c : Code} {T : State} {locs : List Loc} {cells slots : Nat}
theorem vx_callV (X : Stand p l e R s m args below meth c T locs cells slots) (hexec : p.tables.exec = Jvm.exec) {own C : String} {index : Nat} {y : MethodName} {bytes : ByteArray} {maxL : Nat} {ret : Option FieldType}
    (hown : s.vm.findClass own = some m.cls) (hlink : (Cond.methodLink own index y).before args s = true) (hinst : (Cond.instanceMethod y).before args s = true) (hsel : (Cond.selects C y y).before args s = true)
    (hcode : (Cond.code y bytes maxL ret).before args s = true) (hy : y.cls ≠ "java/lang/invoke/MethodHandle" ∧ y.cls ≠ "java/lang/invoke/VarHandle")
    {W9 : Nat} {Pre : Pt → Array Value → Prop} {Post : Pt → Array Value → Option Value → Pt → Prop} {PostX : Pt → Array Value → Addr → Pt → Prop} (hK : vx_Back l R p e below s args y 3 W9 Pre Post PostX)
    {b : Addr} {cellB : Cell} (hcell : T.heap[b]? = some cellB) (hobj : cellB.vm.isStatics = false) (hcls : s.vm.findClass C = some cellB.cls)
    {g : JFrame} (hg : g.method = m) (hsize : g.locals.size = c.maxLocals) {argsL rest : List Value} (hlen : ∀ sig, parseMethodDescriptor y.desc = some sig → argsL.length = sig.parameters.length)
    (hstack : g.stack = argsL.reverse ++ .ref b :: rest) (hW : 2 * g.monitorRoom + (rest.map fun v => v.category).sum ≤ W9) (hdg : decode c.code g.pc = .ok (.invokevirtual index, 3))
    (hpre : ∀ vm₁, s.WarmedH vm₁ → Pre ⟨T.setVm vm₁, locs, cells, slots⟩ (Value.ref b :: argsL).toArray) :
    (∃ (v : Option Value) (vm₁ : Vm) (B : Pt), s.WarmedH vm₁ ∧ Stand p l e R s m args below meth c B.U B.locs B.cells B.slots ∧ Post ⟨T.setVm vm₁, locs, cells, slots⟩ (Value.ref b :: argsL).toArray v B ∧
      ∀ target, Steps p.tables e below (B.U.setTop { g with pc := g.pc + 3, stack := v.toList ++ rest }) target → Steps p.tables e below (T.setTop g) target) ∨
    (∃ (q : Addr) (vm₁ : Vm) (B : Pt), s.WarmedH vm₁ ∧ Stand p l e R s m args below meth c B.U B.locs B.cells B.slots ∧ PostX ⟨T.setVm vm₁, locs, cells, slots⟩ (Value.ref b :: argsL).toArray q B ∧
      Steps p.tables e below (T.setTop g) ((B.U.setTop { g with stack := rest }).pushFrame (.throwing q))) := by
  obtain ⟨mk, methM, hnamed, hmethM, hstM, habM⟩ := Cond.instanceMethod_spec hinst
  obtain ⟨methM', cM, hmethM', -, -, -, -, -, -, hsigM⟩ := Cond.code_spec hnamed hcode
  cases hmethM.symm.trans hmethM'
  obtain ⟨c2, r2, m2, q1, q2, q3, q4, kP, hkP, hkPi⟩ := Cond.selects_spec hsel
  cases hcls.symm.trans q1
  cases (State.methodFound?_of_named hnamed hy).symm.trans q2
  cases hnamed.symm.trans q3
  have hselP : selectMethod e.platform s.vm cellB.cls mk = .method mk := by rw [Launch.admits_selectMethod X.admits]; exact q4
  obtain ⟨vm₁, X₁, hstep₁⟩ := X.invokevirtual hexec hown hlink hnamed hmethM hstM hkP hkPi hy (a := b) (cell := cellB) hcell
    (fun z h => by rw [h] at hobj; cases hobj) hselP hmethM habM hkP hkPi (g := g) hg (argsL := argsL) (rest := rest) (hlen _ hsigM) hstack hdg
  rcases hK m meth c ⟨T.setVm vm₁, locs, cells, slots⟩ { g with stack := rest } (.invokevirtual index) mk (Value.ref b :: argsL).toArray X₁ hg hsize hdg hW (X₁.named hnamed) (hpre vm₁ X₁.warmed) with ⟨v, B, X', hpost, hsteps⟩ | ⟨q, B, X', hpost, hsteps⟩
  · exact Or.inl ⟨v, vm₁, B, X₁.warmed, X', hpost, fun target h => hstep₁ _ fun acts => by rw [doInvoke_state]; exact hsteps.trans h⟩
  · exact Or.inr ⟨q, vm₁, B, X₁.warmed, X', hpost, hstep₁ _ fun acts => by rw [doInvoke_state]; exact hsteps⟩
theorem vx_callS (X : Stand p l e R s m args below meth c T locs cells slots) (hexec : p.tables.exec = Jvm.exec) {own : String} {index : Nat} {y : MethodName} {bytes : ByteArray} {maxL : Nat} {ret : Option FieldType}
    (hown : s.vm.findClass own = some m.cls) (hlink : (Cond.methodLink own index y).before args s = true) (hstat : (Cond.static y).before args s = true) (hinit : (Cond.initialized y.cls).before args s = true)
    (hcode : (Cond.code y bytes maxL ret).before args s = true) (hy : y.cls ≠ "java/lang/invoke/MethodHandle" ∧ y.cls ≠ "java/lang/invoke/VarHandle")
    {W9 : Nat} {Pre : Pt → Array Value → Prop} {Post : Pt → Array Value → Option Value → Pt → Prop} {PostX : Pt → Array Value → Addr → Pt → Prop} (hK : vx_Back l R p e below s args y 3 W9 Pre Post PostX)
    {g : JFrame} (hg : g.method = m) (hsize : g.locals.size = c.maxLocals) {argsL rest : List Value} (hlen : ∀ sig, parseMethodDescriptor y.desc = some sig → argsL.length = sig.parameters.length)
    (hstack : g.stack = argsL.reverse ++ rest) (hW : 2 * g.monitorRoom + (rest.map fun v => v.category).sum ≤ W9) (hdg : decode c.code g.pc = .ok (.invokestatic index, 3))
    (hpre : ∀ vm₁, s.WarmedH vm₁ → Pre ⟨T.setVm vm₁, locs, cells, slots⟩ argsL.toArray) :
    (∃ (v : Option Value) (vm₁ : Vm) (B : Pt), s.WarmedH vm₁ ∧ Stand p l e R s m args below meth c B.U B.locs B.cells B.slots ∧ Post ⟨T.setVm vm₁, locs, cells, slots⟩ argsL.toArray v B ∧
      ∀ target, Steps p.tables e below (B.U.setTop { g with pc := g.pc + 3, stack := v.toList ++ rest }) target → Steps p.tables e below (T.setTop g) target) ∨
    (∃ (q : Addr) (vm₁ : Vm) (B : Pt), s.WarmedH vm₁ ∧ Stand p l e R s m args below meth c B.U B.locs B.cells B.slots ∧ PostX ⟨T.setVm vm₁, locs, cells, slots⟩ argsL.toArray q B ∧
      Steps p.tables e below (T.setTop g) ((B.U.setTop { g with stack := rest }).pushFrame (.throwing q))) := by
  obtain ⟨mk, hnamed⟩ := Cond.code_named hcode
  obtain ⟨methM, cM, hmethM, -, -, -, -, -, -, hsigM⟩ := Cond.code_spec hnamed hcode
  have hstatic : methM.isStatic = true := Cond.static_spec hnamed hmethM hstat
  obtain ⟨kP, hkP, -⟩ := className_of_methodNamed hnamed
  have hinitP : kP.init = .initialized := Cond.initialized_spec (findClass_of_methodNamed hnamed) hkP hinit
  obtain ⟨vm₁, X₁, hstep₁⟩ := X.invokestatic hexec hown hlink hnamed hmethM hstatic hkP hinitP hy (g := g) hg (argsL := argsL) (rest := rest) (hlen _ hsigM) hstack hdg
  rcases hK m meth c ⟨T.setVm vm₁, locs, cells, slots⟩ { g with stack := rest } (.invokestatic index) mk argsL.toArray X₁ hg hsize hdg hW (X₁.named hnamed) (hpre vm₁ X₁.warmed) with ⟨v, B, X', hpost, hsteps⟩ | ⟨q, B, X', hpost, hsteps⟩
  · exact Or.inl ⟨v, vm₁, B, X₁.warmed, X', hpost, fun target h => hstep₁ _ fun acts => by rw [doInvoke_state]; exact hsteps.trans h⟩
  · exact Or.inr ⟨q, vm₁, B, X₁.warmed, X', hpost, hstep₁ _ fun acts => by rw [doInvoke_state]; exact hsteps⟩
end Calls
theorem vx_cls {s : State} {T : State} {vm₁ : Vm} {E : String} {k : ClassId} (hW : s.WarmedH vm₁) (h : (T.setVm vm₁).vm.findClass E = some k) : s.vm.findClass E = some k := by
  have h1 : vm₁.findClass E = some k := h
  rw [hW.alike.findClass] at h1
  exact h1
/-- the method's frame g, with q thrown over it -/
def vx_W (p : Program) (l : Launch) (e : Env) (R : Room) (s : State) (m : MethodId) (args : Array Value) (below : List Frame) (meth : Method) (c : Code) (H : Heap) (locs : List Loc) (cells slots : Nat) (Q : State → Prop) (g : JFrame) (q : Addr) : Prop :=
  ∀ T : State, T.heap = H → Stand p l e R s m args below meth c T locs cells slots → ∃ t, Steps p.tables e below ((T.setTop g).pushFrame (.throwing q)) t ∧ Q t
def vx_Run (p : Program) (l : Launch) (e : Env) (R : Room) (s : State) (m : MethodId) (args : Array Value) (below : List Frame) (meth : Method) (c : Code) (H : Heap) (locs : List Loc) (cells slots mc ms : Nat) (g : JFrame) (rest : List Value) (Qa : State → Outcome → State → Prop) (XC : String → State → State → Prop) (free : Addr → Prop) : Prop :=
  ∀ T : State, T.heap = H → Stand p l e R s m args below meth c T locs cells slots →
    (∃ (v : Option Value) (st₀ t T' : State) (L : List Loc), st₀.heap = H ∧ Stand p l e R s m args below meth c T' (locs ++ L) (cells + mc) (slots + ms) ∧ (∀ q ∈ L, free q.base) ∧ T'.heap = t.heap ∧ T'.vm = t.vm ∧ Qa st₀ (.returned v) t ∧
      Goes p e below T g T' { g with pc := g.pc + 3, stack := v.toList ++ rest }) ∨
    (∃ (q : Addr) (st₀ t T' : State) (L : List Loc) (E : String) (ce : Cell), st₀.heap = H ∧ Stand p l e R s m args below meth c T' (locs ++ L) (cells + mc) (slots + ms) ∧ (∀ z ∈ L, free z.base) ∧ T'.heap = t.heap ∧ T'.vm = t.vm ∧ XC E st₀ t ∧ t.heap[q]? = some ce ∧ ce.vm = .none ∧ s.vm.findClass E = some ce.cls ∧
      Steps p.tables e below (T.setTop g) ((T'.setTop { g with stack := rest }).pushFrame (.throwing q)))
def vx_X {S : Type} (px : S → Prop) (B : String → S → State → Prop) (A : Nat → Prop) : String → State → State → Prop := fun E st t => ∃ u : S, px u ∧ B E u t ∧ va_F A st t
section Runs
variable {p : Program} {l : Launch} {e : Env} {R : Room} {s : State} {m : MethodId} {args : Array Value} {below : List Frame} {meth : Method} {c : Code} {H : Heap} {locs : List Loc} {cells slots : Nat}
variable {y : MethodName} {bytes cc : ByteArray} {maxL nL mc ms n index : Nat} {ret : Option FieldType} {ws : List Cond} {rm : Room} {Pc : Array Value → State → Prop} {Qc : Array Value → State → Outcome → State → Prop} {XC : String → State → State → Prop} {free : Addr → Prop} {Ts : List Cond} {own C : String} {b : Addr} {As rest : List Value} {g : JFrame}
theorem vx_callBack (cb : CallB R s args own index y bytes maxL ret ws rm mc ms n) (hM : vx_Met l y ws rm Pc Qc XC mc ms free) (hbl : FrameBlind Pc) : vx_Back l R p e below s args y 3 8 (PreOf R mc ms Pc) (PostOf Qc mc ms free) (vx_Post XC mc ms free) := by
  obtain ⟨hrc, hrs, hfr, hlo, hws, hcw, -, hini, -⟩ := cb
  exact vx_back (bytes := bytes) (maxL := maxL) (ret := ret) hM hbl hrc hrs hfr hlo hws hcw (fun a' U hW => word_at hW (Or.inl (by first | rfl | simp [Cond.onTables, Cond.keeps, Cond.steady])) hini)
theorem vx_runV (S : CallFix p m c cc nL s args Ts own) (hM : vx_Met l y ws rm Pc Qc XC mc ms free) (cw : CallW R s args own C index y bytes maxL ret ws rm mc ms n) (hp : PreV s H C b Pc As)
    (hg : g.method = m) (hn : As.length = n) (hsize : g.locals.size = nL) (hstack : g.stack = As.reverse ++ .ref b :: rest) (hW : 2 * g.monitorRoom + (rest.map fun v => v.category).sum ≤ 8) (hdg : decode cc g.pc = .ok (.invokevirtual index, 3)) (hf : cells + mc ≤ R.cells ∧ slots + ms ≤ R.slots) :
    vx_Run p l e R s m args below meth c H locs cells slots mc ms g rest (Qc (Value.ref b :: As).toArray) XC free := by
  have hK : vx_Back l R p e below s args y 3 8 (PreOf R mc ms Pc) (PostOf Qc mc ms free) (vx_Post XC mc ms free) := vx_callBack cw.1 hM hp.1
  obtain ⟨⟨-, -, -, -, -, -, hcode, -, hy, hlen, hl⟩, hin, hse⟩ := cw
  obtain ⟨hx, hb, hml, ho, -⟩ := S
  obtain ⟨-, ⟨cellB, hcB, hoB, hclB⟩, hPc⟩ := hp
  intro T hT X
  rcases vx_callV X hx (C := C) (bytes := bytes) (maxL := maxL) (ret := ret) ho hl hin hse hcode hy hK (by rw [hT]; exact hcB) hoB hclB hg (hsize.trans hml.symm) (argsL := As) (rest := rest) (fun sig h => hn.trans (hlen sig h)) hstack hW (by rw [hb]; exact hdg)
    (fun vm₁ hW₁ => ⟨hf.1, hf.2, hPc (T.setVm vm₁) hT hW₁⟩) with ⟨v, vm₁, ⟨U', l2, c2, s2⟩, hW₁, X', ⟨g', mk, t, L, e1, e2, hq, h1, hL, h2, h3⟩, st⟩ | ⟨q, vm₁, ⟨U', l2, c2, s2⟩, hW₁, X', ⟨g', mk, t, L, E, ce, e1, e2, hq, hce, hcv, hcl, h1, hL, h2, h3⟩, st⟩
  · dsimp only [Pt.U, Pt.locs, Pt.cells, Pt.slots] at X' e1 e2 h1 h2 h3 st
    subst h1; subst h2; subst h3
    exact Or.inl ⟨v, (T.setVm vm₁).calling g' mk (Value.ref b :: As).toArray, t, U', L, hT, X', hL, e1, e2, hq, st⟩
  · dsimp only [Pt.U, Pt.locs, Pt.cells, Pt.slots] at X' e1 e2 h1 h2 h3 st hcl
    subst h1; subst h2; subst h3
    exact Or.inr ⟨q, (T.setVm vm₁).calling g' mk (Value.ref b :: As).toArray, t, U', L, E, ce, hT, X', hL, e1, e2, hq, hce, hcv, vx_cls hW₁ hcl, st⟩
theorem vx_runS (S : CallFix p m c cc nL s args Ts own) (hM : vx_Met l y ws rm Pc Qc XC mc ms free) (cw : CallB R s args own index y bytes maxL ret ws rm mc ms n ∧ (Cond.static y).before args s = true) (hp : PreS s H Pc As)
    (hg : g.method = m) (hn : As.length = n) (hsize : g.locals.size = nL) (hstack : g.stack = As.reverse ++ rest) (hW : 2 * g.monitorRoom + (rest.map fun v => v.category).sum ≤ 8) (hdg : decode cc g.pc = .ok (.invokestatic index, 3)) (hf : cells + mc ≤ R.cells ∧ slots + ms ≤ R.slots) :
    vx_Run p l e R s m args below meth c H locs cells slots mc ms g rest (Qc As.toArray) XC free := by
  have hK : vx_Back l R p e below s args y 3 8 (PreOf R mc ms Pc) (PostOf Qc mc ms free) (vx_Post XC mc ms free) := vx_callBack cw.1 hM hp.1
  obtain ⟨⟨-, -, -, -, -, -, hcode, hini, hy, hlen, hl⟩, hstt⟩ := cw
  obtain ⟨hx, hb, hml, ho, -⟩ := S
  intro T hT X
  rcases vx_callS X hx (bytes := bytes) (maxL := maxL) (ret := ret) ho hl hstt hini hcode hy hK hg (hsize.trans hml.symm) (argsL := As) (rest := rest) (fun sig h => hn.trans (hlen sig h)) hstack hW (by rw [hb]; exact hdg)
    (fun vm₁ hW₁ => ⟨hf.1, hf.2, hp.2 (T.setVm vm₁) hT hW₁⟩) with ⟨v, vm₁, ⟨U', l2, c2, s2⟩, hW₁, X', ⟨g', mk, t, L, e1, e2, hq, h1, hL, h2, h3⟩, st⟩ | ⟨q, vm₁, ⟨U', l2, c2, s2⟩, hW₁, X', ⟨g', mk, t, L, E, ce, e1, e2, hq, hce, hcv, hcl, h1, hL, h2, h3⟩, st⟩
  · dsimp only [Pt.U, Pt.locs, Pt.cells, Pt.slots] at X' e1 e2 h1 h2 h3 st
    subst h1; subst h2; subst h3
    exact Or.inl ⟨v, (T.setVm vm₁).calling g' mk As.toArray, t, U', L, hT, X', hL, e1, e2, hq, st⟩
  · dsimp only [Pt.U, Pt.locs, Pt.cells, Pt.slots] at X' e1 e2 h1 h2 h3 st hcl
    subst h1; subst h2; subst h3
    exact Or.inr ⟨q, (T.setVm vm₁).calling g' mk As.toArray, t, U', L, E, ce, hT, X', hL, e1, e2, hq, hce, hcv, vx_cls hW₁ hcl, st⟩
end Runs
section Rows
variable {p : Program} {l : Launch} {e : Env} {R : Room} {s : State} {m : MethodId} {args : Array Value} {below : List Frame} {meth : Method} {c : Code} {H : Heap} {locs : List Loc} {cells slots : Nat} {Q : State → Prop}
variable {mc ms : Nat} {free : Addr → Prop} {A0 A1 : Nat → Prop} {H0 : Heap} {a : Array Value} {pc : Nat} {ls : Array Slot} {st0 rest : List Value}
theorem vx_keep {st₀ t T' : State} {L : List Loc} (h0 : st₀.heap = H) (e1 : T'.heap = t.heap) (hS : va_S A0 H0 H locs) (hA : ∀ q, q < H.size → A1 q → A0 q) (hf : ∀ q, free q → A0 q) (hL : ∀ q ∈ L, free q.base) (hF : va_F A1 st₀ t) :
    H.size ≤ T'.heap.size ∧ (∀ q : Nat, q < H.size → ¬ A1 q → T'.heap[q]? = H[q]?) ∧ va_S A0 H0 T'.heap (locs ++ L) := by
  obtain ⟨hz, hk⟩ := hF
  rw [h0] at hz hk
  exact ⟨by rw [e1]; exact hz, fun q h1 h2 => by rw [e1]; exact hk q h1 h2,
    ⟨Nat.le_trans hS.1 (by rw [e1]; exact hz), fun q h1 h2 => by rw [e1, hk q (Nat.lt_of_lt_of_le h1 hS.1) (fun z => h2 (hA q (Nat.lt_of_lt_of_le h1 hS.1) z))]; exact hS.2.1 q h1 h2, fun q hq => by
      rcases List.mem_append.mp hq with h | h
      · exact hS.2.2 q h
      · exact hf _ (hL q h)⟩⟩
theorem vx_calli {S SX : Type} {post : Int32 → S → Prop} {px : SX → Prop} {B : S → State → Prop} {BX : String → SX → State → Prop} {AX : Nat → Prop} (hr : vx_Run p l e R s m args below meth c H locs cells slots mc ms (F0 m pc ls st0) rest (va_Qi post B A1 a) (vx_X px BX AX) free) (hS : va_S A0 H0 H locs) (hA : ∀ q, q < H.size → A1 q → A0 q) (hf : ∀ q, free q → A0 q) (hAX : ∀ q, q < H.size → AX q → A0 q)
    (kx : ∀ (E : String) (ce : Cell) (q9 : Addr) (u : SX) (t : State) (H1 : Heap) (locs1 : List Loc), t.heap = H1 → s.vm.Alike t.vm → px u → BX E u t → H.size ≤ H1.size → (∀ q : Nat, q < H.size → ¬ AX q → H1[q]? = H[q]?) → va_S A0 H0 H1 locs1 → H1[q9]? = some ce → ce.vm = .none → s.vm.findClass E = some ce.cls → vx_W p l e R s m args below meth c H1 locs1 (cells + mc) (slots + ms) Q (F0 m pc ls rest) q9)
    (kk : ∀ (r : Int32) (u : S) (t : State) (H1 : Heap) (locs1 : List Loc), t.heap = H1 → s.vm.Alike t.vm → post r u → B u t → H.size ≤ H1.size → (∀ q : Nat, q < H.size → ¬ A1 q → H1[q]? = H[q]?) → va_S A0 H0 H1 locs1 → W p l e R s m args below meth c H1 locs1 (cells + mc) (slots + ms) Q (F0 m (pc + 3) ls (.int r :: rest))) : W p l e R s m args below meth c H locs cells slots Q (F0 m pc ls st0) := by
  intro T hT X
  rcases hr T hT X with ⟨v, st₀, t, T', L, h0, X', hL, e1, e2, ⟨⟨r, u, hv, hp, hb⟩, hF⟩, st⟩ | ⟨q, st₀, t, T', L, E, ce, h0, X', hL, e1, e2, ⟨u, hp, hb, hF⟩, hce, hcv, hcl, st⟩
  · cases hv
    obtain ⟨k1, k2, k3⟩ := vx_keep h0 e1 hS hA hf hL hF
    obtain ⟨t2, a1, b1⟩ := kk r u t T'.heap (locs ++ L) e1.symm (by rw [← e2]; exact X'.warmed.alike) hp hb k1 k2 k3 T' rfl X'
    exact ⟨t2, st t2 a1, b1⟩
  · obtain ⟨k1, k2, k3⟩ := vx_keep h0 e1 hS hAX hf hL hF
    obtain ⟨t2, a1, b1⟩ := kx E ce q u t T'.heap (locs ++ L) e1.symm (by rw [← e2]; exact X'.warmed.alike) hp hb k1 k2 k3 (by rw [e1]; exact hce) hcv hcl T' rfl X'
    exact ⟨t2, st.trans a1, b1⟩
theorem vx_calll {S SX : Type} {post : Int64 → S → Prop} {px : SX → Prop} {B : S → State → Prop} {BX : String → SX → State → Prop} {AX : Nat → Prop} (hr : vx_Run p l e R s m args below meth c H locs cells slots mc ms (F0 m pc ls st0) rest (va_Ql post B A1 a) (vx_X px BX AX) free) (hS : va_S A0 H0 H locs) (hA : ∀ q, q < H.size → A1 q → A0 q) (hf : ∀ q, free q → A0 q) (hAX : ∀ q, q < H.size → AX q → A0 q)
    (kx : ∀ (E : String) (ce : Cell) (q9 : Addr) (u : SX) (t : State) (H1 : Heap) (locs1 : List Loc), t.heap = H1 → s.vm.Alike t.vm → px u → BX E u t → H.size ≤ H1.size → (∀ q : Nat, q < H.size → ¬ AX q → H1[q]? = H[q]?) → va_S A0 H0 H1 locs1 → H1[q9]? = some ce → ce.vm = .none → s.vm.findClass E = some ce.cls → vx_W p l e R s m args below meth c H1 locs1 (cells + mc) (slots + ms) Q (F0 m pc ls rest) q9)
    (kk : ∀ (r : Int64) (u : S) (t : State) (H1 : Heap) (locs1 : List Loc), t.heap = H1 → s.vm.Alike t.vm → post r u → B u t → H.size ≤ H1.size → (∀ q : Nat, q < H.size → ¬ A1 q → H1[q]? = H[q]?) → va_S A0 H0 H1 locs1 → W p l e R s m args below meth c H1 locs1 (cells + mc) (slots + ms) Q (F0 m (pc + 3) ls (.long r :: rest))) : W p l e R s m args below meth c H locs cells slots Q (F0 m pc ls st0) := by
  intro T hT X
  rcases hr T hT X with ⟨v, st₀, t, T', L, h0, X', hL, e1, e2, ⟨⟨r, u, hv, hp, hb⟩, hF⟩, st⟩ | ⟨q, st₀, t, T', L, E, ce, h0, X', hL, e1, e2, ⟨u, hp, hb, hF⟩, hce, hcv, hcl, st⟩
  · cases hv
    obtain ⟨k1, k2, k3⟩ := vx_keep h0 e1 hS hA hf hL hF
    obtain ⟨t2, a1, b1⟩ := kk r u t T'.heap (locs ++ L) e1.symm (by rw [← e2]; exact X'.warmed.alike) hp hb k1 k2 k3 T' rfl X'
    exact ⟨t2, st t2 a1, b1⟩
  · obtain ⟨k1, k2, k3⟩ := vx_keep h0 e1 hS hAX hf hL hF
    obtain ⟨t2, a1, b1⟩ := kx E ce q u t T'.heap (locs ++ L) e1.symm (by rw [← e2]; exact X'.warmed.alike) hp hb k1 k2 k3 (by rw [e1]; exact hce) hcv hcl T' rfl X'
    exact ⟨t2, st.trans a1, b1⟩
theorem vx_callf {S SX : Type} {post : UInt32 → S → Prop} {px : SX → Prop} {B : S → State → Prop} {BX : String → SX → State → Prop} {AX : Nat → Prop} (hr : vx_Run p l e R s m args below meth c H locs cells slots mc ms (F0 m pc ls st0) rest (va_Qf post B A1 a) (vx_X px BX AX) free) (hS : va_S A0 H0 H locs) (hA : ∀ q, q < H.size → A1 q → A0 q) (hf : ∀ q, free q → A0 q) (hAX : ∀ q, q < H.size → AX q → A0 q)
    (kx : ∀ (E : String) (ce : Cell) (q9 : Addr) (u : SX) (t : State) (H1 : Heap) (locs1 : List Loc), t.heap = H1 → s.vm.Alike t.vm → px u → BX E u t → H.size ≤ H1.size → (∀ q : Nat, q < H.size → ¬ AX q → H1[q]? = H[q]?) → va_S A0 H0 H1 locs1 → H1[q9]? = some ce → ce.vm = .none → s.vm.findClass E = some ce.cls → vx_W p l e R s m args below meth c H1 locs1 (cells + mc) (slots + ms) Q (F0 m pc ls rest) q9)
    (kk : ∀ (r : UInt32) (u : S) (t : State) (H1 : Heap) (locs1 : List Loc), t.heap = H1 → s.vm.Alike t.vm → post r u → B u t → H.size ≤ H1.size → (∀ q : Nat, q < H.size → ¬ A1 q → H1[q]? = H[q]?) → va_S A0 H0 H1 locs1 → W p l e R s m args below meth c H1 locs1 (cells + mc) (slots + ms) Q (F0 m (pc + 3) ls (.float r :: rest))) : W p l e R s m args below meth c H locs cells slots Q (F0 m pc ls st0) := by
  intro T hT X
  rcases hr T hT X with ⟨v, st₀, t, T', L, h0, X', hL, e1, e2, ⟨⟨r, u, hv, hp, hb⟩, hF⟩, st⟩ | ⟨q, st₀, t, T', L, E, ce, h0, X', hL, e1, e2, ⟨u, hp, hb, hF⟩, hce, hcv, hcl, st⟩
  · cases hv
    obtain ⟨k1, k2, k3⟩ := vx_keep h0 e1 hS hA hf hL hF
    obtain ⟨t2, a1, b1⟩ := kk r u t T'.heap (locs ++ L) e1.symm (by rw [← e2]; exact X'.warmed.alike) hp hb k1 k2 k3 T' rfl X'
    exact ⟨t2, st t2 a1, b1⟩
  · obtain ⟨k1, k2, k3⟩ := vx_keep h0 e1 hS hAX hf hL hF
    obtain ⟨t2, a1, b1⟩ := kx E ce q u t T'.heap (locs ++ L) e1.symm (by rw [← e2]; exact X'.warmed.alike) hp hb k1 k2 k3 (by rw [e1]; exact hce) hcv hcl T' rfl X'
    exact ⟨t2, st.trans a1, b1⟩
theorem vx_calld {S SX : Type} {post : UInt64 → S → Prop} {px : SX → Prop} {B : S → State → Prop} {BX : String → SX → State → Prop} {AX : Nat → Prop} (hr : vx_Run p l e R s m args below meth c H locs cells slots mc ms (F0 m pc ls st0) rest (va_Qd post B A1 a) (vx_X px BX AX) free) (hS : va_S A0 H0 H locs) (hA : ∀ q, q < H.size → A1 q → A0 q) (hf : ∀ q, free q → A0 q) (hAX : ∀ q, q < H.size → AX q → A0 q)
    (kx : ∀ (E : String) (ce : Cell) (q9 : Addr) (u : SX) (t : State) (H1 : Heap) (locs1 : List Loc), t.heap = H1 → s.vm.Alike t.vm → px u → BX E u t → H.size ≤ H1.size → (∀ q : Nat, q < H.size → ¬ AX q → H1[q]? = H[q]?) → va_S A0 H0 H1 locs1 → H1[q9]? = some ce → ce.vm = .none → s.vm.findClass E = some ce.cls → vx_W p l e R s m args below meth c H1 locs1 (cells + mc) (slots + ms) Q (F0 m pc ls rest) q9)
    (kk : ∀ (r : UInt64) (u : S) (t : State) (H1 : Heap) (locs1 : List Loc), t.heap = H1 → s.vm.Alike t.vm → post r u → B u t → H.size ≤ H1.size → (∀ q : Nat, q < H.size → ¬ A1 q → H1[q]? = H[q]?) → va_S A0 H0 H1 locs1 → W p l e R s m args below meth c H1 locs1 (cells + mc) (slots + ms) Q (F0 m (pc + 3) ls (.double r :: rest))) : W p l e R s m args below meth c H locs cells slots Q (F0 m pc ls st0) := by
  intro T hT X
  rcases hr T hT X with ⟨v, st₀, t, T', L, h0, X', hL, e1, e2, ⟨⟨r, u, hv, hp, hb⟩, hF⟩, st⟩ | ⟨q, st₀, t, T', L, E, ce, h0, X', hL, e1, e2, ⟨u, hp, hb, hF⟩, hce, hcv, hcl, st⟩
  · cases hv
    obtain ⟨k1, k2, k3⟩ := vx_keep h0 e1 hS hA hf hL hF
    obtain ⟨t2, a1, b1⟩ := kk r u t T'.heap (locs ++ L) e1.symm (by rw [← e2]; exact X'.warmed.alike) hp hb k1 k2 k3 T' rfl X'
    exact ⟨t2, st t2 a1, b1⟩
  · obtain ⟨k1, k2, k3⟩ := vx_keep h0 e1 hS hAX hf hL hF
    obtain ⟨t2, a1, b1⟩ := kx E ce q u t T'.heap (locs ++ L) e1.symm (by rw [← e2]; exact X'.warmed.alike) hp hb k1 k2 k3 (by rw [e1]; exact hce) hcv hcl T' rfl X'
    exact ⟨t2, st.trans a1, b1⟩
theorem vx_callv {S SX : Type} {post : S → Prop} {px : SX → Prop} {B : S → State → Prop} {BX : String → SX → State → Prop} {AX : Nat → Prop} (hr : vx_Run p l e R s m args below meth c H locs cells slots mc ms (F0 m pc ls st0) rest (va_Qv post B A1 a) (vx_X px BX AX) free) (hS : va_S A0 H0 H locs) (hA : ∀ q, q < H.size → A1 q → A0 q) (hf : ∀ q, free q → A0 q) (hAX : ∀ q, q < H.size → AX q → A0 q)
    (kx : ∀ (E : String) (ce : Cell) (q9 : Addr) (u : SX) (t : State) (H1 : Heap) (locs1 : List Loc), t.heap = H1 → s.vm.Alike t.vm → px u → BX E u t → H.size ≤ H1.size → (∀ q : Nat, q < H.size → ¬ AX q → H1[q]? = H[q]?) → va_S A0 H0 H1 locs1 → H1[q9]? = some ce → ce.vm = .none → s.vm.findClass E = some ce.cls → vx_W p l e R s m args below meth c H1 locs1 (cells + mc) (slots + ms) Q (F0 m pc ls rest) q9)
    (kk : ∀ (u : S) (t : State) (H1 : Heap) (locs1 : List Loc), t.heap = H1 → s.vm.Alike t.vm → post u → B u t → H.size ≤ H1.size → (∀ q : Nat, q < H.size → ¬ A1 q → H1[q]? = H[q]?) → va_S A0 H0 H1 locs1 → W p l e R s m args below meth c H1 locs1 (cells + mc) (slots + ms) Q (F0 m (pc + 3) ls (rest))) : W p l e R s m args below meth c H locs cells slots Q (F0 m pc ls st0) := by
  intro T hT X
  rcases hr T hT X with ⟨v, st₀, t, T', L, h0, X', hL, e1, e2, ⟨⟨u, hv, hp, hb⟩, hF⟩, st⟩ | ⟨q, st₀, t, T', L, E, ce, h0, X', hL, e1, e2, ⟨u, hp, hb, hF⟩, hce, hcv, hcl, st⟩
  · cases hv
    obtain ⟨k1, k2, k3⟩ := vx_keep h0 e1 hS hA hf hL hF
    obtain ⟨t2, a1, b1⟩ := kk u t T'.heap (locs ++ L) e1.symm (by rw [← e2]; exact X'.warmed.alike) hp hb k1 k2 k3 T' rfl X'
    exact ⟨t2, st t2 a1, b1⟩
  · obtain ⟨k1, k2, k3⟩ := vx_keep h0 e1 hS hAX hf hL hF
    obtain ⟨t2, a1, b1⟩ := kx E ce q u t T'.heap (locs ++ L) e1.symm (by rw [← e2]; exact X'.warmed.alike) hp hb k1 k2 k3 (by rw [e1]; exact hce) hcv hcl T' rfl X'
    exact ⟨t2, st.trans a1, b1⟩
/-- caught by the row x of this method's table; the rows ahead don't take it -/
theorem vx_catch {own name : String} {E : String} {ce : Cell} {q : Addr} (hown : s.vm.findClass own = some m.cls) (pre : List ExceptionTableEntry) (x : ExceptionTableEntry) (suf : List ExceptionTableEntry) (hsplit : c.exceptionTable.toList = pre ++ x :: suf)
    (hpass : ∀ z ∈ pre, covers z pc = false ∨ (z.catchType ≠ 0 ∧ ∃ nm : String, (Cond.classLink own z.catchType nm).before args s = true ∧ va_Nc E nm s)) (hx : covers x pc = true) (h0 : x.catchType ≠ 0)
    (hlink : (Cond.classLink own x.catchType name).before args s = true) (hcast : (Cond.castable E name).before args s = true) (hcell : H[q]? = some ce) (hv : ce.vm = .none) (hcl : s.vm.findClass E = some ce.cls)
    (kk : W p l e R s m args below meth c H locs cells slots Q (F0 m x.handlerPc ls [.ref q])) : vx_W p l e R s m args below meth c H locs cells slots Q (F0 m pc ls rest) q := by
  intro T hT X
  have hpl : e.platform.magicAccessors = ({} : Platform).magicAccessors := by rw [X.admits.platform]
  obtain ⟨c3, c4, hc3, hc4, hasg⟩ := Cond.castable_spec hcast
  cases Option.some.inj (hc3.symm.trans hcl)
  obtain ⟨c5, hc5, hcl5⟩ := Cond.classLink_spec hown hlink e.platform hpl
  cases Option.some.inj (hc4.symm.trans hc5)
  obtain ⟨vm', X', st⟩ := X.thenCaughtThrough q (g := F0 m pc ls rest) rfl (Steps.refl _) (by rw [hT]; exact hcell) (by rw [hv]; rfl) (by obtain ⟨k9, h9, -⟩ := Vm.findClass_spec hcl; exact ⟨k9, h9⟩) pre x suf hsplit
    (fun z hz => by
      rcases hpass z hz with h | ⟨hz0, nm, hl1, hn1⟩
      · exact Or.inl h
      · obtain ⟨c6, hc6, hcl6⟩ := Cond.classLink_spec hown hl1 e.platform hpl
        obtain ⟨a8, b8, h1, h2, h3⟩ := hn1
        cases Option.some.inj (h1.symm.trans hcl)
        cases Option.some.inj (h2.symm.trans hc6)
        exact Or.inr ⟨hz0, _, hcl6, h3⟩) hx (Or.inr ⟨h0, c4, hcl5, hasg⟩)
  obtain ⟨t, a1, b1⟩ := kk (T.setVm vm') hT X'
  exact ⟨t, st.trans a1, b1⟩
end Rows
section Ends
variable {p : Program} {l : Launch} {e : Env} {R : Room} {s : State} {m : MethodId} {args : Array Value} {below : List Frame} {meth : Method} {c : Code} {H : Heap} {locs : List Loc} {cells slots : Nat} {Q : State → Prop}
variable {mc ms : Nat} {free : Addr → Prop} {A0 A1 : Nat → Prop} {H0 : Heap} {a : Array Value} {ls : Array Slot} {st0 rest : List Value}
variable {Qc : Array Value → State → Outcome → State → Prop} {XC : String → State → State → Prop}
/-- what a body that may throw owes at its end -/
def vx_MQ (below : List Frame) (Qc : Array Value → State → Outcome → State → Prop) (XC : String → State → State → Prop) (a : Array Value) (s : State) (mc ms : Nat) (free : Addr → Prop) : State → Prop := fun t =>
  ∃ o, t.status = .running ∧ Ended t below o ∧ vx_Q Qc XC mc ms free a s o t
theorem vx_ret {g : JFrame} {mc ms : Nat} (k : W p l e R s m args below meth c H locs cells slots (MQ below Qc args s mc ms free) g) : W p l e R s m args below meth c H locs cells slots (vx_MQ below Qc XC args s mc ms free) g := by
  intro T hT X
  obtain ⟨t, a1, o, b1, b2, b3, b4⟩ := k T hT X
  exact ⟨t, a1, o, b1, b2, Or.inl ⟨b3, b4⟩⟩
/-- not caught here: it goes on to the caller -/
theorem vx_widen {g : JFrame} {q : Addr} {k n : Nat} (h1 : cells ≤ k) (h2 : slots ≤ n) (kk : vx_W p l e R s m args below meth c H locs k n Q g q) : vx_W p l e R s m args below meth c H locs cells slots Q g q := fun T hT X => kk T hT (stand_widen X h1 h2)
theorem vx_out {pc : Nat} {E : String} {ce : Cell} {q : Addr} {mc ms : Nat} (hout : ∀ x ∈ c.exceptionTable.toList, covers x pc = false) (hlocks : meth.locks = false) (hcell : H[q]? = some ce) (hv : ce.vm = .none) (hcl : s.vm.findClass E = some ce.cls)
    (hx : ∀ t : State, t.heap = H → s.vm.Alike t.vm → XC E s t) (hf : ∀ z ∈ locs, free z.base) (hc : cells ≤ mc) (hs : slots ≤ ms) :
    vx_W p l e R s m args below meth c H locs cells slots (vx_MQ below Qc XC args s mc ms free) (F0 m pc ls rest) q := by
  intro T hT X
  obtain ⟨st1, hrun, hend, hW, hsm⟩ := X.leaveThrown q (g := F0 m pc ls rest) rfl rfl rfl hout hlocks
  have hcell9 : (T.setFrames (.throwing q :: below)).heap[q]? = some ce := by
    show T.heap[q]? = some ce
    rw [hT]; exact hcell
  exact ⟨_, st1, .threw q, hrun, hend, Or.inr ⟨q, rfl, E, ce, locs, hx _ hT hW.alike, hcell9, hv, hcl, hW, hsm.mono hc hs, hf⟩⟩
theorem vx_frame {U : State} {k n : Nat} (h : s.sameButNew ({ U with vm := s.vm } : State) locs k n) : s.heap.size ≤ U.heap.size ∧ ∀ q : Nat, q < s.heap.size → (∀ z ∈ locs, z.base ≠ q) → U.heap[q]? = s.heap[q]? := by
  obtain ⟨-, h2, -, -, -, h6⟩ := h
  refine ⟨h2, fun q hq hz => ?_⟩
  obtain ⟨c9, e1, e2, e3, e4⟩ := h6 q _ (Array.getElem?_eq_getElem hq)
  have hs : c9.slots = (s.heap[q]).slots := Array.ext_getElem? fun i => e4 i fun hm => hz _ hm rfl
  have h9 : c9 = s.heap[q] := by
    rw [hs] at e2
    exact e2
  have e5 : U.heap[q]? = some c9 := e1
  rw [e5, h9, Array.getElem?_eq_getElem hq]
/-- the words of a throw but the four that speak of the heap -/
def vx_no (w : Cond) : Bool := decide (w ≠ .isRef (.static Bundle.tN "UNASSIGNED_STACK" Bundle.steD)) && decide (w ≠ .isRef (.static Bundle.tN "SUPPRESSED_SENTINEL" Bundle.listD)) && decide (w ≠ .laysStatic Bundle.tN "UNASSIGNED_STACK" Bundle.steD) && decide (w ≠ .laysStatic Bundle.tN "SUPPRESSED_SENTINEL" Bundle.listD)
def vx_at0 (own : String) (ic : Nat) (X : String) (names : List String) : List Cond := (Bundle.ownAtoms0 own ic X names).filter vx_no
def vx_atS (own : String) (ic : Nat) (X : String) (names : List String) : List Cond := (Bundle.ownAtoms own ic X names).filter vx_no
/-- a word that the tables alone decide, or a good one -/
def vx_ot (w : Cond) : Bool := w.onTables || goodWord w
theorem vx_ot_at {args a' : Array Value} {s U : State} {w : Cond} (hW : s.WarmedH U.vm) (hvm : s.vm = U.vm) (hg : vx_ot w = true) (h : w.before args s = true) : w.before a' U = true := by
  simp only [vx_ot, Bool.or_eq_true] at hg
  rcases hg with hg | hg
  · exact va_tabs hg hvm h
  · exact word_at hW (good_of_word hg) h
/-- a list's words: the good ones out of the method's own list, the others by premises of their own -/
theorem vx_hat {args : Array Value} {s : State} {L B : List Cond} (h1 : ∀ w ∈ L.filter goodWord, w.before args s = true) (h2 : ∀ w ∈ L.filter (fun w => !goodWord w), w ∈ B) (h3 : ∀ w ∈ B, w.before args s = true) : ∀ w ∈ L, w.before args s = true := by
  intro w hw
  by_cases g : goodWord w = true
  · exact h1 w (List.mem_filter.mpr ⟨hw, g⟩)
  · refine h3 w (h2 w (List.mem_filter.mpr ⟨hw, ?_⟩))
    show (!goodWord w) = true
    cases hgw : goodWord w
    · rfl
    · exact absurd hgw g
theorem vx_c {args : Array Value} {s : State} {w : Cond} {B : List Cond} (h : w.before args s = true) (t : ∀ w ∈ B, w.before args s = true) : ∀ w' ∈ w :: B, w'.before args s = true := fun w' h' => (List.mem_cons.mp h').elim (fun e => by rw [e]; exact h) (t w')
theorem vx_n {args : Array Value} {s : State} : ∀ w ∈ ([] : List Cond), w.before args s = true := fun _ h => nomatch h
theorem vx_own {args : Array Value} {s : State} {L : List Cond} (h1 : ∀ w ∈ L.filter vx_no, w.before args s = true)
    (hU : (Cond.isRef (.static Bundle.tN "UNASSIGNED_STACK" Bundle.steD)).before args s = true) (hN : (Cond.isRef (.static Bundle.tN "SUPPRESSED_SENTINEL" Bundle.listD)).before args s = true)
    (lU : (Cond.laysStatic Bundle.tN "UNASSIGNED_STACK" Bundle.steD).before args s = true) (lN : (Cond.laysStatic Bundle.tN "SUPPRESSED_SENTINEL" Bundle.listD).before args s = true) : ∀ w ∈ L, w.before args s = true := by
  intro w hw
  by_cases e1 : w = .isRef (.static Bundle.tN "UNASSIGNED_STACK" Bundle.steD)
  · rw [e1]; exact hU
  · by_cases e2 : w = .isRef (.static Bundle.tN "SUPPRESSED_SENTINEL" Bundle.listD)
    · rw [e2]; exact hN
    · by_cases e3 : w = .laysStatic Bundle.tN "UNASSIGNED_STACK" Bundle.steD
      · rw [e3]; exact lU
      · by_cases e4 : w = .laysStatic Bundle.tN "SUPPRESSED_SENTINEL" Bundle.listD
        · rw [e4]; exact lN
        · exact h1 w (List.mem_filter.mpr ⟨hw, by unfold vx_no; rw [decide_eq_true e1, decide_eq_true e2, decide_eq_true e3, decide_eq_true e4]; rfl⟩)
/-- where a static field lies, its class's statics cell in H -/
def vx_L (C n d : String) (A : Nat → Prop) (U : State) (H : Heap) : Prop := ∃ (c : ClassId) (k : Class) (i : Nat) (f : Field) (a : Nat) (cell : Cell), U.vm.findClass C = some c ∧ U.fieldFound? C n d = some (c, k, i, f) ∧ f.isStatic = true ∧ k.statics = some a ∧ H[a]? = some cell ∧ cell.vm.isStatics = true ∧ cell.cls = c ∧ f.slot < cell.slots.size ∧ k.staticTypes[f.slot]? = some f.type ∧ ¬ A a
theorem vx_L.moved {C n d : String} {A : Nat → Prop} {u U : State} {H : Heap} (hvm : u.vm.Alike U.vm) (h : vx_L C n d A u H) : vx_L C n d A U H := by
  obtain ⟨c, k, i, f, a, cell, h1, h2, h3, h4, h5, h6, h7, h8, h9, h10⟩ := h
  obtain ⟨k', hi', he⟩ := State.fieldFound?_setVm hvm h2
  exact ⟨c, k', i, f, a, cell, by rw [hvm.findClass]; exact h1, hi', h3, by rw [he]; exact h4, h5, h6, h7, h8, by rw [he]; exact h9, h10⟩
theorem vx_L.kept {C n d : String} {A : Nat → Prop} {U : State} {H H1 : Heap} (h : vx_L C n d A U H) (hq : ∀ a : Nat, a < H.size → ¬ A a → H1[a]? = H[a]?) : vx_L C n d A U H1 := by
  obtain ⟨c, k, i, f, a, cell, h1, h2, h3, h4, h5, h6, h7, h8, h9, h10⟩ := h
  exact ⟨c, k, i, f, a, cell, h1, h2, h3, h4, by rw [hq a (Array.getElem?_eq_some_iff.mp h5).1 h10]; exact h5, h6, h7, h8, h9, h10⟩
theorem vx_L.narrow {C n d : String} {A B : Nat → Prop} {U : State} {H : Heap} (h : vx_L C n d A U H) (hAB : ∀ q, B q → A q) : vx_L C n d B U H := by
  obtain ⟨c, k, i, f, a, cell, h1, h2, h3, h4, h5, h6, h7, h8, h9, h10⟩ := h
  exact ⟨c, k, i, f, a, cell, h1, h2, h3, h4, h5, h6, h7, h8, h9, fun z => h10 (hAB _ z)⟩
theorem vx_L.word {C n d : String} {A : Nat → Prop} {s : State} {args : Array Value} (h : vx_L C n d A s s.heap) : (Cond.laysStatic C n d).before args s = true := by
  obtain ⟨c, k, i, f, a, cell, h1, h2, h3, h4, h5, h6, h7, h8, h9, -⟩ := h
  show (Cond.laysStatic C n d).holds args s none s [] = true
  exact Cond.laysStatic_of h1 h2 h3 h4 h5 h6 h7 h8 h9
/-- .. and what it holds: null or some reference -/
def vx_Zq (C n d : String) (A : Nat → Prop) (U : State) (H : Heap) : Prop := va_Zq C n d A U H ∧ vx_L C n d A U H
theorem vx_Zq.moved {C n d : String} {A : Nat → Prop} {u U : State} {H : Heap} (hvm : u.vm.Alike U.vm) (h : vx_Zq C n d A u H) : vx_Zq C n d A U H := ⟨va_Zq.moved hvm h.1, vx_L.moved hvm h.2⟩
theorem vx_Zq.kept {C n d : String} {A : Nat → Prop} {U : State} {H H1 : Heap} (h : vx_Zq C n d A U H) (hq : ∀ a : Nat, a < H.size → ¬ A a → H1[a]? = H[a]?) : vx_Zq C n d A U H1 := ⟨va_Zq.kept h.1 hq, vx_L.kept h.2 hq⟩
theorem vx_Zq.narrow {C n d : String} {A B : Nat → Prop} {U : State} {H : Heap} (h : vx_Zq C n d A U H) (hAB : ∀ q, B q → A q) : vx_Zq C n d B U H := ⟨va_Zq.narrow h.1 hAB, vx_L.narrow h.2 hAB⟩
theorem vx_Zqof {args : Array Value} {s : State} {C n d : String} {A : Nat → Prop} (hl : (Cond.laysStatic C n d).before args s = true) (hini : (Cond.initialized C).before args s = true) (h : (Cond.isRef (.static C n d)).before args s = true) (hA : ∀ a : Nat, a < s.heap.size → ¬ A a) : vx_Zq C n d A s s.heap := by
  refine ⟨va_Zqof hl hini h hA, ?_⟩
  obtain ⟨c, k, i, f, a, cell, h1, h2, h3, h4, h5, h6, h7, h8, h9⟩ := Cond.laysStatic_spec hl
  exact ⟨c, k, i, f, a, cell, h1, h2, h3, h4, h5, h6, h7, h8, h9, hA a (Array.getElem?_eq_some_iff.mp h5).1⟩
theorem vx_isRef {C n d : String} {v : Value} {A : Nat → Prop} {s : State} {args : Array Value} (h : va_Z C n d v A s s.heap) (hv : v.isRef = true) : (Cond.isRef (.static C n d)).before args s = true := by
  obtain ⟨cf, kf, fi, f, a, cell, h1, h2, h3, h4, h5, h6, h7, -⟩ := h
  have he : (Term.static C n d).eval args s none [] s = some v := by
    simp [Term.eval, State.fieldNamed?, h1, h2, h4, h5, h6, h7]
  simp only [Cond.before, Cond.holds, Cond.value, he]
  cases v <;> simp_all [Value.isRef]
theorem vx_isRefq {C n d : String} {A : Nat → Prop} {s : State} {args : Array Value} (h : va_Zq C n d A s s.heap) : (Cond.isRef (.static C n d)).before args s = true := by
  rcases h with h | ⟨t, h⟩
  · exact vx_isRef h rfl
  · exact vx_isRef h rfl
/-- the same frame, seen from here: as if the method were called anew in this heap -/
theorem vx_rebase {T : State} (X : Stand p l e R s m args below meth c T locs cells slots) {R' : Room} (hf : R'.frames ≤ R.frames) (hl : R'.locals ≤ R.locals) (hc : cells + R'.cells ≤ R.cells) (hs : slots + R'.slots ≤ R.slots) :
    Stand p l e R' ((T.setVm s.vm).setFrames (.invoking m args :: below)) m args below meth c T [] 0 0 := by
  have htop : (T.setVm s.vm).topJava?.isSome := X.here.top
  have hF : ((T.setVm s.vm).setFrames (.invoking m args :: below)).frames = .invoking m args :: below := State.frames_setFrames _ (State.cur_lt_of_top htop)
  obtain ⟨g₀, hg0⟩ := Option.isSome_iff_exists.mp htop
  obtain ⟨r, hr⟩ := State.topJava?_eq_some.mp hg0
  have hl9 : e.platform.stackLimits (T.setVm s.vm).me = e.platform.stackLimits s.me := X.limits
  have hb9 : (T.setVm s.vm).me.stackBytes = s.me.stackBytes := X.bytes
  refine ⟨X.admits, X.cas, X.clock, hF, ?_, X.hears, X.method, X.code, X.here, X.tail, X.warmed, ?_, ?_, ?_⟩
  · have h := X.room
    have hU : ((T.setVm s.vm).setFrames (.invoking m args :: below)).localsInUse = s.localsInUse := by
      rw [State.localsInUse_invoking hF (meth := meth) (c := c) X.method X.code, State.localsInUse_invoking X.frames X.method X.code]
    simp only [State.hasRoom, Bool.and_eq_true, decide_eq_true_eq] at h ⊢
    obtain ⟨⟨⟨⟨h1, h2, h3, h4, h5, h6⟩, h7⟩, h8⟩, h9⟩ := h
    rw [X.frames, List.length_cons] at h2 h3
    have q1 := X.heapSize
    have q2 := X.used
    simp only [hF, hU, List.length_cons, State.stackLimits_setFrames, State.stackBytes_setFrames, hl9, hb9]
    refine ⟨⟨⟨⟨by omega, by omega, by omega, by omega, by omega, h6⟩, ?_⟩, ?_⟩, X.book⟩
    · show T.heap.size + R'.cells ≤ e.platform.maxCells
      omega
    · show T.slotsUsed + R'.slots ≤ e.platform.maxSlots
      omega
  · rw [State.stackLimits_setFrames]; rfl
  · rw [State.stackBytes_setFrames]; rfl
  · refine ⟨?_, Nat.le_refl _, Nat.le_refl _, ?_, ?_, fun a c9 h9 => ⟨c9, h9, rfl, rfl, fun _ _ => rfl⟩⟩
    · obtain ⟨t, ht, -⟩ := State.frames_cons hr
      show T.setVm s.vm = { ((T.setVm s.vm).setFrames (.invoking m args :: below)).setFrames (T.setVm s.vm).frames with heap := T.heap, slotsUsed := T.slotsUsed }
      rw [State.setFrames_setFrames, State.setFrames_self ht]
      rfl
    · show T.slotsUsed = T.slotsUsed + ((T.heap.toList.drop T.heap.size).map (·.slots.size)).sum
      rw [List.drop_eq_nil_of_le (Nat.le_of_eq Array.length_toList)]
      rfl
    · show ((T.heap.toList.drop T.heap.size).map (·.slots.size)).sum ≤ 0
      rw [List.drop_eq_nil_of_le (Nat.le_of_eq Array.length_toList)]
      exact Nat.le_refl _
/-- 'throw new E()': new; dup; invokespecial; athrow -/
theorem vx_throw0 {cc : ByteArray} {pc : Nat} (hexec : p.tables.exec = Jvm.exec) (hb : c.code = cc) (hl : l.stackTraces = false) {own cls : String} {names : List String} {ik ic mc ms : Nat} {A : Nat → Prop}
    (hown : s.vm.findClass own = some m.cls) (hcls : Bundle.fit cls = true) (hnames : ∀ n ∈ names, Bundle.fit n = true)
    (hk : (Cond.classLink own ik cls).before args s = true) (hini : (Cond.initialized cls).before args s = true) (hat : ∀ w ∈ vx_at0 own ic cls names, w.before args s = true)
    (hgood : ∀ w ∈ Cond.classLink own ik cls :: Cond.initialized cls :: vx_at0 own ic cls names, vx_ot w = true)
    (hU : vx_Zq Bundle.tN "UNASSIGNED_STACK" Bundle.steD A s s.heap) (hN : vx_Zq Bundle.tN "SUPPRESSED_SENTINEL" Bundle.listD A s s.heap) (hS : va_S A s.heap H locs) (hsize : ls.size = c.maxLocals)
    (d0 : decode cc pc = .ok (.new ik, 3)) (d3 : decode cc (pc + 3) = .ok (.dup, 1)) (d4 : decode cc (pc + 4) = .ok (.invokespecial ic, 3)) (d7 : decode cc (pc + 7) = .ok (.athrow, 1))
    (hout : ∀ x ∈ c.exceptionTable.toList, covers x (pc + 7) = false)
    (hRframes : names.length + 3 < R.frames) (hRlocals : (rest.map fun v => v.category).sum + (13 * (names.length + 1) + 42) ≤ R.locals) (hRcells : cells + 1 ≤ R.cells) (hRslots : slots + 6 ≤ R.slots) (hlocks : meth.locks = false)
    (hx : ∀ t : State, s.vm.Alike t.vm → H.size ≤ t.heap.size → (∀ q : Nat, q < H.size → t.heap[q]? = H[q]?) → XC cls s t)
    (hf : ∀ z ∈ locs, free z.base) (hc : cells + 1 ≤ mc) (hs : slots + 6 ≤ ms) :
    W p l e R s m args below meth c H locs cells slots (vx_MQ below Qc XC args s mc ms free) (F0 m pc ls rest) := by
  intro T hT X
  have htr : e.platform.stackTraces = false := (show e.platform.stackTraces = l.stackTraces by rw [X.admits.platform]).trans hl
  have Y := vx_rebase X (R' := { frames := R.frames, locals := R.locals, cells := 1, slots := 6 }) (Nat.le_refl _) (Nat.le_refl _) hRcells hRslots
  obtain ⟨s', hA⟩ : ∃ z, z = (T.setVm s.vm).setFrames (.invoking m args :: below) := ⟨_, rfl⟩
  rw [← hA] at Y
  have hvm : s'.vm = s.vm := by rw [hA]; rfl
  have hhp : s'.heap = H := by rw [hA]; exact hT
  have hW0 : s.WarmedH s'.vm := by rw [hvm]; exact State.WarmedH.refl s
  have hat' : ∀ w ∈ vx_at0 own ic cls names, w.before args s' = true := fun w hw => vx_ot_at hW0 hvm.symm (hgood w (List.mem_cons_of_mem _ (List.mem_cons_of_mem _ hw))) (hat w hw)
  have hk' : (Cond.classLink own ik cls).before args s' = true := vx_ot_at hW0 hvm.symm (hgood _ List.mem_cons_self) hk
  have hini' : (Cond.initialized cls).before args s' = true := vx_ot_at hW0 hvm.symm (hgood _ (List.mem_cons_of_mem _ List.mem_cons_self)) hini
  have hU' : vx_Zq Bundle.tN "UNASSIGNED_STACK" Bundle.steD A s' s'.heap := by rw [hhp]; exact vx_Zq.moved hW0.alike (hU.kept hS.2.1)
  have hN' : vx_Zq Bundle.tN "SUPPRESSED_SENTINEL" Bundle.listD A s' s'.heap := by rw [hhp]; exact vx_Zq.moved hW0.alike (hN.kept hS.2.1)
  have h : ∀ w ∈ Bundle.ownAtoms0 own ic cls names, w.before args s' = true := vx_own hat' (vx_isRefq hU'.1) (vx_isRefq hN'.1) hU'.2.word hN'.2.word
  have hown' : s'.vm.findClass own = some m.cls := by rw [hvm]; exact hown
  have hins : (Cond.instantiable cls 6).before args s' = true := h _ (by simp [Bundle.ownAtoms0])
  obtain ⟨vm₁, cX, kX, hfX, hkX, -, -, X₁, st1⟩ := Y.newCold hexec (own := own) (C := cls) (index := ik) (n := 6) hown' hk' hins hini'
    (g := F0 m pc ls rest) rfl (by rw [hb]; exact d0) (Nat.le_refl _) (Nat.le_refl _)
  generalize hT1 : (T.setVm vm₁).pushCell { cls := cX, slots := kX.instanceTypes.map defaultValue, vm := .none } = T1 at X₁ st1
  have hcat : (Value.ref T.heap.size).category = 1 := rfl
  have hcellA : T1.heap[T.heap.size]? = some (freshCell cX kX) := by rw [← hT1]; exact State.heap_pushCell_size _ _
  have d3' : decode c.code (pc + 3) = .ok (.dup, 1) := by rw [hb]; exact d3
  obtain ⟨U, hsteps, hrun, hend, hW, hsame, ce, hce, hO⟩ := X₁.ctorThrow0 hexec htr (own := own) (cls := cls) (names := names) (ic := ic) hown' hcls hnames h (fun x hx => nomatch hx) hfX hkX hcellA (by rw [hhp, hT]; exact Nat.le_refl _)
    (g := { method := m, pc := pc + 4, locals := ls, stack := .ref T.heap.size :: .ref T.heap.size :: rest, locked := none }) rfl hsize rfl rfl (rest := rest) rfl
    (by rw [hb]; exact d4) (by rw [hb]; exact d7) hout hRframes (by simp only [List.map_cons, List.sum_cons, hcat]; omega) hlocks
  obtain ⟨f1, f2⟩ := vx_frame hsame
  rw [hhp] at f1 f2
  have hWs : s.WarmedH U.vm := State.WarmedH.trans hW0 hW
  have hcl : s.vm.findClass cls = some ce.cls := by
    have h9 := hO.cls
    rw [hvm] at h9
    exact h9
  have hall : s.sameButNew ({ U with vm := s.vm } : State) locs mc ms := by
    subst hA
    obtain ⟨e1, e2⟩ := hsame
    rw [State.setFrames_setFrames] at e1
    have h2 : (T.setVm s.vm).sameButNew ({ U with vm := s.vm } : State) [] (0 + 1) (0 + 6) := ⟨e1, e2⟩
    have h3 := X.same.trans h2
    rw [List.append_nil] at h3
    exact h3.mono hc hs
  refine ⟨U, ?_, .threw T.heap.size, hrun, hend, Or.inr ⟨T.heap.size, rfl, cls, ce, locs, hx U hWs.alike f1 (fun q hq => f2 q hq (fun z hz => nomatch hz)), hce, hO.vm, hcl, hWs, hall, hf⟩⟩
  refine st1 _ ?_
  show Steps p.tables e below (T1.setTop { method := m, pc := pc + 3, locals := ls, stack := .ref T.heap.size :: rest, locked := none }) _
  jvm_step X₁.here [X₁.here.top, hexec, d3', Value.category]
  exact hsteps
/-- 'throw new E("text")': new; dup; ldc; invokespecial; athrow -/
theorem vx_throwS {cc : ByteArray} {pc : Nat} (hexec : p.tables.exec = Jvm.exec) (hb : c.code = cc) (hl : l.stackTraces = false) {own cls text : String} {names : List String} {ik is ic mc ms sa : Nat} {A : Nat → Prop}
    (hown : s.vm.findClass own = some m.cls) (hcls : Bundle.fit cls = true) (hnames : ∀ n ∈ names, Bundle.fit n = true)
    (hk : (Cond.classLink own ik cls).before args s = true) (hini : (Cond.initialized cls).before args s = true) (hstr : vk_R own is text sa s) (hat : ∀ w ∈ vx_atS own ic cls names, w.before args s = true)
    (hgood : ∀ w ∈ Cond.classLink own ik cls :: Cond.initialized cls :: vx_atS own ic cls names, vx_ot w = true)
    (hU : vx_Zq Bundle.tN "UNASSIGNED_STACK" Bundle.steD A s s.heap) (hN : vx_Zq Bundle.tN "SUPPRESSED_SENTINEL" Bundle.listD A s s.heap) (hS : va_S A s.heap H locs) (hsize : ls.size = c.maxLocals)
    (d0 : decode cc pc = .ok (.new ik, 3)) (d3 : decode cc (pc + 3) = .ok (.dup, 1)) (d4 : decode cc (pc + 4) = .ok (.ldc is, 2)) (d6 : decode cc (pc + 6) = .ok (.invokespecial ic, 3)) (d9 : decode cc (pc + 9) = .ok (.athrow, 1))
    (hout : ∀ x ∈ c.exceptionTable.toList, covers x (pc + 9) = false)
    (hRframes : names.length + 3 < R.frames) (hRlocals : (rest.map fun v => v.category).sum + (13 * (names.length + 1) + 43) ≤ R.locals) (hRcells : cells + 1 ≤ R.cells) (hRslots : slots + 6 ≤ R.slots) (hlocks : meth.locks = false)
    (hx : ∀ t : State, s.vm.Alike t.vm → H.size ≤ t.heap.size → (∀ q : Nat, q < H.size → t.heap[q]? = H[q]?) → XC cls s t)
    (hf : ∀ z ∈ locs, free z.base) (hc : cells + 1 ≤ mc) (hs : slots + 6 ≤ ms) :
    W p l e R s m args below meth c H locs cells slots (vx_MQ below Qc XC args s mc ms free) (F0 m pc ls rest) := by
  intro T hT X
  have htr : e.platform.stackTraces = false := (show e.platform.stackTraces = l.stackTraces by rw [X.admits.platform]).trans hl
  have Y := vx_rebase X (R' := { frames := R.frames, locals := R.locals, cells := 1, slots := 6 }) (Nat.le_refl _) (Nat.le_refl _) hRcells hRslots
  obtain ⟨s', hA⟩ : ∃ z, z = (T.setVm s.vm).setFrames (.invoking m args :: below) := ⟨_, rfl⟩
  rw [← hA] at Y
  have hvm : s'.vm = s.vm := by rw [hA]; rfl
  have hhp : s'.heap = H := by rw [hA]; exact hT
  have hW0 : s.WarmedH s'.vm := by rw [hvm]; exact State.WarmedH.refl s
  have hat' : ∀ w ∈ vx_atS own ic cls names, w.before args s' = true := fun w hw => vx_ot_at hW0 hvm.symm (hgood w (List.mem_cons_of_mem _ (List.mem_cons_of_mem _ hw))) (hat w hw)
  have hk' : (Cond.classLink own ik cls).before args s' = true := vx_ot_at hW0 hvm.symm (hgood _ List.mem_cons_self) hk
  have hini' : (Cond.initialized cls).before args s' = true := vx_ot_at hW0 hvm.symm (hgood _ (List.mem_cons_of_mem _ List.mem_cons_self)) hini
  have hU' : vx_Zq Bundle.tN "UNASSIGNED_STACK" Bundle.steD A s' s'.heap := by rw [hhp]; exact vx_Zq.moved hW0.alike (hU.kept hS.2.1)
  have hN' : vx_Zq Bundle.tN "SUPPRESSED_SENTINEL" Bundle.listD A s' s'.heap := by rw [hhp]; exact vx_Zq.moved hW0.alike (hN.kept hS.2.1)
  have h : ∀ w ∈ Bundle.ownAtoms own ic cls names, w.before args s' = true := vx_own hat' (vx_isRefq hU'.1) (vx_isRefq hN'.1) hU'.2.word hN'.2.word
  have hown' : s'.vm.findClass own = some m.cls := by rw [hvm]; exact hown
  have hins : (Cond.instantiable cls 6).before args s' = true := h _ (by simp [Bundle.ownAtoms])
  obtain ⟨vm₁, cX, kX, hfX, hkX, -, -, X₁, st1⟩ := Y.newCold hexec (own := own) (C := cls) (index := ik) (n := 6) hown' hk' hins hini'
    (g := F0 m pc ls rest) rfl (by rw [hb]; exact d0) (Nat.le_refl _) (Nat.le_refl _)
  generalize hT1 : (T.setVm vm₁).pushCell { cls := cX, slots := kX.instanceTypes.map defaultValue, vm := .none } = T1 at X₁ st1
  have hcat : (Value.ref T.heap.size).category = 1 := rfl
  have hcellA : T1.heap[T.heap.size]? = some (freshCell cX kX) := by rw [← hT1]; exact State.heap_pushCell_size _ _
  have d3' : decode c.code (pc + 3) = .ok (.dup, 1) := by rw [hb]; exact d3
  have d4' : decode c.code (pc + 4) = .ok (.ldc is, 2) := by rw [hb]; exact d4
  have hstr' : vk_R own is text sa s' := vk_R.warm hW0 hstr
  obtain ⟨U, hsteps, hrun, hend, hW, hsame, ce, hce, hO⟩ := X₁.ctorThrowS hexec htr (own := own) (cls := cls) (names := names) (ic := ic) hown' hcls hnames h (fun x hx => nomatch hx) hfX hkX hcellA (by rw [hhp, hT]; exact Nat.le_refl _) (msg := .ref sa) rfl
    (g := { method := m, pc := pc + 6, locals := ls, stack := .ref sa :: .ref T.heap.size :: .ref T.heap.size :: rest, locked := none }) rfl hsize rfl rfl (rest := rest) rfl
    (by rw [hb]; exact d6) (by rw [hb]; exact d9) hout hRframes (by simp only [List.map_cons, List.sum_cons, hcat]; omega) hlocks
  obtain ⟨f1, f2⟩ := vx_frame hsame
  rw [hhp] at f1 f2
  have hWs : s.WarmedH U.vm := State.WarmedH.trans hW0 hW
  have hcl : s.vm.findClass cls = some ce.cls := by
    have h9 := hO.cls
    rw [hvm] at h9
    exact h9
  have hall : s.sameButNew ({ U with vm := s.vm } : State) locs mc ms := by
    subst hA
    obtain ⟨e1, e2⟩ := hsame
    rw [State.setFrames_setFrames] at e1
    have h2 : (T.setVm s.vm).sameButNew ({ U with vm := s.vm } : State) [] (0 + 1) (0 + 6) := ⟨e1, e2⟩
    have h3 := X.same.trans h2
    rw [List.append_nil] at h3
    exact h3.mono hc hs
  refine ⟨U, ?_, .threw T.heap.size, hrun, hend, Or.inr ⟨T.heap.size, rfl, cls, ce, locs, hx U hWs.alike f1 (fun q hq => f2 q hq (fun z hz => nomatch hz)), hce, hO.vm, hcl, hWs, hall, hf⟩⟩
  refine st1 _ ?_
  show Steps p.tables e below (T1.setTop { method := m, pc := pc + 3, locals := ls, stack := .ref T.heap.size :: rest, locked := none }) _
  jvm_step X₁.here [X₁.here.top, hexec, d3', Value.category]
  exact X₁.ldcString hexec (own := own) (text := text) (index := is) (a := sa) hown' hstr'.1 hstr'.2
    (g := { method := m, pc := pc + 4, locals := ls, stack := .ref T.heap.size :: .ref T.heap.size :: rest, locked := none }) rfl d4' _ hsteps
/-- 'throw new E("text")', the text by a wide index -/
theorem vx_throwSW {cc : ByteArray} {pc : Nat} (hexec : p.tables.exec = Jvm.exec) (hb : c.code = cc) (hl : l.stackTraces = false) {own cls text : String} {names : List String} {ik is ic mc ms sa : Nat} {A : Nat → Prop}
    (hown : s.vm.findClass own = some m.cls) (hcls : Bundle.fit cls = true) (hnames : ∀ n ∈ names, Bundle.fit n = true)
    (hk : (Cond.classLink own ik cls).before args s = true) (hini : (Cond.initialized cls).before args s = true) (hstr : vk_R own is text sa s) (hat : ∀ w ∈ vx_atS own ic cls names, w.before args s = true)
    (hgood : ∀ w ∈ Cond.classLink own ik cls :: Cond.initialized cls :: vx_atS own ic cls names, vx_ot w = true)
    (hU : vx_Zq Bundle.tN "UNASSIGNED_STACK" Bundle.steD A s s.heap) (hN : vx_Zq Bundle.tN "SUPPRESSED_SENTINEL" Bundle.listD A s s.heap) (hS : va_S A s.heap H locs) (hsize : ls.size = c.maxLocals)
    (d0 : decode cc pc = .ok (.new ik, 3)) (d3 : decode cc (pc + 3) = .ok (.dup, 1)) (d4 : decode cc (pc + 4) = .ok (.ldc_w is, 3)) (d7 : decode cc (pc + 7) = .ok (.invokespecial ic, 3)) (d10 : decode cc (pc + 10) = .ok (.athrow, 1))
    (hout : ∀ x ∈ c.exceptionTable.toList, covers x (pc + 10) = false)
    (hRframes : names.length + 3 < R.frames) (hRlocals : (rest.map fun v => v.category).sum + (13 * (names.length + 1) + 43) ≤ R.locals) (hRcells : cells + 1 ≤ R.cells) (hRslots : slots + 6 ≤ R.slots) (hlocks : meth.locks = false)
    (hx : ∀ t : State, s.vm.Alike t.vm → H.size ≤ t.heap.size → (∀ q : Nat, q < H.size → t.heap[q]? = H[q]?) → XC cls s t)
    (hf : ∀ z ∈ locs, free z.base) (hc : cells + 1 ≤ mc) (hs : slots + 6 ≤ ms) :
    W p l e R s m args below meth c H locs cells slots (vx_MQ below Qc XC args s mc ms free) (F0 m pc ls rest) := by
  intro T hT X
  have htr : e.platform.stackTraces = false := (show e.platform.stackTraces = l.stackTraces by rw [X.admits.platform]).trans hl
  have Y := vx_rebase X (R' := { frames := R.frames, locals := R.locals, cells := 1, slots := 6 }) (Nat.le_refl _) (Nat.le_refl _) hRcells hRslots
  obtain ⟨s', hA⟩ : ∃ z, z = (T.setVm s.vm).setFrames (.invoking m args :: below) := ⟨_, rfl⟩
  rw [← hA] at Y
  have hvm : s'.vm = s.vm := by rw [hA]; rfl
  have hhp : s'.heap = H := by rw [hA]; exact hT
  have hW0 : s.WarmedH s'.vm := by rw [hvm]; exact State.WarmedH.refl s
  have hat' : ∀ w ∈ vx_atS own ic cls names, w.before args s' = true := fun w hw => vx_ot_at hW0 hvm.symm (hgood w (List.mem_cons_of_mem _ (List.mem_cons_of_mem _ hw))) (hat w hw)
  have hk' : (Cond.classLink own ik cls).before args s' = true := vx_ot_at hW0 hvm.symm (hgood _ List.mem_cons_self) hk
  have hini' : (Cond.initialized cls).before args s' = true := vx_ot_at hW0 hvm.symm (hgood _ (List.mem_cons_of_mem _ List.mem_cons_self)) hini
  have hU' : vx_Zq Bundle.tN "UNASSIGNED_STACK" Bundle.steD A s' s'.heap := by rw [hhp]; exact vx_Zq.moved hW0.alike (hU.kept hS.2.1)
  have hN' : vx_Zq Bundle.tN "SUPPRESSED_SENTINEL" Bundle.listD A s' s'.heap := by rw [hhp]; exact vx_Zq.moved hW0.alike (hN.kept hS.2.1)
  have h : ∀ w ∈ Bundle.ownAtoms own ic cls names, w.before args s' = true := vx_own hat' (vx_isRefq hU'.1) (vx_isRefq hN'.1) hU'.2.word hN'.2.word
  have hown' : s'.vm.findClass own = some m.cls := by rw [hvm]; exact hown
  have hins : (Cond.instantiable cls 6).before args s' = true := h _ (by simp [Bundle.ownAtoms])
  obtain ⟨vm₁, cX, kX, hfX, hkX, -, -, X₁, st1⟩ := Y.newCold hexec (own := own) (C := cls) (index := ik) (n := 6) hown' hk' hins hini'
    (g := F0 m pc ls rest) rfl (by rw [hb]; exact d0) (Nat.le_refl _) (Nat.le_refl _)
  generalize hT1 : (T.setVm vm₁).pushCell { cls := cX, slots := kX.instanceTypes.map defaultValue, vm := .none } = T1 at X₁ st1
  have hcat : (Value.ref T.heap.size).category = 1 := rfl
  have hcellA : T1.heap[T.heap.size]? = some (freshCell cX kX) := by rw [← hT1]; exact State.heap_pushCell_size _ _
  have d3' : decode c.code (pc + 3) = .ok (.dup, 1) := by rw [hb]; exact d3
  have d4' : decode c.code (pc + 4) = .ok (.ldc_w is, 3) := by rw [hb]; exact d4
  have hstr' : vk_R own is text sa s' := vk_R.warm hW0 hstr
  obtain ⟨U, hsteps, hrun, hend, hW, hsame, ce, hce, hO⟩ := X₁.ctorThrowS hexec htr (own := own) (cls := cls) (names := names) (ic := ic) hown' hcls hnames h (fun x hx => nomatch hx) hfX hkX hcellA (by rw [hhp, hT]; exact Nat.le_refl _) (msg := .ref sa) rfl
    (g := { method := m, pc := pc + 7, locals := ls, stack := .ref sa :: .ref T.heap.size :: .ref T.heap.size :: rest, locked := none }) rfl hsize rfl rfl (rest := rest) rfl
    (by rw [hb]; exact d7) (by rw [hb]; exact d10) hout hRframes (by simp only [List.map_cons, List.sum_cons, hcat]; omega) hlocks
  obtain ⟨f1, f2⟩ := vx_frame hsame
  rw [hhp] at f1 f2
  have hWs : s.WarmedH U.vm := State.WarmedH.trans hW0 hW
  have hcl : s.vm.findClass cls = some ce.cls := by
    have h9 := hO.cls
    rw [hvm] at h9
    exact h9
  have hall : s.sameButNew ({ U with vm := s.vm } : State) locs mc ms := by
    subst hA
    obtain ⟨e1, e2⟩ := hsame
    rw [State.setFrames_setFrames] at e1
    have h2 : (T.setVm s.vm).sameButNew ({ U with vm := s.vm } : State) [] (0 + 1) (0 + 6) := ⟨e1, e2⟩
    have h3 := X.same.trans h2
    rw [List.append_nil] at h3
    exact h3.mono hc hs
  refine ⟨U, ?_, .threw T.heap.size, hrun, hend, Or.inr ⟨T.heap.size, rfl, cls, ce, locs, hx U hWs.alike f1 (fun q hq => f2 q hq (fun z hz => nomatch hz)), hce, hO.vm, hcl, hWs, hall, hf⟩⟩
  refine st1 _ ?_
  show Steps p.tables e below (T1.setTop { method := m, pc := pc + 3, locals := ls, stack := .ref T.heap.size :: rest, locked := none }) _
  jvm_step X₁.here [X₁.here.top, hexec, d3', Value.category]
  exact X₁.ldcStringW hexec (own := own) (text := text) (index := is) (a := sa) hown' hstr'.1 hstr'.2
    (g := { method := m, pc := pc + 4, locals := ls, stack := .ref T.heap.size :: .ref T.heap.size :: rest, locked := none }) rfl d4' _ hsteps
end Ends
section Bodies
variable {l : Launch}
theorem vx_ofW {y : MethodName} {ws ws' : List Cond} {rm : Room} {Pc : Array Value → State → Prop} {Qc : Array Value → State → Outcome → State → Prop} {XC : String → State → State → Prop} {mc ms : Nat} {free : Addr → Prop} {cc : ByteArray} {maxL : Nat} {ret : Option FieldType}
    (hy : plainName y.cls = true) (hw : ws = Cond.code y cc maxL ret :: ws')
    (body : ∀ p e s m args below meth c s₁, BodyLoose p l y (headSpec ws rm) cc maxL ret e s m args below meth c s₁ → c.maxLocals = maxL → (∀ x ∈ c.exceptionTable.toList, False) → Pc args s →
      W p l e (headSpec ws rm).room s m args below meth c s.heap [] 0 0 (vx_MQ below Qc XC args s mc ms free) (entryFrame m args maxL)) : vx_Met l y ws rm Pc Qc XC mc ms free := by
  refine MetFree.of_bodyS (code := cc) (maxLocals := maxL) (ret := ret) hy ?_ ?_
  · intro args s m h hn
    obtain ⟨meth, c, h1, h2, h3, h4, h5, h6, -, -⟩ := Cond.code_spec hn (atoms_spec (ws := ws) h _ (by rw [hw]; exact List.mem_cons_self))
    exact ⟨meth, c, h1, h2, h3, h4, h5, h6⟩
  · intro p e s m args below meth c s₁ B hml hP _
    have hh0 : s₁.heap = s.heap := by rw [B.state]; rfl
    have ht : ∀ x ∈ c.exceptionTable.toList, False := by
      obtain ⟨meth9, c9, h1, h2, -, -, -, -, h7, -⟩ := Cond.code_spec B.named (atoms_spec (ws := ws) B.pre _ (by rw [hw]; exact List.mem_cons_self))
      cases Option.some.inj (h1.symm.trans B.method)
      cases Option.some.inj (h2.symm.trans (Stand.of_body B).code)
      intro x hx
      rw [Array.isEmpty_iff.mp h7] at hx
      cases hx
    obtain ⟨t, a1, o, b1, b2, b3⟩ := body p e s m args below meth c s₁ B hml ht hP s₁ hh0 (Stand.of_body B)
    exact ⟨t, o, a1, b1, b2, b3⟩
/-- the table of a body with handlers -/
theorem vx_table {p : Program} {x y : MethodName} {S : Spec} {cc bytes : ByteArray} {maxL maxL' : Nat} {ret ret' : Option FieldType} {e : Env} {s s₁ : State} {m : MethodId} {args : Array Value} {below : List Frame} {meth : Method} {c : Code} {hh : List (Nat × Nat × Nat × Nat)}
    (B : BodyLoose p l y S cc maxL ret e s m args below meth c s₁) (h : (Cond.codeWith y bytes maxL' ret' hh).before args s = true) : c.exceptionTable.toList = tableOf hh := by
  obtain ⟨m9, meth9, c9, hn9, h1, h2, -, -, h6, -⟩ := Cond.codeWith_spec h
  cases Option.some.inj (hn9.symm.trans B.named)
  cases Option.some.inj (h1.symm.trans B.method)
  cases Option.some.inj (h2.symm.trans (Stand.of_body B).code)
  rw [← h6, table_eq]
end Bodies
end VXA
/-! ===== END ===== -/
/-! ===== BEGIN a static call of a method with an exception table ===== -/
section VXS
variable {p : Program} {l : Launch} {e : Env} {R : Room} {s : State} {m : MethodId} {args : Array Value} {below : List Frame} {meth : Method} {c : Code} {T : State} {H : Heap} {locs : List Loc} {cells slots : Nat}
abbrev vx_CSW (R : Room) (s : State) (args : Array Value) (own : String) (index : Nat) (y : MethodName) (bytes : ByteArray) (maxL : Nat) (ret : Option FieldType) (hh : List (Nat × Nat × Nat × Nat)) (ws : List Cond) (rm : Room) (mc ms n : Nat) : Prop :=
  (rm.cells = mc ∧ rm.slots = ms ∧ rm.frames + 1 ≤ R.frames ∧ 8 + (maxL + 11) + rm.locals ≤ R.locals ∧ (∀ w ∈ ws, ∀ (a' : Array Value) (U : State), s.WarmedH U.vm → w.before a' U = true) ∧ Cond.codeWith y bytes maxL ret hh ∈ ws) ∧
  (Cond.codeWith y bytes maxL ret hh).before args s = true ∧ (Cond.initialized y.cls).before args s = true ∧ (y.cls ≠ "java/lang/invoke/MethodHandle" ∧ y.cls ≠ "java/lang/invoke/VarHandle") ∧
  (∀ sig, parseMethodDescriptor y.desc = some sig → n = sig.parameters.length) ∧ (Cond.methodLink own index y).before args s = true ∧ (Cond.static y).before args s = true
theorem vx_cwSW {own : String} {index maxL mc ms : Nat} {y : MethodName} {bytes : ByteArray} {ret : Option FieldType} {hh : List (Nat × Nat × Nat × Nat)} {Ts ws ws' : List Cond} {rm : Room} (n : Nat) (ht : ∀ w ∈ Ts, w.before args s = true) (hT : GoodIn Ts (va_wsS own index y ws)) (hw : ws = Cond.codeWith y bytes maxL ret hh :: ws') (hrc : rm.cells = mc) (hrs : rm.slots = ms)
    (hd : y.cls ≠ "java/lang/invoke/MethodHandle" ∧ y.cls ≠ "java/lang/invoke/VarHandle" ∧ (parseMethodDescriptor y.desc).map (fun d => d.parameters.length) = some n) (hR : rm.frames + 1 ≤ R.frames ∧ 8 + (maxL + 11) + rm.locals ≤ R.locals) :
    vx_CSW R s args own index y bytes maxL ret hh ws rm mc ms n := by
  have ok : ∀ w ∈ va_wsS own index y ws, w.before args s = true := fun w h => ht w (hT w h).1
  have hG : GoodIn Ts ws := fun w h => hT w (by unfold va_wsS; exact List.mem_append_right _ h)
  have hc : Cond.codeWith y bytes maxL ret hh ∈ ws := by rw [hw]; exact List.mem_cons_self
  refine ⟨⟨hrc, hrs, hR.1, hR.2, pay_in ht hG, hc⟩, ht _ (hG _ hc).1, ok _ (by simp [va_wsS]), ⟨hd.1, hd.2.1⟩, fun sig h => ?_, ok _ (by simp [va_wsS]), ok _ (by simp [va_wsS])⟩
  have h2 := hd.2.2
  rw [h] at h2
  exact (Option.some.inj h2).symm
theorem vx_callSW (X : Stand p l e R s m args below meth c T locs cells slots) (hexec : p.tables.exec = Jvm.exec) {own : String} {index : Nat} {y : MethodName} {bytes : ByteArray} {maxL : Nat} {ret : Option FieldType} {hh : List (Nat × Nat × Nat × Nat)}
    (hown : s.vm.findClass own = some m.cls) (hlink : (Cond.methodLink own index y).before args s = true) (hstat : (Cond.static y).before args s = true) (hinit : (Cond.initialized y.cls).before args s = true)
    (hcode : (Cond.codeWith y bytes maxL ret hh).before args s = true) (hy : y.cls ≠ "java/lang/invoke/MethodHandle" ∧ y.cls ≠ "java/lang/invoke/VarHandle")
    {W9 : Nat} {Pre : Pt → Array Value → Prop} {Post : Pt → Array Value → Option Value → Pt → Prop} (hK : Back l R p e below s args y 3 W9 Pre Post)
    {g : JFrame} (hg : g.method = m) (hsize : g.locals.size = c.maxLocals) {argsL rest : List Value} (hlen : ∀ sig, parseMethodDescriptor y.desc = some sig → argsL.length = sig.parameters.length)
    (hstack : g.stack = argsL.reverse ++ rest) (hW : 2 * g.monitorRoom + (rest.map fun v => v.category).sum ≤ W9) (hdg : decode c.code g.pc = .ok (.invokestatic index, 3))
    (hpre : ∀ vm₁, s.WarmedH vm₁ → Pre ⟨T.setVm vm₁, locs, cells, slots⟩ argsL.toArray) :
    ∃ (v : Option Value) (vm₁ : Vm) (B : Pt), s.WarmedH vm₁ ∧ Stand p l e R s m args below meth c B.U B.locs B.cells B.slots ∧ Post ⟨T.setVm vm₁, locs, cells, slots⟩ argsL.toArray v B ∧
      ∀ target, Steps p.tables e below (B.U.setTop { g with pc := g.pc + 3, stack := v.toList ++ rest }) target → Steps p.tables e below (T.setTop g) target := by
  obtain ⟨mk, methM, cM, hnamed, hmethM, -, -, -, -, -, -, hsigM⟩ := Cond.codeWith_spec hcode
  have hstatic : methM.isStatic = true := Cond.static_spec hnamed hmethM hstat
  obtain ⟨kP, hkP, -⟩ := className_of_methodNamed hnamed
  have hinitP : kP.init = .initialized := Cond.initialized_spec (findClass_of_methodNamed hnamed) hkP hinit
  obtain ⟨vm₁, X₁, hstep₁⟩ := X.invokestatic hexec hown hlink hnamed hmethM hstatic hkP hinitP hy (g := g) hg (argsL := argsL) (rest := rest) (hlen _ hsigM) hstack hdg
  obtain ⟨v, B, X', hpost, hsteps⟩ := hK m meth c ⟨T.setVm vm₁, locs, cells, slots⟩ { g with stack := rest } (.invokestatic index) mk argsL.toArray X₁ hg hsize hdg hW (X₁.named hnamed) (hpre vm₁ X₁.warmed)
  exact ⟨v, vm₁, B, X₁.warmed, X', hpost, fun target h => hstep₁ _ fun acts => by rw [doInvoke_state]; exact hsteps.trans h⟩
theorem vx_runSW {y : MethodName} {bytes cc : ByteArray} {maxL nL mc ms n index : Nat} {ret : Option FieldType} {hh : List (Nat × Nat × Nat × Nat)} {ws : List Cond} {rm : Room} {Pc : Array Value → State → Prop} {Qc : Array Value → State → Outcome → State → Prop} {free : Addr → Prop} {Ts : List Cond} {own : String} {As rest : List Value} {g : JFrame}
    (S : CallFix p m c cc nL s args Ts own) (hM : Met l y ws rm Pc Qc mc ms free) (cw : vx_CSW R s args own index y bytes maxL ret hh ws rm mc ms n) (hp : PreS s H Pc As)
    (hg : g.method = m) (hn : As.length = n) (hsize : g.locals.size = nL) (hstack : g.stack = As.reverse ++ rest) (hW : 2 * g.monitorRoom + (rest.map fun v => v.category).sum ≤ 8) (hdg : decode cc g.pc = .ok (.invokestatic index, 3)) (hf : cells + mc ≤ R.cells ∧ slots + ms ≤ R.slots) :
    va_Run p l e R s m args below meth c H locs cells slots mc ms g rest (Qc As.toArray) (free) := by
  obtain ⟨⟨hrc, hrs, hfr, hlo, hws, hcw⟩, hcode, hini, hy, hlen, hl, hstt⟩ := cw
  have hK : Back l R p e below s args y 3 8 (PreOf R mc ms Pc) (PostOf Qc mc ms free) := va_backW (hh := hh) (bytes := bytes) (maxL := maxL) (ret := ret) hM hp.1 hrc hrs hfr hlo hws hcw (fun a' U hW => word_at hW (Or.inl (by first | rfl | simp [Cond.onTables, Cond.keeps, Cond.steady])) hini)
  obtain ⟨hx, hb, hml, ho, -⟩ := S
  intro T hT X
  obtain ⟨v, vm₁, ⟨U', l2, c2, s2⟩, hW₁, X', ⟨g', mk, t, L, e1, e2, hq, h1, hL, h2, h3⟩, st⟩ := vx_callSW X hx (hh := hh) (bytes := bytes) (maxL := maxL) (ret := ret) ho hl hstt hini hcode hy hK hg (hsize.trans hml.symm) (argsL := As) (rest := rest) (fun sig h => hn.trans (hlen sig h)) hstack hW (by rw [hb]; exact hdg)
    (fun vm₁ hW₁ => ⟨hf.1, hf.2, hp.2 (T.setVm vm₁) hT hW₁⟩)
  dsimp only [Pt.U, Pt.locs, Pt.cells, Pt.slots] at X' e1 e2 h1 h2 h3 st
  subst h1; subst h2; subst h3
  exact ⟨v, (T.setVm vm₁).calling g' mk As.toArray, t, U', L, hT, X', hL, e1, e2, hq, st⟩
/-- not caught here, past rows that name other classes: it goes on to the caller -/
theorem vx_outP {p : Program} {l : Launch} {e : Env} {R : Room} {s : State} {m : MethodId} {args : Array Value} {below : List Frame} {meth : Method} {c : Code} {H : Heap} {locs : List Loc} {cells slots : Nat} {free : Addr → Prop} {ls : Array Slot} {rest : List Value} {Qc : Array Value → State → Outcome → State → Prop} {XC : String → State → State → Prop}
    {pc : Nat} {own E : String} {ce : Cell} {q : Addr} {mc ms : Nat} (hown : s.vm.findClass own = some m.cls) (hlocks : meth.locks = false)
    (hpass : ∀ z ∈ c.exceptionTable.toList, covers z pc = false ∨ (z.catchType ≠ 0 ∧ ∃ nm : String, (Cond.classLink own z.catchType nm).before args s = true ∧ va_Nc E nm s)) (hcell : H[q]? = some ce) (hv : ce.vm = .none) (hcl : s.vm.findClass E = some ce.cls)
    (hx : ∀ t : State, t.heap = H → s.vm.Alike t.vm → XC E s t) (hf : ∀ z ∈ locs, free z.base) (hc : cells ≤ mc) (hs : slots ≤ ms) :
    vx_W p l e R s m args below meth c H locs cells slots (vx_MQ below Qc XC args s mc ms free) (F0 m pc ls rest) q := by
  intro T hT X
  have hpl : e.platform.magicAccessors = ({} : Platform).magicAccessors := by rw [X.admits.platform]
  obtain ⟨vm', hW', X', st⟩ := X.outThrough hlocks q (g := F0 m pc ls rest) rfl rfl rfl (cell := ce) (by rw [hT]; exact hcell) (by rw [hv]; rfl)
    (by obtain ⟨k9, h9, -⟩ := Vm.findClass_spec hcl; exact ⟨k9, h9⟩) (fun z hz => by
      rcases hpass z hz with h | ⟨hz0, nm, hl1, hn1⟩
      · exact Or.inl h
      · obtain ⟨c6, hc6, hcl6⟩ := Cond.classLink_spec hown hl1 e.platform hpl
        obtain ⟨a8, b8, h1, h2, h3⟩ := hn1
        cases Option.some.inj (h1.symm.trans hcl)
        cases Option.some.inj (h2.symm.trans hc6)
        exact Or.inr ⟨hz0, _, hcl6, h3⟩)
  obtain ⟨g₀, hfr⟩ := X'.frames_eq
  have hcell9 : ((T.setVm vm').setFrames (.throwing q :: below)).heap[q]? = some ce := by
    show T.heap[q]? = some ce
    rw [hT]; exact hcell
  have hend : Ended ((T.setVm vm').setFrames (.throwing q :: below)) below (.threw q) := State.frames_setFrames _ (State.cur_lt_of_frames hfr)
  refine ⟨(T.setVm vm').setFrames (.throwing q :: below), ?_, .threw q, X'.here.running, hend, Or.inr ⟨q, rfl, E, ce, locs, hx _ hT (X'.ends _).1.alike, hcell9, hv, hcl, (X'.ends _).1, (X'.ends _).2.mono hc hs, hf⟩⟩
  rw [X.pushThrowing_eq]
  exact st
/-- a thing of a world lies in the heap -/
theorem vx_lt {D : va_G} {cl : List vw_C} {ws : va_W} {H1 : Heap} (h : va_P D cl ws H1) {k : Nat} {q : Nat × va_E} (hk : ws[k]? = some q) : q.1 < H1.size := (h k q hk).lt
end VXS
/-! ===== END ===== -/
/-! ===== BEGIN methods with a table of their own: called by a name, returning or throwing ===== -/
section VXH
/-! vx_backW, vx_callVX, vx_callSX, vx_callVW, vx_runVW, vx_runVX, vx_runSX, vx_ofWH follow the same proofs as their sisters above (Free/Laws.lean, Shelf42/LK1.lean); vx_outP calls Shelf42/NT130.lean (outThrough). -/
section
variable {l : Launch} {R : Room} {p : Program} {e : Env} {below : List Frame} {s : State} {sargs : Array Value} {y : MethodName} {len W9 : Nat}
theorem vx_backW {ws : List Cond} {rm : Room} {Pc : Array Value → State → Prop} {Qc : Array Value → State → Outcome → State → Prop} {XC : String → State → State → Prop} {mc ms : Nat} {free : Addr → Prop} {bytes : ByteArray} {maxL : Nat} {ret : Option FieldType} {hh : List (Nat × Nat × Nat × Nat)}
    (hM : vx_Met l y ws rm Pc Qc XC mc ms free) (hblind : FrameBlind Pc) (hrc : rm.cells = mc) (hrs : rm.slots = ms)
    (hframes : rm.frames + 1 ≤ R.frames) (hlocals : W9 + (maxL + 11) + rm.locals ≤ R.locals)
    (hws : ∀ w ∈ ws, ∀ a' U, s.WarmedH U.vm → w.before a' U = true) (hcode : Cond.codeWith y bytes maxL ret hh ∈ ws) (hinit : ∀ a' U, s.WarmedH U.vm → (Cond.initialized y.cls).before a' U = true) :
    vx_Back l R p e below s sargs y len W9 (PreOf R mc ms Pc) (PostOf Qc mc ms free) (vx_Post XC mc ms free) := by
  intro m meth c A g ig mk a X hg hsize hdg hW hn hp
  have h1 : (headSpec ws rm).pre.before a A.U = true := atoms_intro fun w hw => hws w hw _ _ X.warmed
  have h2 : (Cond.codeWith y bytes maxL ret hh).before a A.U = true := hws _ hcode _ _ X.warmed
  have h3 : (Cond.initialized y.cls).before a A.U = true := hinit _ _ X.warmed
  have h4 : A.cells + (headSpec ws rm).room.cells ≤ R.cells := by rw [show (headSpec ws rm).room.cells = mc from hrc]; exact hp.1
  have h5 : A.slots + (headSpec ws rm).room.slots ≤ R.slots := by rw [show (headSpec ws rm).room.slots = ms from hrs]; exact hp.2.1
  have hPc : Pc a (A.U.calling g mk a) := hblind _ _ _ _ hp.2.2
  obtain ⟨U, Ls, c0, s0⟩ := A
  dsimp only [Pt.U, Pt.locs, Pt.cells, Pt.slots] at h1 h2 h3 h4 h5 X hn hPc ⊢
  obtain ⟨m9, methY, cY, hn9, hmY, hcY, -, hlY, -⟩ := Cond.codeWith_spec h2
  cases Option.some.inj (hn9.symm.trans hn)
  obtain ⟨kY, hkY, -⟩ := className_of_methodNamed hn
  have hinitY : kY.init = .initialized := Cond.initialized_spec (findClass_of_methodNamed hn) hkY h3
  have h : At U g.method c below := by rw [hg]; exact X.here
  have hlocals9 : W9 + (maxL + 11) + (headSpec ws rm).room.locals ≤ R.locals := hlocals
  have happ : (headSpec ws rm).appliesLoose y e.platform (U.calling g mk a) = true :=
    Spec.appliesLoose_calling (g := g) h hdg hn hkY hinitY
      (X.room_calling (g := g) (R' := (headSpec ws rm).room) hsize hmY hcY hframes (by rw [hlY]; omega) h4 h5) h1
  obtain ⟨mid, hmid⟩ := h.above
  have hfr : (U.setTop g).frames = (.java g :: mid) ++ below := by rw [State.frames_setTop' g h.top, hmid]; rfl
  obtain ⟨o, s₂, hsteps, -, hend, hq⟩ := Steps.callFree hM p X.admits X.cas X.clock (acts := []) hfr happ hPc trivial
  have hq' : vx_Q Qc XC mc ms free a (U.calling g mk a) o s₂ := hq
  rw [State.frames_setTop' g h.top] at hend
  obtain ⟨g₀, hg0⟩ := Option.isSome_iff_exists.mp h.top
  obtain ⟨r, hr⟩ := State.topJava?_eq_some.mp hg0
  have hr' : (({ U with heap := s₂.heap, slotsUsed := s₂.slotsUsed } : State).setVm s₂.vm).frames = .java g₀ :: r := hr
  rcases hq' with ⟨hqc, L, hfe, hL⟩ | ⟨q, rfl, E, ce, L, hx, hce, hcv, hcl, hW₂, hsm, hL⟩
  · obtain ⟨⟨v, rfl⟩, hW₂, e2, q2, q3, q4, q5, q6⟩ := id hfe
    have e3 : s₂ = ({ (U.calling g mk a).setFrames s₂.frames with heap := s₂.heap, slotsUsed := s₂.slotsUsed } : State).setVm s₂.vm := by
      have : s₂ = ({ s₂ with vm := (U.calling g mk a).vm } : State).setVm s₂.vm := rfl
      rw [e2] at this
      exact this
    obtain ⟨c₂, i₂, len₂, hc₂, hd₂, hf₂⟩ := hend
    have hW' : U.WarmedH s₂.vm := hW₂
    have hcc : c₂ = c := by
      have h1 : s₂.code? g.method = U.code? g.method := by
        rw [State.code?_eq, State.code?_eq, hW'.alike.method?]
      exact Option.some.inj (hc₂.symm.trans (h1.trans h.code))
    subst hcc
    have hlen : len₂ = len := by rw [hdg] at hd₂; cases hd₂; rfl
    subst hlen
    have hs₂ : s₂ = (({ U with heap := s₂.heap, slotsUsed := s₂.slotsUsed } : State).setVm s₂.vm).setTop { g with pc := g.pc + len₂, stack := v.toList ++ g.stack } := by
      refine e3.trans ?_
      rw [hf₂, State.calling_eq h.top, State.setFrames_setFrames, State.setTop_of_frames _ hr', hr]
      rfl
    have hsame : U.sameButNew ({ U with heap := s₂.heap, slotsUsed := s₂.slotsUsed } : State) L mc ms := by
      refine ⟨?_, q2, q3, q4, q5, q6⟩
      obtain ⟨t, ht, -⟩ := State.frames_cons hr
      show ({ U with heap := s₂.heap, slotsUsed := s₂.slotsUsed } : State) = { U.setFrames U.frames with heap := s₂.heap, slotsUsed := s₂.slotsUsed }
      rw [State.setFrames_self ht]
    subst hg
    refine Or.inl ⟨v, ⟨(({ U with heap := s₂.heap, slotsUsed := s₂.slotsUsed } : State).setVm s₂.vm), Ls ++ L, c0 + mc, s0 + ms⟩,
      ⟨X.admits, X.cas, X.clock, X.frames, X.room, X.hears, X.method, X.code, (X.here.setHeapUsed s₂.heap s₂.slotsUsed).setVm hW'.alike, X.tail, State.WarmedH.trans X.warmed hW', X.limits, X.bytes, X.same.trans (hsame.setVm s.vm)⟩,
      ⟨g, mk, s₂, L, rfl, rfl, hqc, rfl, hL, rfl, rfl⟩, ?_⟩
    show Steps p.tables e below _ ((({ U with heap := s₂.heap, slotsUsed := s₂.slotsUsed } : State).setVm s₂.vm).setTop { g with pc := g.pc + len₂, stack := v.toList ++ g.stack })
    rw [← hs₂]
    exact hsteps
  · obtain ⟨e2, q2, q3, q4, q5, q6⟩ := id hsm
    have e3 : s₂ = ({ (U.calling g mk a).setFrames s₂.frames with heap := s₂.heap, slotsUsed := s₂.slotsUsed } : State).setVm s₂.vm := by
      have : s₂ = ({ s₂ with vm := (U.calling g mk a).vm } : State).setVm s₂.vm := rfl
      rw [e2] at this
      exact this
    have hf₂ : s₂.frames = .throwing q :: .java g :: U.frames.tail := hend
    have hW' : U.WarmedH s₂.vm := hW₂
    have hs₂ : s₂ = ((({ U with heap := s₂.heap, slotsUsed := s₂.slotsUsed } : State).setVm s₂.vm).setTop g).pushFrame (.throwing q) := by
      refine e3.trans ?_
      rw [hf₂, State.calling_eq h.top, State.setFrames_setFrames, State.pushFrame, State.frames_setTop _ hr', State.setTop_of_frames _ hr', State.setFrames_setFrames, hr]
      rfl
    have hsame : U.sameButNew ({ U with heap := s₂.heap, slotsUsed := s₂.slotsUsed } : State) L mc ms := by
      refine ⟨?_, q2, q3, q4, q5, q6⟩
      obtain ⟨t, ht, -⟩ := State.frames_cons hr
      show ({ U with heap := s₂.heap, slotsUsed := s₂.slotsUsed } : State) = { U.setFrames U.frames with heap := s₂.heap, slotsUsed := s₂.slotsUsed }
      rw [State.setFrames_self ht]
    subst hg
    refine Or.inr ⟨q, ⟨(({ U with heap := s₂.heap, slotsUsed := s₂.slotsUsed } : State).setVm s₂.vm), Ls ++ L, c0 + mc, s0 + ms⟩,
      ⟨X.admits, X.cas, X.clock, X.frames, X.room, X.hears, X.method, X.code, (X.here.setHeapUsed s₂.heap s₂.slotsUsed).setVm hW'.alike, X.tail, State.WarmedH.trans X.warmed hW', X.limits, X.bytes, X.same.trans (hsame.setVm s.vm)⟩,
      ⟨g, mk, s₂, L, E, ce, rfl, rfl, hx, hce, hcv, hcl, rfl, hL, rfl, rfl⟩, ?_⟩
    show Steps p.tables e below _ (((({ U with heap := s₂.heap, slotsUsed := s₂.slotsUsed } : State).setVm s₂.vm).setTop g).pushFrame (.throwing q))
    rw [← hs₂]
    exact hsteps
end
variable {p : Program} {l : Launch} {e : Env} {R : Room} {s : State} {m : MethodId} {args : Array Value} {below : List Frame} {meth : Method} {c : Code} {T : State} {H : Heap} {locs : List Loc} {cells slots : Nat}
theorem vx_callVX (X : Stand p l e R s m args below meth c T locs cells slots) (hexec : p.tables.exec = Jvm.exec) {own C : String} {index : Nat} {y : MethodName} {bytes : ByteArray} {maxL : Nat} {ret : Option FieldType} {hh : List (Nat × Nat × Nat × Nat)}
    (hown : s.vm.findClass own = some m.cls) (hlink : (Cond.methodLink own index y).before args s = true) (hinst : (Cond.instanceMethod y).before args s = true) (hsel : (Cond.selects C y y).before args s = true)
    (hcode : (Cond.codeWith y bytes maxL ret hh).before args s = true) (hy : y.cls ≠ "java/lang/invoke/MethodHandle" ∧ y.cls ≠ "java/lang/invoke/VarHandle")
    {W9 : Nat} {Pre : Pt → Array Value → Prop} {Post : Pt → Array Value → Option Value → Pt → Prop} {PostX : Pt → Array Value → Addr → Pt → Prop} (hK : vx_Back l R p e below s args y 3 W9 Pre Post PostX)
    {b : Addr} {cellB : Cell} (hcell : T.heap[b]? = some cellB) (hobj : cellB.vm.isStatics = false) (hcls : s.vm.findClass C = some cellB.cls)
    {g : JFrame} (hg : g.method = m) (hsize : g.locals.size = c.maxLocals) {argsL rest : List Value} (hlen : ∀ sig, parseMethodDescriptor y.desc = some sig → argsL.length = sig.parameters.length)
    (hstack : g.stack = argsL.reverse ++ .ref b :: rest) (hW : 2 * g.monitorRoom + (rest.map fun v => v.category).sum ≤ W9) (hdg : decode c.code g.pc = .ok (.invokevirtual index, 3))
    (hpre : ∀ vm₁, s.WarmedH vm₁ → Pre ⟨T.setVm vm₁, locs, cells, slots⟩ (Value.ref b :: argsL).toArray) :
    (∃ (v : Option Value) (vm₁ : Vm) (B : Pt), s.WarmedH vm₁ ∧ Stand p l e R s m args below meth c B.U B.locs B.cells B.slots ∧ Post ⟨T.setVm vm₁, locs, cells, slots⟩ (Value.ref b :: argsL).toArray v B ∧
      ∀ target, Steps p.tables e below (B.U.setTop { g with pc := g.pc + 3, stack := v.toList ++ rest }) target → Steps p.tables e below (T.setTop g) target) ∨
    (∃ (q : Addr) (vm₁ : Vm) (B : Pt), s.WarmedH vm₁ ∧ Stand p l e R s m args below meth c B.U B.locs B.cells B.slots ∧ PostX ⟨T.setVm vm₁, locs, cells, slots⟩ (Value.ref b :: argsL).toArray q B ∧
      Steps p.tables e below (T.setTop g) ((B.U.setTop { g with stack := rest }).pushFrame (.throwing q))) := by
  obtain ⟨mk, methM, hnamed, hmethM, hstM, habM⟩ := Cond.instanceMethod_spec hinst
  obtain ⟨m8, methM', cM, hn8, hmethM', -, -, -, -, -, -, hsigM⟩ := Cond.codeWith_spec hcode
  cases Option.some.inj (hn8.symm.trans hnamed)
  cases hmethM.symm.trans hmethM'
  obtain ⟨c2, r2, m2, q1, q2, q3, q4, kP, hkP, hkPi⟩ := Cond.selects_spec hsel
  cases hcls.symm.trans q1
  cases (State.methodFound?_of_named hnamed hy).symm.trans q2
  cases hnamed.symm.trans q3
  have hselP : selectMethod e.platform s.vm cellB.cls mk = .method mk := by rw [Launch.admits_selectMethod X.admits]; exact q4
  obtain ⟨vm₁, X₁, hstep₁⟩ := X.invokevirtual hexec hown hlink hnamed hmethM hstM hkP hkPi hy (a := b) (cell := cellB) hcell
    (fun z h => by rw [h] at hobj; cases hobj) hselP hmethM habM hkP hkPi (g := g) hg (argsL := argsL) (rest := rest) (hlen _ hsigM) hstack hdg
  rcases hK m meth c ⟨T.setVm vm₁, locs, cells, slots⟩ { g with stack := rest } (.invokevirtual index) mk (Value.ref b :: argsL).toArray X₁ hg hsize hdg hW (X₁.named hnamed) (hpre vm₁ X₁.warmed) with ⟨v, B, X', hpost, hsteps⟩ | ⟨q, B, X', hpost, hsteps⟩
  · exact Or.inl ⟨v, vm₁, B, X₁.warmed, X', hpost, fun target h => hstep₁ _ fun acts => by rw [doInvoke_state]; exact hsteps.trans h⟩
  · exact Or.inr ⟨q, vm₁, B, X₁.warmed, X', hpost, hstep₁ _ fun acts => by rw [doInvoke_state]; exact hsteps⟩
theorem vx_callSX (X : Stand p l e R s m args below meth c T locs cells slots) (hexec : p.tables.exec = Jvm.exec) {own : String} {index : Nat} {y : MethodName} {bytes : ByteArray} {maxL : Nat} {ret : Option FieldType} {hh : List (Nat × Nat × Nat × Nat)}
    (hown : s.vm.findClass own = some m.cls) (hlink : (Cond.methodLink own index y).before args s = true) (hstat : (Cond.static y).before args s = true) (hinit : (Cond.initialized y.cls).before args s = true)
    (hcode : (Cond.codeWith y bytes maxL ret hh).before args s = true) (hy : y.cls ≠ "java/lang/invoke/MethodHandle" ∧ y.cls ≠ "java/lang/invoke/VarHandle")
    {W9 : Nat} {Pre : Pt → Array Value → Prop} {Post : Pt → Array Value → Option Value → Pt → Prop} {PostX : Pt → Array Value → Addr → Pt → Prop} (hK : vx_Back l R p e below s args y 3 W9 Pre Post PostX)
    {g : JFrame} (hg : g.method = m) (hsize : g.locals.size = c.maxLocals) {argsL rest : List Value} (hlen : ∀ sig, parseMethodDescriptor y.desc = some sig → argsL.length = sig.parameters.length)
    (hstack : g.stack = argsL.reverse ++ rest) (hW : 2 * g.monitorRoom + (rest.map fun v => v.category).sum ≤ W9) (hdg : decode c.code g.pc = .ok (.invokestatic index, 3))
    (hpre : ∀ vm₁, s.WarmedH vm₁ → Pre ⟨T.setVm vm₁, locs, cells, slots⟩ argsL.toArray) :
    (∃ (v : Option Value) (vm₁ : Vm) (B : Pt), s.WarmedH vm₁ ∧ Stand p l e R s m args below meth c B.U B.locs B.cells B.slots ∧ Post ⟨T.setVm vm₁, locs, cells, slots⟩ argsL.toArray v B ∧
      ∀ target, Steps p.tables e below (B.U.setTop { g with pc := g.pc + 3, stack := v.toList ++ rest }) target → Steps p.tables e below (T.setTop g) target) ∨
    (∃ (q : Addr) (vm₁ : Vm) (B : Pt), s.WarmedH vm₁ ∧ Stand p l e R s m args below meth c B.U B.locs B.cells B.slots ∧ PostX ⟨T.setVm vm₁, locs, cells, slots⟩ argsL.toArray q B ∧
      Steps p.tables e below (T.setTop g) ((B.U.setTop { g with stack := rest }).pushFrame (.throwing q))) := by
  obtain ⟨mk, methM, cM, hnamed, hmethM, -, -, -, -, -, -, hsigM⟩ := Cond.codeWith_spec hcode
  have hstatic : methM.isStatic = true := Cond.static_spec hnamed hmethM hstat
  obtain ⟨kP, hkP, -⟩ := className_of_methodNamed hnamed
  have hinitP : kP.init = .initialized := Cond.initialized_spec (findClass_of_methodNamed hnamed) hkP hinit
  obtain ⟨vm₁, X₁, hstep₁⟩ := X.invokestatic hexec hown hlink hnamed hmethM hstatic hkP hinitP hy (g := g) hg (argsL := argsL) (rest := rest) (hlen _ hsigM) hstack hdg
  rcases hK m meth c ⟨T.setVm vm₁, locs, cells, slots⟩ { g with stack := rest } (.invokestatic index) mk argsL.toArray X₁ hg hsize hdg hW (X₁.named hnamed) (hpre vm₁ X₁.warmed) with ⟨v, B, X', hpost, hsteps⟩ | ⟨q, B, X', hpost, hsteps⟩
  · exact Or.inl ⟨v, vm₁, B, X₁.warmed, X', hpost, fun target h => hstep₁ _ fun acts => by rw [doInvoke_state]; exact hsteps.trans h⟩
  · exact Or.inr ⟨q, vm₁, B, X₁.warmed, X', hpost, hstep₁ _ fun acts => by rw [doInvoke_state]; exact hsteps⟩
theorem vx_callVW (X : Stand p l e R s m args below meth c T locs cells slots) (hexec : p.tables.exec = Jvm.exec) {own C : String} {index : Nat} {y : MethodName} {bytes : ByteArray} {maxL : Nat} {ret : Option FieldType} {hh : List (Nat × Nat × Nat × Nat)}
    (hown : s.vm.findClass own = some m.cls) (hlink : (Cond.methodLink own index y).before args s = true) (hinst : (Cond.instanceMethod y).before args s = true) (hsel : (Cond.selects C y y).before args s = true)
    (hcode : (Cond.codeWith y bytes maxL ret hh).before args s = true) (hy : y.cls ≠ "java/lang/invoke/MethodHandle" ∧ y.cls ≠ "java/lang/invoke/VarHandle")
    {W9 : Nat} {Pre : Pt → Array Value → Prop} {Post : Pt → Array Value → Option Value → Pt → Prop} (hK : Back l R p e below s args y 3 W9 Pre Post)
    {b : Addr} {cellB : Cell} (hcell : T.heap[b]? = some cellB) (hobj : cellB.vm.isStatics = false) (hcls : s.vm.findClass C = some cellB.cls)
    {g : JFrame} (hg : g.method = m) (hsize : g.locals.size = c.maxLocals) {argsL rest : List Value} (hlen : ∀ sig, parseMethodDescriptor y.desc = some sig → argsL.length = sig.parameters.length)
    (hstack : g.stack = argsL.reverse ++ .ref b :: rest) (hW : 2 * g.monitorRoom + (rest.map fun v => v.category).sum ≤ W9) (hdg : decode c.code g.pc = .ok (.invokevirtual index, 3))
    (hpre : ∀ vm₁, s.WarmedH vm₁ → Pre ⟨T.setVm vm₁, locs, cells, slots⟩ (Value.ref b :: argsL).toArray) :
    ∃ (v : Option Value) (vm₁ : Vm) (B : Pt), s.WarmedH vm₁ ∧ Stand p l e R s m args below meth c B.U B.locs B.cells B.slots ∧ Post ⟨T.setVm vm₁, locs, cells, slots⟩ (Value.ref b :: argsL).toArray v B ∧
      ∀ target, Steps p.tables e below (B.U.setTop { g with pc := g.pc + 3, stack := v.toList ++ rest }) target → Steps p.tables e below (T.setTop g) target := by
  obtain ⟨mk, methM, hnamed, hmethM, hstM, habM⟩ := Cond.instanceMethod_spec hinst
  obtain ⟨m8, methM', cM, hn8, hmethM', -, -, -, -, -, -, hsigM⟩ := Cond.codeWith_spec hcode
  cases Option.some.inj (hn8.symm.trans hnamed)
  cases hmethM.symm.trans hmethM'
  obtain ⟨c2, r2, m2, q1, q2, q3, q4, kP, hkP, hkPi⟩ := Cond.selects_spec hsel
  cases hcls.symm.trans q1
  cases (State.methodFound?_of_named hnamed hy).symm.trans q2
  cases hnamed.symm.trans q3
  have hselP : selectMethod e.platform s.vm cellB.cls mk = .method mk := by rw [Launch.admits_selectMethod X.admits]; exact q4
  obtain ⟨vm₁, X₁, hstep₁⟩ := X.invokevirtual hexec hown hlink hnamed hmethM hstM hkP hkPi hy (a := b) (cell := cellB) hcell
    (fun z h => by rw [h] at hobj; cases hobj) hselP hmethM habM hkP hkPi (g := g) hg (argsL := argsL) (rest := rest) (hlen _ hsigM) hstack hdg
  obtain ⟨v, B, X', hpost, hsteps⟩ := hK m meth c ⟨T.setVm vm₁, locs, cells, slots⟩ { g with stack := rest } (.invokevirtual index) mk (Value.ref b :: argsL).toArray X₁ hg hsize hdg hW (X₁.named hnamed) (hpre vm₁ X₁.warmed)
  exact ⟨v, vm₁, B, X₁.warmed, X', hpost, fun target h => hstep₁ _ fun acts => by rw [doInvoke_state]; exact hsteps.trans h⟩
abbrev vx_CVW (R : Room) (s : State) (args : Array Value) (own C : String) (index : Nat) (y : MethodName) (bytes : ByteArray) (maxL : Nat) (ret : Option FieldType) (hh : List (Nat × Nat × Nat × Nat)) (ws : List Cond) (rm : Room) (mc ms n : Nat) : Prop :=
  (rm.cells = mc ∧ rm.slots = ms ∧ rm.frames + 1 ≤ R.frames ∧ 8 + (maxL + 11) + rm.locals ≤ R.locals ∧ (∀ w ∈ ws, ∀ (a' : Array Value) (U : State), s.WarmedH U.vm → w.before a' U = true) ∧ Cond.codeWith y bytes maxL ret hh ∈ ws) ∧
  (Cond.codeWith y bytes maxL ret hh).before args s = true ∧ (Cond.initialized y.cls).before args s = true ∧ (y.cls ≠ "java/lang/invoke/MethodHandle" ∧ y.cls ≠ "java/lang/invoke/VarHandle") ∧
  (∀ sig, parseMethodDescriptor y.desc = some sig → n = sig.parameters.length) ∧ (Cond.methodLink own index y).before args s = true ∧ (Cond.instanceMethod y).before args s = true ∧ (Cond.selects C y y).before args s = true
theorem vx_cwVW {own C : String} {index maxL mc ms : Nat} {y : MethodName} {bytes : ByteArray} {ret : Option FieldType} {hh : List (Nat × Nat × Nat × Nat)} {Ts ws ws' : List Cond} {rm : Room} (n : Nat) (ht : ∀ w ∈ Ts, w.before args s = true) (hT : GoodIn Ts (wsV own index C y ws)) (hw : ws = Cond.codeWith y bytes maxL ret hh :: ws') (hrc : rm.cells = mc) (hrs : rm.slots = ms)
    (hd : y.cls = C ∧ y.cls ≠ "java/lang/invoke/MethodHandle" ∧ y.cls ≠ "java/lang/invoke/VarHandle" ∧ (parseMethodDescriptor y.desc).map (fun d => d.parameters.length) = some n) (hR : rm.frames + 1 ≤ R.frames ∧ 8 + (maxL + 11) + rm.locals ≤ R.locals) :
    vx_CVW R s args own C index y bytes maxL ret hh ws rm mc ms n := by
  obtain ⟨hC, hd⟩ := hd
  subst hC
  have ok : ∀ w ∈ wsV own index y.cls y ws, w.before args s = true := fun w h => ht w (hT w h).1
  have hG : GoodIn Ts ws := fun w h => hT w (by unfold wsV; exact List.mem_append_right _ h)
  have hc : Cond.codeWith y bytes maxL ret hh ∈ ws := by rw [hw]; exact List.mem_cons_self
  refine ⟨⟨hrc, hrs, hR.1, hR.2, pay_in ht hG, hc⟩, ht _ (hG _ hc).1, ok _ (by simp [wsV]), ⟨hd.1, hd.2.1⟩, fun sig h => ?_, ok _ (by simp [wsV]), ok _ (by simp [wsV]), ok _ (by simp [wsV])⟩
  have h2 := hd.2.2
  rw [h] at h2
  exact (Option.some.inj h2).symm
theorem vx_runVW {y : MethodName} {bytes cc : ByteArray} {maxL nL mc ms n index : Nat} {ret : Option FieldType} {hh : List (Nat × Nat × Nat × Nat)} {ws : List Cond} {rm : Room} {Pc : Array Value → State → Prop} {Qc : Array Value → State → Outcome → State → Prop} {free : Addr → Prop} {Ts : List Cond} {own C : String} {b : Addr} {As rest : List Value} {g : JFrame}
    (S : CallFix p m c cc nL s args Ts own) (hM : Met l y ws rm Pc Qc mc ms free) (cw : vx_CVW R s args own C index y bytes maxL ret hh ws rm mc ms n) (hp : PreV s H C b Pc As)
    (hg : g.method = m) (hn : As.length = n) (hsize : g.locals.size = nL) (hstack : g.stack = As.reverse ++ .ref b :: rest) (hW : 2 * g.monitorRoom + (rest.map fun v => v.category).sum ≤ 8) (hdg : decode cc g.pc = .ok (.invokevirtual index, 3)) (hf : cells + mc ≤ R.cells ∧ slots + ms ≤ R.slots) :
    va_Run p l e R s m args below meth c H locs cells slots mc ms g rest (Qc (Value.ref b :: As).toArray) free := by
  obtain ⟨⟨hrc, hrs, hfr, hlo, hws, hcw⟩, hcode, hini, hy, hlen, hl, hin, hse⟩ := cw
  have hK : Back l R p e below s args y 3 8 (PreOf R mc ms Pc) (PostOf Qc mc ms free) := va_backW (hh := hh) (bytes := bytes) (maxL := maxL) (ret := ret) hM hp.1 hrc hrs hfr hlo hws hcw (fun a' U hW => word_at hW (Or.inl (by first | rfl | simp [Cond.onTables, Cond.keeps, Cond.steady])) hini)
  obtain ⟨hx, hb, hml, ho, -⟩ := S
  obtain ⟨-, ⟨cellB, hcB, hoB, hclB⟩, hPc⟩ := hp
  intro T hT X
  obtain ⟨v, vm₁, ⟨U', l2, c2, s2⟩, hW₁, X', ⟨g', mk, t, L, e1, e2, hq, h1, hL, h2, h3⟩, st⟩ := vx_callVW X hx (C := C) (hh := hh) (bytes := bytes) (maxL := maxL) (ret := ret) ho hl hin hse hcode hy hK (by rw [hT]; exact hcB) hoB hclB hg (hsize.trans hml.symm) (argsL := As) (rest := rest) (fun sig h => hn.trans (hlen sig h)) hstack hW (by rw [hb]; exact hdg)
    (fun vm₁ hW₁ => ⟨hf.1, hf.2, hPc (T.setVm vm₁) hT hW₁⟩)
  dsimp only [Pt.U, Pt.locs, Pt.cells, Pt.slots] at X' e1 e2 h1 h2 h3 st
  subst h1; subst h2; subst h3
  exact ⟨v, (T.setVm vm₁).calling g' mk (Value.ref b :: As).toArray, t, U', L, hT, X', hL, e1, e2, hq, st⟩
section
variable {y : MethodName} {bytes cc : ByteArray} {maxL nL mc ms n index : Nat} {ret : Option FieldType} {ws : List Cond} {rm : Room} {Pc : Array Value → State → Prop} {Qc : Array Value → State → Outcome → State → Prop} {XC : String → State → State → Prop} {free : Addr → Prop} {Ts : List Cond} {own C : String} {b : Addr} {As rest : List Value} {g : JFrame}
theorem vx_runVX {hh : List (Nat × Nat × Nat × Nat)} (S : CallFix p m c cc nL s args Ts own) (hM : vx_Met l y ws rm Pc Qc XC mc ms free) (cw : vx_CVW R s args own C index y bytes maxL ret hh ws rm mc ms n) (hp : PreV s H C b Pc As)
    (hg : g.method = m) (hn : As.length = n) (hsize : g.locals.size = nL) (hstack : g.stack = As.reverse ++ .ref b :: rest) (hW : 2 * g.monitorRoom + (rest.map fun v => v.category).sum ≤ 8) (hdg : decode cc g.pc = .ok (.invokevirtual index, 3)) (hf : cells + mc ≤ R.cells ∧ slots + ms ≤ R.slots) :
    vx_Run p l e R s m args below meth c H locs cells slots mc ms g rest (Qc (Value.ref b :: As).toArray) XC free := by
  obtain ⟨⟨hrc, hrs, hfr, hlo, hws, hcw⟩, hcode, hini, hy, hlen, hl, hin, hse⟩ := cw
  have hK : vx_Back l R p e below s args y 3 8 (PreOf R mc ms Pc) (PostOf Qc mc ms free) (vx_Post XC mc ms free) := vx_backW (hh := hh) (bytes := bytes) (maxL := maxL) (ret := ret) hM hp.1 hrc hrs hfr hlo hws hcw (fun a' U hW => word_at hW (Or.inl (by first | rfl | simp [Cond.onTables, Cond.keeps, Cond.steady])) hini)
  obtain ⟨hx, hb, hml, ho, -⟩ := S
  obtain ⟨-, ⟨cellB, hcB, hoB, hclB⟩, hPc⟩ := hp
  intro T hT X
  rcases vx_callVX X hx (C := C) (hh := hh) (bytes := bytes) (maxL := maxL) (ret := ret) ho hl hin hse hcode hy hK (by rw [hT]; exact hcB) hoB hclB hg (hsize.trans hml.symm) (argsL := As) (rest := rest) (fun sig h => hn.trans (hlen sig h)) hstack hW (by rw [hb]; exact hdg)
    (fun vm₁ hW₁ => ⟨hf.1, hf.2, hPc (T.setVm vm₁) hT hW₁⟩) with ⟨v, vm₁, ⟨U', l2, c2, s2⟩, hW₁, X', ⟨g', mk, t, L, e1, e2, hq, h1, hL, h2, h3⟩, st⟩ | ⟨q, vm₁, ⟨U', l2, c2, s2⟩, hW₁, X', ⟨g', mk, t, L, E, ce, e1, e2, hq, hce, hcv, hcl, h1, hL, h2, h3⟩, st⟩
  · dsimp only [Pt.U, Pt.locs, Pt.cells, Pt.slots] at X' e1 e2 h1 h2 h3 st
    subst h1; subst h2; subst h3
    exact Or.inl ⟨v, (T.setVm vm₁).calling g' mk (Value.ref b :: As).toArray, t, U', L, hT, X', hL, e1, e2, hq, st⟩
  · dsimp only [Pt.U, Pt.locs, Pt.cells, Pt.slots] at X' e1 e2 h1 h2 h3 st hcl
    subst h1; subst h2; subst h3
    exact Or.inr ⟨q, (T.setVm vm₁).calling g' mk (Value.ref b :: As).toArray, t, U', L, E, ce, hT, X', hL, e1, e2, hq, hce, hcv, vx_cls hW₁ hcl, st⟩
theorem vx_runSX {hh : List (Nat × Nat × Nat × Nat)} (S : CallFix p m c cc nL s args Ts own) (hM : vx_Met l y ws rm Pc Qc XC mc ms free) (cw : vx_CSW R s args own index y bytes maxL ret hh ws rm mc ms n) (hp : PreS s H Pc As)
    (hg : g.method = m) (hn : As.length = n) (hsize : g.locals.size = nL) (hstack : g.stack = As.reverse ++ rest) (hW : 2 * g.monitorRoom + (rest.map fun v => v.category).sum ≤ 8) (hdg : decode cc g.pc = .ok (.invokestatic index, 3)) (hf : cells + mc ≤ R.cells ∧ slots + ms ≤ R.slots) :
    vx_Run p l e R s m args below meth c H locs cells slots mc ms g rest (Qc As.toArray) XC free := by
  obtain ⟨⟨hrc, hrs, hfr, hlo, hws, hcw⟩, hcode, hini, hy, hlen, hl, hstt⟩ := cw
  have hK : vx_Back l R p e below s args y 3 8 (PreOf R mc ms Pc) (PostOf Qc mc ms free) (vx_Post XC mc ms free) := vx_backW (hh := hh) (bytes := bytes) (maxL := maxL) (ret := ret) hM hp.1 hrc hrs hfr hlo hws hcw (fun a' U hW => word_at hW (Or.inl (by first | rfl | simp [Cond.onTables, Cond.keeps, Cond.steady])) hini)
  obtain ⟨hx, hb, hml, ho, -⟩ := S
  intro T hT X
  rcases vx_callSX X hx (hh := hh) (bytes := bytes) (maxL := maxL) (ret := ret) ho hl hstt hini hcode hy hK hg (hsize.trans hml.symm) (argsL := As) (rest := rest) (fun sig h => hn.trans (hlen sig h)) hstack hW (by rw [hb]; exact hdg)
    (fun vm₁ hW₁ => ⟨hf.1, hf.2, hp.2 (T.setVm vm₁) hT hW₁⟩) with ⟨v, vm₁, ⟨U', l2, c2, s2⟩, hW₁, X', ⟨g', mk, t, L, e1, e2, hq, h1, hL, h2, h3⟩, st⟩ | ⟨q, vm₁, ⟨U', l2, c2, s2⟩, hW₁, X', ⟨g', mk, t, L, E, ce, e1, e2, hq, hce, hcv, hcl, h1, hL, h2, h3⟩, st⟩
  · dsimp only [Pt.U, Pt.locs, Pt.cells, Pt.slots] at X' e1 e2 h1 h2 h3 st
    subst h1; subst h2; subst h3
    exact Or.inl ⟨v, (T.setVm vm₁).calling g' mk As.toArray, t, U', L, hT, X', hL, e1, e2, hq, st⟩
  · dsimp only [Pt.U, Pt.locs, Pt.cells, Pt.slots] at X' e1 e2 h1 h2 h3 st hcl
    subst h1; subst h2; subst h3
    exact Or.inr ⟨q, (T.setVm vm₁).calling g' mk As.toArray, t, U', L, E, ce, hT, X', hL, e1, e2, hq, hce, hcv, vx_cls hW₁ hcl, st⟩
end
end VXH
theorem vx_ofWH {l : Launch} {y : MethodName} {ws ws' : List Cond} {rm : Room} {Pc : Array Value → State → Prop} {Qc : Array Value → State → Outcome → State → Prop} {XC : String → State → State → Prop} {mc ms : Nat} {free : Addr → Prop} {cc : ByteArray} {maxL : Nat} {ret : Option FieldType} {hh : List (Nat × Nat × Nat × Nat)}
    (hy : plainName y.cls = true) (hw : ws = Cond.codeWith y cc maxL ret hh :: ws')
    (body : ∀ p e s m args below meth c s₁, BodyLoose p l y (headSpec ws rm) cc maxL ret e s m args below meth c s₁ → c.maxLocals = maxL → Pc args s →
      W p l e (headSpec ws rm).room s m args below meth c s.heap [] 0 0 (vx_MQ below Qc XC args s mc ms free) (entryFrame m args maxL)) : vx_Met l y ws rm Pc Qc XC mc ms free := by
  refine MetFree.of_bodyS (code := cc) (maxLocals := maxL) (ret := ret) hy ?_ ?_
  · intro args s m h hn
    obtain ⟨m9, meth, c, hn9, h1, h2, h3, h4, -, h5, h6, -⟩ := Cond.codeWith_spec (atoms_spec (ws := ws) h _ (by rw [hw]; exact List.mem_cons_self))
    cases hn.symm.trans hn9
    exact ⟨meth, c, h1, h2, h3, h4, h5, h6⟩
  · intro p e s m args below meth c s₁ B hml hP _
    have hh0 : s₁.heap = s.heap := by rw [B.state]; rfl
    obtain ⟨t, a1, o, b1, b2, b3⟩ := body p e s m args below meth c s₁ B hml hP s₁ hh0 (Stand.of_body B)
    exact ⟨t, o, a1, b1, b2, b3⟩
/-! ===== END ===== -/
end
section
/-! the words of the tables: those that every call hands on (WS), those of nest mates (NWS) -/
def WS : List Cond := lw_tbl.filter goodWord
def nestW : Cond → Bool
  | .fieldLinkNest .. => true
  | .methodLinkNest .. => true
  | _ => false
def NWS : List Cond := lw_tbl.filter nestW
theorem ws_in {w : Cond} (i : Nat) (h : lw_tbl[i]? = some w) (g : goodWord w = true) : w ∈ WS := List.mem_filter.mpr ⟨List.mem_of_getElem? h, g⟩
theorem nws_in {w : Cond} (i : Nat) (h : lw_tbl[i]? = some w) (g : nestW w = true) : w ∈ NWS := List.mem_filter.mpr ⟨List.mem_of_getElem? h, g⟩
set_option maxRecDepth 100000 in
theorem tw_47 : Cond.initialized "PlainWarehouse" ∈ WS := ws_in 47 rfl rfl
set_option maxRecDepth 100000 in
theorem tw_48 : Cond.initialized "PlainWarehouse$House" ∈ WS := ws_in 48 rfl rfl
set_option maxRecDepth 100000 in
theorem tw_49 : Cond.initialized "PlainWarehouse$Fillings" ∈ WS := ws_in 49 rfl rfl
set_option maxRecDepth 100000 in
theorem tw_50 : Cond.initialized "PlainWarehouse$Ways" ∈ WS := ws_in 50 rfl rfl
set_option maxRecDepth 100000 in
theorem tw_51 : Cond.initialized "PlainWarehouseModel" ∈ WS := ws_in 51 rfl rfl
set_option maxRecDepth 100000 in
theorem tw_57 : Cond.initialized "java/util/Arrays" ∈ WS := ws_in 57 rfl rfl
set_option maxRecDepth 100000 in
theorem tw_59 : Cond.initialized "java/lang/Integer" ∈ WS := ws_in 59 rfl rfl
set_option maxRecDepth 100000 in
theorem tw_67 : Cond.code ({ cls := "PlainWarehouse", name := "<init>", desc := "()V" } : MethodName) prog_1_method_1_code (1 : Nat) (Option.none : Option FieldType) ∈ WS := ws_in 67 rfl rfl
set_option maxRecDepth 100000 in
theorem tw_75 : Cond.code ({ cls := "PlainWarehouse$House", name := "<init>", desc := "()V" } : MethodName) prog_3_method_1_code (1 : Nat) (Option.none : Option FieldType) ∈ WS := ws_in 75 rfl rfl
set_option maxRecDepth 100000 in
theorem tw_93 : Cond.laysFinal "PlainWarehouse$House" "PlainWarehouse$House" "placeOf" "[I" ∈ WS := ws_in 93 rfl rfl
set_option maxRecDepth 100000 in
theorem tw_95 : Cond.laysFinal "PlainWarehouse$House" "PlainWarehouse$House" "goodOf" "[I" ∈ WS := ws_in 95 rfl rfl
set_option maxRecDepth 100000 in
theorem tw_97 : Cond.laysFinal "PlainWarehouse$House" "PlainWarehouse$House" "givenTo" "[I" ∈ WS := ws_in 97 rfl rfl
set_option maxRecDepth 100000 in
theorem tw_99 : Cond.laysFinal "PlainWarehouse$House" "PlainWarehouse$House" "wanted" "[I" ∈ WS := ws_in 99 rfl rfl
set_option maxRecDepth 100000 in
theorem tw_101 : Cond.laysFinal "PlainWarehouse$House" "PlainWarehouse$House" "goodWanted" "[I" ∈ WS := ws_in 101 rfl rfl
set_option maxRecDepth 100000 in
theorem tw_103 : Cond.laysFinal "PlainWarehouse$House" "PlainWarehouse$House" "got" "[I" ∈ WS := ws_in 103 rfl rfl
set_option maxRecDepth 100000 in
theorem tw_105 : Cond.laysFinal "PlainWarehouse$House" "PlainWarehouse$House" "cents" "[I" ∈ WS := ws_in 105 rfl rfl
set_option maxRecDepth 100000 in
theorem tw_107 : Cond.laysFinal "PlainWarehouse$House" "PlainWarehouse$House" "link" "[I" ∈ WS := ws_in 107 rfl rfl
set_option maxRecDepth 100000 in
theorem tw_115 : Cond.code ({ cls := "PlainWarehouse$Fillings", name := "<init>", desc := "()V" } : MethodName) prog_2_method_1_code (1 : Nat) (Option.none : Option FieldType) ∈ WS := ws_in 115 rfl rfl
set_option maxRecDepth 100000 in
theorem tw_122 : Cond.laysFinal "PlainWarehouse$Fillings" "PlainWarehouse$Fillings" "lacking" "[I" ∈ WS := ws_in 122 rfl rfl
set_option maxRecDepth 100000 in
theorem tw_124 : Cond.laysFinal "PlainWarehouse$Fillings" "PlainWarehouse$Fillings" "goods" "[I" ∈ WS := ws_in 124 rfl rfl
set_option maxRecDepth 100000 in
theorem tw_126 : Cond.laysFinal "PlainWarehouse$Fillings" "PlainWarehouse$Fillings" "free" "[I" ∈ WS := ws_in 126 rfl rfl
set_option maxRecDepth 100000 in
theorem tw_128 : Cond.laysFinal "PlainWarehouse$Fillings" "PlainWarehouse$Fillings" "left" "[I" ∈ WS := ws_in 128 rfl rfl
set_option maxRecDepth 100000 in
theorem tw_130 : Cond.lays "PlainWarehouse$Fillings" "PlainWarehouse$Fillings" "size" "I" ∈ WS := ws_in 130 rfl rfl
set_option maxRecDepth 100000 in
theorem tw_137 : Cond.code ({ cls := "PlainWarehouse$Ways", name := "<init>", desc := "()V" } : MethodName) prog_4_method_1_code (1 : Nat) (Option.none : Option FieldType) ∈ WS := ws_in 137 rfl rfl
set_option maxRecDepth 100000 in
theorem tw_140 : Cond.laysFinal "PlainWarehouse$Ways" "PlainWarehouse$Ways" "seconds" "[I" ∈ WS := ws_in 140 rfl rfl
set_option maxRecDepth 100000 in
theorem tw_149 : Cond.laysFinal "PlainWarehouse" "PlainWarehouse" "row" "[I" ∈ WS := ws_in 149 rfl rfl
set_option maxRecDepth 100000 in
theorem tw_151 : Cond.lays "PlainWarehouse" "PlainWarehouse" "eventCount" "I" ∈ WS := ws_in 151 rfl rfl
set_option maxRecDepth 100000 in
theorem tw_153 : Cond.lays "PlainWarehouse" "PlainWarehouse" "refusedCount" "I" ∈ WS := ws_in 153 rfl rfl
set_option maxRecDepth 100000 in
theorem tw_155 : Cond.laysFinal "PlainWarehouse" "PlainWarehouse" "house" "LPlainWarehouse$House;" ∈ WS := ws_in 155 rfl rfl
set_option maxRecDepth 100000 in
theorem tw_157 : Cond.laysFinal "PlainWarehouse" "PlainWarehouse" "fillings" "LPlainWarehouse$Fillings;" ∈ WS := ws_in 157 rfl rfl
set_option maxRecDepth 100000 in
theorem tw_159 : Cond.laysFinal "PlainWarehouse" "PlainWarehouse" "ways" "LPlainWarehouse$Ways;" ∈ WS := ws_in 159 rfl rfl
set_option maxRecDepth 100000 in
theorem tw_165 : Cond.code ({ cls := "PlainWarehouse", name := "count", desc := "(I)I" } : MethodName) prog_1_method_14_code (2 : Nat) (Option.some FieldType.int) ∈ WS := ws_in 165 rfl rfl
set_option maxRecDepth 100000 in
theorem tw_169 : Cond.code ({ cls := "PlainWarehouse", name := "replay", desc := "(I)V" } : MethodName) prog_1_method_16_code (3 : Nat) (Option.none : Option FieldType) ∈ WS := ws_in 169 rfl rfl
set_option maxRecDepth 100000 in
theorem tw_173 : Cond.code ({ cls := "PlainWarehouse$House", name := "empty", desc := "()V" } : MethodName) prog_3_method_2_code (1 : Nat) (Option.none : Option FieldType) ∈ WS := ws_in 173 rfl rfl
set_option maxRecDepth 100000 in
theorem tw_176 : Cond.code ({ cls := "java/util/Arrays", name := "fill", desc := "([II)V" } : MethodName) prog_17_method_103_code (4 : Nat) (Option.none : Option FieldType) ∈ WS := ws_in 176 rfl rfl
set_option maxRecDepth 100000 in
theorem tw_180 : Cond.code ({ cls := "PlainWarehouse", name := "takeKept", desc := "(I)Z" } : MethodName) prog_1_method_17_code (3 : Nat) (Option.some FieldType.boolean) ∈ WS := ws_in 180 rfl rfl
set_option maxRecDepth 100000 in
theorem tw_184 : Cond.code ({ cls := "PlainWarehouse$House", name := "take", desc := "(IIII)Z" } : MethodName) prog_3_method_3_code (5 : Nat) (Option.some FieldType.boolean) ∈ WS := ws_in 184 rfl rfl
set_option maxRecDepth 100000 in
theorem tw_188 : Cond.code ({ cls := "PlainWarehouse$House", name := "isPossible", desc := "(III)Z" } : MethodName) prog_3_method_4_code (4 : Nat) (Option.some FieldType.boolean) ∈ WS := ws_in 188 rfl rfl
set_option maxRecDepth 100000 in
theorem tw_192 : Cond.code ({ cls := "PlainWarehouse$House", name := "isInside", desc := "(I)Z" } : MethodName) prog_3_method_8_code (2 : Nat) (Option.some FieldType.boolean) ∈ WS := ws_in 192 rfl rfl
set_option maxRecDepth 100000 in
theorem tw_196 : Cond.code ({ cls := "PlainWarehouse$House", name := "isOpen", desc := "(I)Z" } : MethodName) prog_3_method_11_code (2 : Nat) (Option.some FieldType.boolean) ∈ WS := ws_in 196 rfl rfl
set_option maxRecDepth 100000 in
theorem tw_200 : Cond.code ({ cls := "PlainWarehouse$House", name := "isTold", desc := "(I)Z" } : MethodName) prog_3_method_10_code (2 : Nat) (Option.some FieldType.boolean) ∈ WS := ws_in 200 rfl rfl
set_option maxRecDepth 100000 in
theorem tw_204 : Cond.code ({ cls := "PlainWarehouse$House", name := "isFree", desc := "(I)Z" } : MethodName) prog_3_method_9_code (2 : Nat) (Option.some FieldType.boolean) ∈ WS := ws_in 204 rfl rfl
set_option maxRecDepth 100000 in
theorem tw_208 : Cond.code ({ cls := "PlainWarehouse$House", name := "happen", desc := "(IIII)V" } : MethodName) prog_3_method_5_code (5 : Nat) (Option.none : Option FieldType) ∈ WS := ws_in 208 rfl rfl
set_option maxRecDepth 100000 in
theorem tw_212 : Cond.code ({ cls := "PlainWarehouse$House", name := "come", desc := "(III)V" } : MethodName) prog_3_method_6_code (4 : Nat) (Option.none : Option FieldType) ∈ WS := ws_in 212 rfl rfl
set_option maxRecDepth 100000 in
theorem tw_216 : Cond.code ({ cls := "PlainWarehouse$House", name := "leave", desc := "(I)V" } : MethodName) prog_3_method_7_code (2 : Nat) (Option.none : Option FieldType) ∈ WS := ws_in 216 rfl rfl
set_option maxRecDepth 100000 in
theorem tw_219 : Cond.code ({ cls := "PlainWarehouse", name := "pair", desc := "(II)I" } : MethodName) prog_1_method_29_code (2 : Nat) (Option.some FieldType.int) ∈ WS := ws_in 219 rfl rfl
set_option maxRecDepth 100000 in
theorem tw_223 : Cond.code ({ cls := "PlainWarehouse$House", name := "unitsAt", desc := "(II)I" } : MethodName) prog_3_method_13_code (5 : Nat) (Option.some FieldType.int) ∈ WS := ws_in 223 rfl rfl
set_option maxRecDepth 100000 in
theorem tw_226 : Cond.code ({ cls := "PlainWarehouse$House", name := "isAsked", desc := "(II)Z" } : MethodName) prog_3_method_14_code (2 : Nat) (Option.some FieldType.boolean) ∈ WS := ws_in 226 rfl rfl
set_option maxRecDepth 100000 in
theorem tw_230 : Cond.code ({ cls := "PlainWarehouse$House", name := "toldOrders", desc := "()I" } : MethodName) prog_3_method_17_code (3 : Nat) (Option.some FieldType.int) ∈ WS := ws_in 230 rfl rfl
set_option maxRecDepth 100000 in
theorem tw_234 : Cond.code ({ cls := "PlainWarehouse$House", name := "fullOrders", desc := "()I" } : MethodName) prog_3_method_18_code (3 : Nat) (Option.some FieldType.int) ∈ WS := ws_in 234 rfl rfl
set_option maxRecDepth 100000 in
theorem tw_238 : Cond.code ({ cls := "PlainWarehouse$House", name := "isFull", desc := "(I)Z" } : MethodName) prog_3_method_12_code (2 : Nat) (Option.some FieldType.boolean) ∈ WS := ws_in 238 rfl rfl
set_option maxRecDepth 100000 in
theorem tw_242 : Cond.code ({ cls := "PlainWarehouse$House", name := "linkedPairs", desc := "()I" } : MethodName) prog_3_method_19_code (4 : Nat) (Option.some FieldType.int) ∈ WS := ws_in 242 rfl rfl
set_option maxRecDepth 100000 in
theorem tw_251 : Cond.code ({ cls := "PlainWarehouse", name := "event", desc := "(IIII)I" } : MethodName) prog_1_method_2_code (5 : Nat) (Option.some FieldType.int) ∈ WS := ws_in 251 rfl rfl
set_option maxRecDepth 100000 in
theorem tw_254 : Cond.code ({ cls := "PlainWarehouse", name := "isInRange", desc := "(IIII)Z" } : MethodName) prog_1_method_21_code (4 : Nat) (Option.some FieldType.boolean) ∈ WS := ws_in 254 rfl rfl
set_option maxRecDepth 100000 in
theorem tw_257 : Cond.code ({ cls := "PlainWarehouse", name := "isUnit", desc := "(I)Z" } : MethodName) prog_1_method_22_code (1 : Nat) (Option.some FieldType.boolean) ∈ WS := ws_in 257 rfl rfl
set_option maxRecDepth 100000 in
theorem tw_260 : Cond.code ({ cls := "PlainWarehouse", name := "isWithin", desc := "(III)Z" } : MethodName) prog_1_method_27_code (3 : Nat) (Option.some FieldType.boolean) ∈ WS := ws_in 260 rfl rfl
set_option maxRecDepth 100000 in
theorem tw_263 : Cond.code ({ cls := "PlainWarehouse", name := "isGood", desc := "(I)Z" } : MethodName) prog_1_method_23_code (1 : Nat) (Option.some FieldType.boolean) ∈ WS := ws_in 263 rfl rfl
set_option maxRecDepth 100000 in
theorem tw_266 : Cond.code ({ cls := "PlainWarehouse", name := "isPlace", desc := "(I)Z" } : MethodName) prog_1_method_24_code (1 : Nat) (Option.some FieldType.boolean) ∈ WS := ws_in 266 rfl rfl
set_option maxRecDepth 100000 in
theorem tw_269 : Cond.code ({ cls := "PlainWarehouse", name := "isOrder", desc := "(I)Z" } : MethodName) prog_1_method_25_code (1 : Nat) (Option.some FieldType.boolean) ∈ WS := ws_in 269 rfl rfl
set_option maxRecDepth 100000 in
theorem tw_272 : Cond.code ({ cls := "PlainWarehouse", name := "isOwner", desc := "(I)Z" } : MethodName) prog_1_method_26_code (1 : Nat) (Option.some FieldType.boolean) ∈ WS := ws_in 272 rfl rfl
set_option maxRecDepth 100000 in
theorem tw_361 : Cond.code ({ cls := "PlainWarehouse", name := "keep", desc := "(IIII)V" } : MethodName) prog_1_method_15_code (6 : Nat) (Option.none : Option FieldType) ∈ WS := ws_in 361 rfl rfl
set_option maxRecDepth 100000 in
theorem tw_368 : Cond.code ({ cls := "PlainWarehouse", name := "stock", desc := "(II)I" } : MethodName) prog_1_method_3_code (3 : Nat) (Option.some FieldType.int) ∈ WS := ws_in 368 rfl rfl
set_option maxRecDepth 100000 in
theorem tw_378 : Cond.code ({ cls := "PlainWarehouse", name := "where", desc := "(II)I" } : MethodName) prog_1_method_4_code (3 : Nat) (Option.some FieldType.int) ∈ WS := ws_in 378 rfl rfl
set_option maxRecDepth 100000 in
theorem tw_382 : Cond.code ({ cls := "PlainWarehouse", name := "hasSoMany", desc := "(I)Z" } : MethodName) prog_1_method_20_code (2 : Nat) (Option.some FieldType.boolean) ∈ WS := ws_in 382 rfl rfl
set_option maxRecDepth 100000 in
theorem tw_406 : Cond.code ({ cls := "PlainWarehouse", name := "order", desc := "(II)I" } : MethodName) prog_1_method_5_code (3 : Nat) (Option.some FieldType.int) ∈ WS := ws_in 406 rfl rfl
set_option maxRecDepth 100000 in
theorem tw_413 : Cond.code ({ cls := "PlainWarehouse$House", name := "freeUnits", desc := "(I)I" } : MethodName) prog_3_method_15_code (4 : Nat) (Option.some FieldType.int) ∈ WS := ws_in 413 rfl rfl
set_option maxRecDepth 100000 in
theorem tw_421 : Cond.code ({ cls := "PlainWarehouse", name := "promise", desc := "(I)I" } : MethodName) prog_1_method_6_code (2 : Nat) (Option.some FieldType.int) ∈ WS := ws_in 421 rfl rfl
set_option maxRecDepth 100000 in
theorem tw_425 : Cond.code ({ cls := "PlainWarehouse", name := "areAllTold", desc := "(I)Z" } : MethodName) prog_1_method_18_code (3 : Nat) (Option.some FieldType.boolean) ∈ WS := ws_in 425 rfl rfl
set_option maxRecDepth 100000 in
theorem tw_428 : Cond.code ({ cls := "PlainWarehouse", name := "isInSet", desc := "(II)Z" } : MethodName) prog_1_method_28_code (2 : Nat) (Option.some FieldType.boolean) ∈ WS := ws_in 428 rfl rfl
set_option maxRecDepth 100000 in
theorem tw_432 : Cond.code ({ cls := "java/lang/Integer", name := "bitCount", desc := "(I)I" } : MethodName) prog_10_method_49_code (1 : Nat) (Option.some FieldType.int) ∈ WS := ws_in 432 rfl rfl
set_option maxRecDepth 100000 in
theorem tw_439 : Cond.code ({ cls := "PlainWarehouse$Fillings", name := "most", desc := "(LPlainWarehouse$House;I)I" } : MethodName) prog_2_method_2_code (5 : Nat) (Option.some FieldType.int) ∈ WS := ws_in 439 rfl rfl
set_option maxRecDepth 100000 in
theorem tw_443 : Cond.code ({ cls := "PlainWarehouse$Fillings", name := "countFree", desc := "(LPlainWarehouse$House;)V" } : MethodName) prog_2_method_3_code (3 : Nat) (Option.none : Option FieldType) ∈ WS := ws_in 443 rfl rfl
set_option maxRecDepth 100000 in
theorem tw_448 : Cond.code ({ cls := "PlainWarehouse$Fillings", name := "chooseOpen", desc := "(LPlainWarehouse$House;I)V" } : MethodName) prog_2_method_4_code (4 : Nat) (Option.none : Option FieldType) ∈ WS := ws_in 448 rfl rfl
set_option maxRecDepth 100000 in
theorem tw_455 : Cond.code ({ cls := "PlainWarehouse$Fillings", name := "isEnoughFor", desc := "(I)Z" } : MethodName) prog_2_method_5_code (3 : Nat) (Option.some FieldType.boolean) ∈ WS := ws_in 455 rfl rfl
set_option maxRecDepth 100000 in
theorem tw_465 : Cond.code ({ cls := "PlainWarehouse", name := "way", desc := "(II)I" } : MethodName) prog_1_method_7_code (3 : Nat) (Option.some FieldType.int) ∈ WS := ws_in 465 rfl rfl
set_option maxRecDepth 100000 in
theorem tw_469 : Cond.code ({ cls := "PlainWarehouse$Ways", name := "measure", desc := "(LPlainWarehouse$House;)V" } : MethodName) prog_4_method_2_code (4 : Nat) (Option.none : Option FieldType) ∈ WS := ws_in 469 rfl rfl
set_option maxRecDepth 100000 in
theorem tw_473 : Cond.code ({ cls := "PlainWarehouse$Ways", name := "layLinks", desc := "(LPlainWarehouse$House;)V" } : MethodName) prog_4_method_3_code (5 : Nat) (Option.none : Option FieldType) ∈ WS := ws_in 473 rfl rfl
set_option maxRecDepth 100000 in
theorem tw_479 : Cond.code ({ cls := "PlainWarehouse$Ways", name := "shortenVia", desc := "(II)V" } : MethodName) prog_4_method_4_code (6 : Nat) (Option.none : Option FieldType) ∈ WS := ws_in 479 rfl rfl
set_option maxRecDepth 100000 in
theorem tw_486 : Cond.code ({ cls := "PlainWarehouse$Ways", name := "between", desc := "(II)I" } : MethodName) prog_4_method_5_code (3 : Nat) (Option.some FieldType.int) ∈ WS := ws_in 486 rfl rfl
set_option maxRecDepth 100000 in
theorem tw_489 : Cond.code ({ cls := "PlainWarehouse", name := "orNone", desc := "(I)I" } : MethodName) prog_1_method_30_code (1 : Nat) (Option.some FieldType.int) ∈ WS := ws_in 489 rfl rfl
set_option maxRecDepth 100000 in
theorem tw_497 : Cond.code ({ cls := "PlainWarehouse", name := "walk", desc := "(II)I" } : MethodName) prog_1_method_8_code (4 : Nat) (Option.some FieldType.int) ∈ WS := ws_in 497 rfl rfl
set_option maxRecDepth 100000 in
theorem tw_501 : Cond.code ({ cls := "PlainWarehouse$House", name := "placesOfUnitsGivenTo", desc := "(I)I" } : MethodName) prog_3_method_16_code (4 : Nat) (Option.some FieldType.int) ∈ WS := ws_in 501 rfl rfl
set_option maxRecDepth 100000 in
theorem tw_505 : Cond.code ({ cls := "PlainWarehouse$Ways", name := "fewestThrough", desc := "(II)I" } : MethodName) prog_4_method_6_code (3 : Nat) (Option.some FieldType.int) ∈ WS := ws_in 505 rfl rfl
set_option maxRecDepth 100000 in
theorem tw_508 : Cond.code ({ cls := "PlainWarehouse$Ways", name := "fewest", desc := "([IIII)I" } : MethodName) prog_4_method_7_code (7 : Nat) (Option.some FieldType.int) ∈ WS := ws_in 508 rfl rfl
set_option maxRecDepth 100000 in
theorem tw_516 : Cond.code ({ cls := "PlainWarehouse", name := "money", desc := "(II)I" } : MethodName) prog_1_method_9_code (3 : Nat) (Option.some FieldType.int) ∈ WS := ws_in 516 rfl rfl
set_option maxRecDepth 100000 in
theorem tw_524 : Cond.code ({ cls := "PlainWarehouse", name := "needs", desc := "(I)I" } : MethodName) prog_1_method_10_code (4 : Nat) (Option.some FieldType.int) ∈ WS := ws_in 524 rfl rfl
set_option maxRecDepth 100000 in
theorem tw_528 : Cond.code ({ cls := "PlainWarehouse", name := "isEvent", desc := "(I)Z" } : MethodName) prog_1_method_19_code (2 : Nat) (Option.some FieldType.boolean) ∈ WS := ws_in 528 rfl rfl
set_option maxRecDepth 100000 in
theorem tw_536 : Cond.code ({ cls := "PlainWarehouse", name := "explained", desc := "(I)I" } : MethodName) prog_1_method_11_code (3 : Nat) (Option.some FieldType.int) ∈ WS := ws_in 536 rfl rfl
set_option maxRecDepth 100000 in
theorem tw_543 : Cond.code ({ cls := "PlainWarehouse", name := "told", desc := "(II)I" } : MethodName) prog_1_method_12_code (3 : Nat) (Option.some FieldType.int) ∈ WS := ws_in 543 rfl rfl
set_option maxRecDepth 100000 in
theorem tw_552 : Cond.code ({ cls := "PlainWarehouse", name := "back", desc := "()V" } : MethodName) prog_1_method_13_code (1 : Nat) (Option.none : Option FieldType) ∈ WS := ws_in 552 rfl rfl
set_option maxRecDepth 100000 in
theorem tw_573 : Cond.code ({ cls := "PlainWarehouseModel", name := "<init>", desc := "()V" } : MethodName) prog_6_method_1_code (2 : Nat) (Option.none : Option FieldType) ∈ WS := ws_in 573 rfl rfl
set_option maxRecDepth 100000 in
theorem tw_593 : Cond.lays "PlainWarehouseModel" "PlainWarehouseModel" "code" "I" ∈ WS := ws_in 593 rfl rfl
set_option maxRecDepth 100000 in
theorem tw_595 : Cond.lays "PlainWarehouseModel" "PlainWarehouseModel" "events" "I" ∈ WS := ws_in 595 rfl rfl
set_option maxRecDepth 100000 in
theorem tw_597 : Cond.lays "PlainWarehouseModel" "PlainWarehouseModel" "refused" "I" ∈ WS := ws_in 597 rfl rfl
set_option maxRecDepth 100000 in
theorem tw_599 : Cond.laysFinal "PlainWarehouseModel" "PlainWarehouseModel" "kind" "[I" ∈ WS := ws_in 599 rfl rfl
set_option maxRecDepth 100000 in
theorem tw_601 : Cond.laysFinal "PlainWarehouseModel" "PlainWarehouseModel" "a" "[I" ∈ WS := ws_in 601 rfl rfl
set_option maxRecDepth 100000 in
theorem tw_603 : Cond.laysFinal "PlainWarehouseModel" "PlainWarehouseModel" "b" "[I" ∈ WS := ws_in 603 rfl rfl
set_option maxRecDepth 100000 in
theorem tw_605 : Cond.laysFinal "PlainWarehouseModel" "PlainWarehouseModel" "c" "[I" ∈ WS := ws_in 605 rfl rfl
set_option maxRecDepth 100000 in
theorem tw_607 : Cond.laysFinal "PlainWarehouseModel" "PlainWarehouseModel" "place" "[I" ∈ WS := ws_in 607 rfl rfl
set_option maxRecDepth 100000 in
theorem tw_609 : Cond.laysFinal "PlainWarehouseModel" "PlainWarehouseModel" "good" "[I" ∈ WS := ws_in 609 rfl rfl
set_option maxRecDepth 100000 in
theorem tw_611 : Cond.laysFinal "PlainWarehouseModel" "PlainWarehouseModel" "given" "[I" ∈ WS := ws_in 611 rfl rfl
set_option maxRecDepth 100000 in
theorem tw_613 : Cond.laysFinal "PlainWarehouseModel" "PlainWarehouseModel" "wants" "[I" ∈ WS := ws_in 613 rfl rfl
set_option maxRecDepth 100000 in
theorem tw_615 : Cond.laysFinal "PlainWarehouseModel" "PlainWarehouseModel" "ofGood" "[I" ∈ WS := ws_in 615 rfl rfl
set_option maxRecDepth 100000 in
theorem tw_617 : Cond.laysFinal "PlainWarehouseModel" "PlainWarehouseModel" "got" "[I" ∈ WS := ws_in 617 rfl rfl
set_option maxRecDepth 100000 in
theorem tw_619 : Cond.laysFinal "PlainWarehouseModel" "PlainWarehouseModel" "cents" "[I" ∈ WS := ws_in 619 rfl rfl
set_option maxRecDepth 100000 in
theorem tw_621 : Cond.laysFinal "PlainWarehouseModel" "PlainWarehouseModel" "link" "[I" ∈ WS := ws_in 621 rfl rfl
set_option maxRecDepth 100000 in
theorem tw_623 : Cond.laysFinal "PlainWarehouseModel" "PlainWarehouseModel" "far" "[I" ∈ WS := ws_in 623 rfl rfl
set_option maxRecDepth 100000 in
theorem tw_625 : Cond.laysFinal "PlainWarehouseModel" "PlainWarehouseModel" "stops" "[I" ∈ WS := ws_in 625 rfl rfl
set_option maxRecDepth 100000 in
theorem tw_627 : Cond.laysFinal "PlainWarehouseModel" "PlainWarehouseModel" "costs" "[I" ∈ WS := ws_in 627 rfl rfl
set_option maxRecDepth 100000 in
theorem tw_633 : Cond.code ({ cls := "PlainWarehouseModel", name := "thrown", desc := "()I" } : MethodName) prog_6_method_2_code (1 : Nat) (Option.some FieldType.int) ∈ WS := ws_in 633 rfl rfl
set_option maxRecDepth 100000 in
theorem tw_637 : Cond.code ({ cls := "PlainWarehouseModel", name := "event", desc := "(IIII)I" } : MethodName) prog_6_method_14_code (5 : Nat) (Option.some FieldType.int) ∈ WS := ws_in 637 rfl rfl
set_option maxRecDepth 100000 in
theorem tw_640 : Cond.code ({ cls := "PlainWarehouseModel", name := "isSaid", desc := "(IIII)Z" } : MethodName) prog_6_method_7_code (4 : Nat) (Option.some FieldType.boolean) ∈ WS := ws_in 640 rfl rfl
set_option maxRecDepth 100000 in
theorem tw_643 : Cond.code ({ cls := "PlainWarehouseModel", name := "isUnit", desc := "(I)Z" } : MethodName) prog_6_method_4_code (1 : Nat) (Option.some FieldType.boolean) ∈ WS := ws_in 643 rfl rfl
set_option maxRecDepth 100000 in
theorem tw_646 : Cond.code ({ cls := "PlainWarehouseModel", name := "in", desc := "(III)Z" } : MethodName) prog_6_method_3_code (3 : Nat) (Option.some FieldType.boolean) ∈ WS := ws_in 646 rfl rfl
set_option maxRecDepth 100000 in
theorem tw_649 : Cond.code ({ cls := "PlainWarehouseModel", name := "isPlace", desc := "(I)Z" } : MethodName) prog_6_method_5_code (1 : Nat) (Option.some FieldType.boolean) ∈ WS := ws_in 649 rfl rfl
set_option maxRecDepth 100000 in
theorem tw_653 : Cond.code ({ cls := "PlainWarehouseModel", name := "can", desc := "(IIII)Z" } : MethodName) prog_6_method_11_code (5 : Nat) (Option.some FieldType.boolean) ∈ WS := ws_in 653 rfl rfl
set_option maxRecDepth 100000 in
theorem tw_657 : Cond.code ({ cls := "PlainWarehouseModel", name := "mayGo", desc := "(II)Z" } : MethodName) prog_6_method_9_code (3 : Nat) (Option.some FieldType.boolean) ∈ WS := ws_in 657 rfl rfl
set_option maxRecDepth 100000 in
theorem tw_661 : Cond.code ({ cls := "PlainWarehouseModel", name := "isOpen", desc := "(II)Z" } : MethodName) prog_6_method_8_code (3 : Nat) (Option.some FieldType.boolean) ∈ WS := ws_in 661 rfl rfl
set_option maxRecDepth 100000 in
theorem tw_665 : Cond.code ({ cls := "PlainWarehouseModel", name := "mayGive", desc := "(III)Z" } : MethodName) prog_6_method_10_code (5 : Nat) (Option.some FieldType.boolean) ∈ WS := ws_in 665 rfl rfl
set_option maxRecDepth 100000 in
theorem tw_669 : Cond.code ({ cls := "PlainWarehouseModel", name := "copy", desc := "(II)V" } : MethodName) prog_6_method_12_code (4 : Nat) (Option.none : Option FieldType) ∈ WS := ws_in 669 rfl rfl
set_option maxRecDepth 100000 in
theorem tw_673 : Cond.code ({ cls := "PlainWarehouseModel", name := "apply", desc := "(IIIII)V" } : MethodName) prog_6_method_13_code (6 : Nat) (Option.none : Option FieldType) ∈ WS := ws_in 673 rfl rfl
set_option maxRecDepth 100000 in
theorem tw_677 : Cond.code ({ cls := "PlainWarehouseModel", name := "back", desc := "()V" } : MethodName) prog_6_method_15_code (1 : Nat) (Option.none : Option FieldType) ∈ WS := ws_in 677 rfl rfl
set_option maxRecDepth 100000 in
theorem tw_681 : Cond.code ({ cls := "PlainWarehouseModel", name := "stock", desc := "(II)I" } : MethodName) prog_6_method_16_code (6 : Nat) (Option.some FieldType.int) ∈ WS := ws_in 681 rfl rfl
set_option maxRecDepth 100000 in
theorem tw_685 : Cond.code ({ cls := "PlainWarehouseModel", name := "where", desc := "(II)I" } : MethodName) prog_6_method_17_code (3 : Nat) (Option.some FieldType.int) ∈ WS := ws_in 685 rfl rfl
set_option maxRecDepth 100000 in
theorem tw_689 : Cond.code ({ cls := "PlainWarehouseModel", name := "money", desc := "(II)I" } : MethodName) prog_6_method_18_code (3 : Nat) (Option.some FieldType.int) ∈ WS := ws_in 689 rfl rfl
set_option maxRecDepth 100000 in
theorem tw_693 : Cond.code ({ cls := "PlainWarehouseModel", name := "order", desc := "(II)I" } : MethodName) prog_6_method_20_code (4 : Nat) (Option.some FieldType.int) ∈ WS := ws_in 693 rfl rfl
set_option maxRecDepth 100000 in
theorem tw_697 : Cond.code ({ cls := "PlainWarehouseModel", name := "isOrder", desc := "(I)Z" } : MethodName) prog_6_method_6_code (2 : Nat) (Option.some FieldType.boolean) ∈ WS := ws_in 697 rfl rfl
set_option maxRecDepth 100000 in
theorem tw_701 : Cond.code ({ cls := "PlainWarehouseModel", name := "freeOf", desc := "(I)I" } : MethodName) prog_6_method_19_code (4 : Nat) (Option.some FieldType.int) ∈ WS := ws_in 701 rfl rfl
set_option maxRecDepth 100000 in
theorem tw_705 : Cond.code ({ cls := "PlainWarehouseModel", name := "promise", desc := "(I)I" } : MethodName) prog_6_method_22_code (5 : Nat) (Option.some FieldType.int) ∈ WS := ws_in 705 rfl rfl
set_option maxRecDepth 100000 in
theorem tw_709 : Cond.code ({ cls := "PlainWarehouseModel", name := "filled", desc := "(II)I" } : MethodName) prog_6_method_21_code (8 : Nat) (Option.some FieldType.int) ∈ WS := ws_in 709 rfl rfl
set_option maxRecDepth 100000 in
theorem tw_713 : Cond.code ({ cls := "PlainWarehouseModel", name := "way", desc := "(II)I" } : MethodName) prog_6_method_24_code (3 : Nat) (Option.some FieldType.int) ∈ WS := ws_in 713 rfl rfl
set_option maxRecDepth 100000 in
theorem tw_717 : Cond.code ({ cls := "PlainWarehouseModel", name := "reach", desc := "()V" } : MethodName) prog_6_method_23_code (5 : Nat) (Option.none : Option FieldType) ∈ WS := ws_in 717 rfl rfl
set_option maxRecDepth 100000 in
theorem tw_722 : Cond.code ({ cls := "PlainWarehouseModel", name := "walk", desc := "(II)I" } : MethodName) prog_6_method_26_code (10 : Nat) (Option.some FieldType.int) ∈ WS := ws_in 722 rfl rfl
set_option maxRecDepth 100000 in
theorem tw_726 : Cond.code ({ cls := "PlainWarehouseModel", name := "places", desc := "(I)I" } : MethodName) prog_6_method_25_code (6 : Nat) (Option.some FieldType.int) ∈ WS := ws_in 726 rfl rfl
set_option maxRecDepth 100000 in
theorem tw_730 : Cond.code ({ cls := "PlainWarehouseModel", name := "needs", desc := "(I)I" } : MethodName) prog_6_method_29_code (2 : Nat) (Option.some FieldType.int) ∈ WS := ws_in 730 rfl rfl
set_option maxRecDepth 100000 in
theorem tw_734 : Cond.code ({ cls := "PlainWarehouseModel", name := "isEvent", desc := "(I)Z" } : MethodName) prog_6_method_28_code (2 : Nat) (Option.some FieldType.boolean) ∈ WS := ws_in 734 rfl rfl
set_option maxRecDepth 100000 in
theorem tw_738 : Cond.code ({ cls := "PlainWarehouseModel", name := "without", desc := "(IZ)I" } : MethodName) prog_6_method_27_code (5 : Nat) (Option.some FieldType.int) ∈ WS := ws_in 738 rfl rfl
set_option maxRecDepth 100000 in
theorem tw_742 : Cond.code ({ cls := "PlainWarehouseModel", name := "explained", desc := "(I)I" } : MethodName) prog_6_method_30_code (2 : Nat) (Option.some FieldType.int) ∈ WS := ws_in 742 rfl rfl
set_option maxRecDepth 100000 in
theorem tw_746 : Cond.code ({ cls := "PlainWarehouseModel", name := "told", desc := "(II)I" } : MethodName) prog_6_method_31_code (3 : Nat) (Option.some FieldType.int) ∈ WS := ws_in 746 rfl rfl
set_option maxRecDepth 100000 in
theorem tw_750 : Cond.code ({ cls := "PlainWarehouseModel", name := "count", desc := "(I)I" } : MethodName) prog_6_method_32_code (4 : Nat) (Option.some FieldType.int) ∈ WS := ws_in 750 rfl rfl
def R_P : String := "PlainWarehouse"
def T_P : u_T := fun k => match k with
  | 0 => ("PlainWarehouse", "row", "[I", true)
  | 1 => ("PlainWarehouse", "eventCount", "I", false)
  | 2 => ("PlainWarehouse", "refusedCount", "I", false)
  | 3 => ("PlainWarehouse", "house", "LPlainWarehouse$House;", true)
  | 4 => ("PlainWarehouse", "fillings", "LPlainWarehouse$Fillings;", true)
  | _ => ("PlainWarehouse", "ways", "LPlainWarehouse$Ways;", true)
def ty_P : Nat → FieldType := fun k => match k with
  | 0 => .array .int
  | 1 => .int
  | 2 => .int
  | 3 => .object "PlainWarehouse$House"
  | 4 => .object "PlainWarehouse$Fillings"
  | _ => .object "PlainWarehouse$Ways"
theorem nm_P : ∀ a, a < 6 → ∀ b, b < 6 → a ≠ b → (T_P a).2.1 ≠ (T_P b).2.1 := by decide +kernel
theorem ty_P_ok : ∀ k, k < 6 → parseFieldDescriptor (T_P k).2.2.1 = some (ty_P k) := by decide +kernel
theorem in_P : ∀ z ∈ u_ws R_P T_P 6, z ∈ WS := by
  intro z hz
  obtain ⟨k, hk, rfl⟩ := List.mem_map.mp hz
  have hk : k < 6 := List.mem_range.mp hk
  match k, hk with
  | 0, _ => exact tw_149
  | 1, _ => exact tw_151
  | 2, _ => exact tw_153
  | 3, _ => exact tw_155
  | 4, _ => exact tw_157
  | 5, _ => exact tw_159
def R_H : String := "PlainWarehouse$House"
def T_H : u_T := fun k => match k with
  | 0 => ("PlainWarehouse$House", "placeOf", "[I", true)
  | 1 => ("PlainWarehouse$House", "goodOf", "[I", true)
  | 2 => ("PlainWarehouse$House", "givenTo", "[I", true)
  | 3 => ("PlainWarehouse$House", "wanted", "[I", true)
  | 4 => ("PlainWarehouse$House", "goodWanted", "[I", true)
  | 5 => ("PlainWarehouse$House", "got", "[I", true)
  | 6 => ("PlainWarehouse$House", "cents", "[I", true)
  | _ => ("PlainWarehouse$House", "link", "[I", true)
def ty_H : Nat → FieldType := fun k => match k with
  | 0 => .array .int
  | 1 => .array .int
  | 2 => .array .int
  | 3 => .array .int
  | 4 => .array .int
  | 5 => .array .int
  | 6 => .array .int
  | _ => .array .int
theorem nm_H : ∀ a, a < 8 → ∀ b, b < 8 → a ≠ b → (T_H a).2.1 ≠ (T_H b).2.1 := by decide +kernel
theorem ty_H_ok : ∀ k, k < 8 → parseFieldDescriptor (T_H k).2.2.1 = some (ty_H k) := by decide +kernel
theorem in_H : ∀ z ∈ u_ws R_H T_H 8, z ∈ WS := by
  intro z hz
  obtain ⟨k, hk, rfl⟩ := List.mem_map.mp hz
  have hk : k < 8 := List.mem_range.mp hk
  match k, hk with
  | 0, _ => exact tw_93
  | 1, _ => exact tw_95
  | 2, _ => exact tw_97
  | 3, _ => exact tw_99
  | 4, _ => exact tw_101
  | 5, _ => exact tw_103
  | 6, _ => exact tw_105
  | 7, _ => exact tw_107
def R_F : String := "PlainWarehouse$Fillings"
def T_F : u_T := fun k => match k with
  | 0 => ("PlainWarehouse$Fillings", "lacking", "[I", true)
  | 1 => ("PlainWarehouse$Fillings", "goods", "[I", true)
  | 2 => ("PlainWarehouse$Fillings", "free", "[I", true)
  | 3 => ("PlainWarehouse$Fillings", "left", "[I", true)
  | _ => ("PlainWarehouse$Fillings", "size", "I", false)
def ty_F : Nat → FieldType := fun k => match k with
  | 0 => .array .int
  | 1 => .array .int
  | 2 => .array .int
  | 3 => .array .int
  | _ => .int
theorem nm_F : ∀ a, a < 5 → ∀ b, b < 5 → a ≠ b → (T_F a).2.1 ≠ (T_F b).2.1 := by decide +kernel
theorem ty_F_ok : ∀ k, k < 5 → parseFieldDescriptor (T_F k).2.2.1 = some (ty_F k) := by decide +kernel
theorem in_F : ∀ z ∈ u_ws R_F T_F 5, z ∈ WS := by
  intro z hz
  obtain ⟨k, hk, rfl⟩ := List.mem_map.mp hz
  have hk : k < 5 := List.mem_range.mp hk
  match k, hk with
  | 0, _ => exact tw_122
  | 1, _ => exact tw_124
  | 2, _ => exact tw_126
  | 3, _ => exact tw_128
  | 4, _ => exact tw_130
def R_Y : String := "PlainWarehouse$Ways"
def T_Y : u_T := fun k => match k with
  | _ => ("PlainWarehouse$Ways", "seconds", "[I", true)
def ty_Y : Nat → FieldType := fun k => match k with
  | _ => .array .int
theorem nm_Y : ∀ a, a < 1 → ∀ b, b < 1 → a ≠ b → (T_Y a).2.1 ≠ (T_Y b).2.1 := by decide +kernel
theorem ty_Y_ok : ∀ k, k < 1 → parseFieldDescriptor (T_Y k).2.2.1 = some (ty_Y k) := by decide +kernel
theorem in_Y : ∀ z ∈ u_ws R_Y T_Y 1, z ∈ WS := by
  intro z hz
  obtain ⟨k, hk, rfl⟩ := List.mem_map.mp hz
  have hk : k < 1 := List.mem_range.mp hk
  match k, hk with
  | 0, _ => exact tw_140
def R_M : String := "PlainWarehouseModel"
def T_M : u_T := fun k => match k with
  | 0 => ("PlainWarehouseModel", "code", "I", false)
  | 1 => ("PlainWarehouseModel", "events", "I", false)
  | 2 => ("PlainWarehouseModel", "refused", "I", false)
  | 3 => ("PlainWarehouseModel", "kind", "[I", true)
  | 4 => ("PlainWarehouseModel", "a", "[I", true)
  | 5 => ("PlainWarehouseModel", "b", "[I", true)
  | 6 => ("PlainWarehouseModel", "c", "[I", true)
  | 7 => ("PlainWarehouseModel", "place", "[I", true)
  | 8 => ("PlainWarehouseModel", "good", "[I", true)
  | 9 => ("PlainWarehouseModel", "given", "[I", true)
  | 10 => ("PlainWarehouseModel", "wants", "[I", true)
  | 11 => ("PlainWarehouseModel", "ofGood", "[I", true)
  | 12 => ("PlainWarehouseModel", "got", "[I", true)
  | 13 => ("PlainWarehouseModel", "cents", "[I", true)
  | 14 => ("PlainWarehouseModel", "link", "[I", true)
  | 15 => ("PlainWarehouseModel", "far", "[I", true)
  | 16 => ("PlainWarehouseModel", "stops", "[I", true)
  | _ => ("PlainWarehouseModel", "costs", "[I", true)
def ty_M : Nat → FieldType := fun k => match k with
  | 0 => .int
  | 1 => .int
  | 2 => .int
  | 3 => .array .int
  | 4 => .array .int
  | 5 => .array .int
  | 6 => .array .int
  | 7 => .array .int
  | 8 => .array .int
  | 9 => .array .int
  | 10 => .array .int
  | 11 => .array .int
  | 12 => .array .int
  | 13 => .array .int
  | 14 => .array .int
  | 15 => .array .int
  | 16 => .array .int
  | _ => .array .int
theorem nm_M : ∀ a, a < 18 → ∀ b, b < 18 → a ≠ b → (T_M a).2.1 ≠ (T_M b).2.1 := by decide +kernel
theorem ty_M_ok : ∀ k, k < 18 → parseFieldDescriptor (T_M k).2.2.1 = some (ty_M k) := by decide +kernel
theorem in_M : ∀ z ∈ u_ws R_M T_M 18, z ∈ WS := by
  intro z hz
  obtain ⟨k, hk, rfl⟩ := List.mem_map.mp hz
  have hk : k < 18 := List.mem_range.mp hk
  match k, hk with
  | 0, _ => exact tw_593
  | 1, _ => exact tw_595
  | 2, _ => exact tw_597
  | 3, _ => exact tw_599
  | 4, _ => exact tw_601
  | 5, _ => exact tw_603
  | 6, _ => exact tw_605
  | 7, _ => exact tw_607
  | 8, _ => exact tw_609
  | 9, _ => exact tw_611
  | 10, _ => exact tw_613
  | 11, _ => exact tw_615
  | 12, _ => exact tw_617
  | 13, _ => exact tw_619
  | 14, _ => exact tw_621
  | 15, _ => exact tw_623
  | 16, _ => exact tw_625
  | 17, _ => exact tw_627
  | k + 18, h => exact absurd h (by omega)
abbrev vwCl : List vw_C := [(R_P, T_P, 6), (R_H, T_H, 8), (R_F, T_F, 5), (R_Y, T_Y, 1), (R_M, T_M, 18)]
abbrev cc_P_init : ByteArray := prog_1_method_1_code
def y_P_init : MethodName := ⟨"PlainWarehouse", "<init>", "()V"⟩
theorem kf_P_init : Cond.code y_P_init cc_P_init 1 none ∈ WS ∧ Cond.initialized y_P_init.cls ∈ WS ∧ (y_P_init.cls ≠ "java/lang/invoke/MethodHandle" ∧ y_P_init.cls ≠ "java/lang/invoke/VarHandle" ∧ (parseMethodDescriptor y_P_init.desc).map (fun d => d.parameters.length) = some 0) := ⟨tw_67, tw_47, by decide +kernel⟩
abbrev ws_P_init : List Cond := Cond.code y_P_init cc_P_init 1 none :: WS
abbrev cc_P_event : ByteArray := prog_1_method_2_code
def y_P_event : MethodName := ⟨"PlainWarehouse", "event", "(IIII)I"⟩
theorem kf_P_event : Cond.code y_P_event cc_P_event 5 (some .int) ∈ WS ∧ Cond.initialized y_P_event.cls ∈ WS ∧ (y_P_event.cls ≠ "java/lang/invoke/MethodHandle" ∧ y_P_event.cls ≠ "java/lang/invoke/VarHandle" ∧ (parseMethodDescriptor y_P_event.desc).map (fun d => d.parameters.length) = some 4) := ⟨tw_251, tw_47, by decide +kernel⟩
abbrev ws_P_event : List Cond := Cond.code y_P_event cc_P_event 5 (some .int) :: WS
abbrev cc_P_stock : ByteArray := prog_1_method_3_code
def y_P_stock : MethodName := ⟨"PlainWarehouse", "stock", "(II)I"⟩
theorem kf_P_stock : Cond.code y_P_stock cc_P_stock 3 (some .int) ∈ WS ∧ Cond.initialized y_P_stock.cls ∈ WS ∧ (y_P_stock.cls ≠ "java/lang/invoke/MethodHandle" ∧ y_P_stock.cls ≠ "java/lang/invoke/VarHandle" ∧ (parseMethodDescriptor y_P_stock.desc).map (fun d => d.parameters.length) = some 2) := ⟨tw_368, tw_47, by decide +kernel⟩
abbrev ws_P_stock : List Cond := Cond.code y_P_stock cc_P_stock 3 (some .int) :: WS
abbrev cc_P_where : ByteArray := prog_1_method_4_code
def y_P_where : MethodName := ⟨"PlainWarehouse", "where", "(II)I"⟩
theorem kf_P_where : Cond.code y_P_where cc_P_where 3 (some .int) ∈ WS ∧ Cond.initialized y_P_where.cls ∈ WS ∧ (y_P_where.cls ≠ "java/lang/invoke/MethodHandle" ∧ y_P_where.cls ≠ "java/lang/invoke/VarHandle" ∧ (parseMethodDescriptor y_P_where.desc).map (fun d => d.parameters.length) = some 2) := ⟨tw_378, tw_47, by decide +kernel⟩
abbrev ws_P_where : List Cond := Cond.code y_P_where cc_P_where 3 (some .int) :: WS
abbrev cc_P_order : ByteArray := prog_1_method_5_code
def y_P_order : MethodName := ⟨"PlainWarehouse", "order", "(II)I"⟩
theorem kf_P_order : Cond.code y_P_order cc_P_order 3 (some .int) ∈ WS ∧ Cond.initialized y_P_order.cls ∈ WS ∧ (y_P_order.cls ≠ "java/lang/invoke/MethodHandle" ∧ y_P_order.cls ≠ "java/lang/invoke/VarHandle" ∧ (parseMethodDescriptor y_P_order.desc).map (fun d => d.parameters.length) = some 2) := ⟨tw_406, tw_47, by decide +kernel⟩
abbrev ws_P_order : List Cond := Cond.code y_P_order cc_P_order 3 (some .int) :: WS
abbrev cc_P_promise : ByteArray := prog_1_method_6_code
def y_P_promise : MethodName := ⟨"PlainWarehouse", "promise", "(I)I"⟩
theorem kf_P_promise : Cond.code y_P_promise cc_P_promise 2 (some .int) ∈ WS ∧ Cond.initialized y_P_promise.cls ∈ WS ∧ (y_P_promise.cls ≠ "java/lang/invoke/MethodHandle" ∧ y_P_promise.cls ≠ "java/lang/invoke/VarHandle" ∧ (parseMethodDescriptor y_P_promise.desc).map (fun d => d.parameters.length) = some 1) := ⟨tw_421, tw_47, by decide +kernel⟩
abbrev ws_P_promise : List Cond := Cond.code y_P_promise cc_P_promise 2 (some .int) :: WS
abbrev cc_P_way : ByteArray := prog_1_method_7_code
def y_P_way : MethodName := ⟨"PlainWarehouse", "way", "(II)I"⟩
theorem kf_P_way : Cond.code y_P_way cc_P_way 3 (some .int) ∈ WS ∧ Cond.initialized y_P_way.cls ∈ WS ∧ (y_P_way.cls ≠ "java/lang/invoke/MethodHandle" ∧ y_P_way.cls ≠ "java/lang/invoke/VarHandle" ∧ (parseMethodDescriptor y_P_way.desc).map (fun d => d.parameters.length) = some 2) := ⟨tw_465, tw_47, by decide +kernel⟩
abbrev ws_P_way : List Cond := Cond.code y_P_way cc_P_way 3 (some .int) :: WS
abbrev cc_P_walk : ByteArray := prog_1_method_8_code
def y_P_walk : MethodName := ⟨"PlainWarehouse", "walk", "(II)I"⟩
theorem kf_P_walk : Cond.code y_P_walk cc_P_walk 4 (some .int) ∈ WS ∧ Cond.initialized y_P_walk.cls ∈ WS ∧ (y_P_walk.cls ≠ "java/lang/invoke/MethodHandle" ∧ y_P_walk.cls ≠ "java/lang/invoke/VarHandle" ∧ (parseMethodDescriptor y_P_walk.desc).map (fun d => d.parameters.length) = some 2) := ⟨tw_497, tw_47, by decide +kernel⟩
abbrev ws_P_walk : List Cond := Cond.code y_P_walk cc_P_walk 4 (some .int) :: WS
abbrev cc_P_money : ByteArray := prog_1_method_9_code
def y_P_money : MethodName := ⟨"PlainWarehouse", "money", "(II)I"⟩
theorem kf_P_money : Cond.code y_P_money cc_P_money 3 (some .int) ∈ WS ∧ Cond.initialized y_P_money.cls ∈ WS ∧ (y_P_money.cls ≠ "java/lang/invoke/MethodHandle" ∧ y_P_money.cls ≠ "java/lang/invoke/VarHandle" ∧ (parseMethodDescriptor y_P_money.desc).map (fun d => d.parameters.length) = some 2) := ⟨tw_516, tw_47, by decide +kernel⟩
abbrev ws_P_money : List Cond := Cond.code y_P_money cc_P_money 3 (some .int) :: WS
abbrev cc_P_needs : ByteArray := prog_1_method_10_code
def y_P_needs : MethodName := ⟨"PlainWarehouse", "needs", "(I)I"⟩
theorem kf_P_needs : Cond.code y_P_needs cc_P_needs 4 (some .int) ∈ WS ∧ Cond.initialized y_P_needs.cls ∈ WS ∧ (y_P_needs.cls ≠ "java/lang/invoke/MethodHandle" ∧ y_P_needs.cls ≠ "java/lang/invoke/VarHandle" ∧ (parseMethodDescriptor y_P_needs.desc).map (fun d => d.parameters.length) = some 1) := ⟨tw_524, tw_47, by decide +kernel⟩
abbrev ws_P_needs : List Cond := Cond.code y_P_needs cc_P_needs 4 (some .int) :: WS
abbrev cc_P_explained : ByteArray := prog_1_method_11_code
def y_P_explained : MethodName := ⟨"PlainWarehouse", "explained", "(I)I"⟩
theorem kf_P_explained : Cond.code y_P_explained cc_P_explained 3 (some .int) ∈ WS ∧ Cond.initialized y_P_explained.cls ∈ WS ∧ (y_P_explained.cls ≠ "java/lang/invoke/MethodHandle" ∧ y_P_explained.cls ≠ "java/lang/invoke/VarHandle" ∧ (parseMethodDescriptor y_P_explained.desc).map (fun d => d.parameters.length) = some 1) := ⟨tw_536, tw_47, by decide +kernel⟩
abbrev ws_P_explained : List Cond := Cond.code y_P_explained cc_P_explained 3 (some .int) :: WS
abbrev cc_P_told : ByteArray := prog_1_method_12_code
def y_P_told : MethodName := ⟨"PlainWarehouse", "told", "(II)I"⟩
theorem kf_P_told : Cond.code y_P_told cc_P_told 3 (some .int) ∈ WS ∧ Cond.initialized y_P_told.cls ∈ WS ∧ (y_P_told.cls ≠ "java/lang/invoke/MethodHandle" ∧ y_P_told.cls ≠ "java/lang/invoke/VarHandle" ∧ (parseMethodDescriptor y_P_told.desc).map (fun d => d.parameters.length) = some 2) := ⟨tw_543, tw_47, by decide +kernel⟩
abbrev ws_P_told : List Cond := Cond.code y_P_told cc_P_told 3 (some .int) :: WS
abbrev cc_P_back : ByteArray := prog_1_method_13_code
def y_P_back : MethodName := ⟨"PlainWarehouse", "back", "()V"⟩
theorem kf_P_back : Cond.code y_P_back cc_P_back 1 none ∈ WS ∧ Cond.initialized y_P_back.cls ∈ WS ∧ (y_P_back.cls ≠ "java/lang/invoke/MethodHandle" ∧ y_P_back.cls ≠ "java/lang/invoke/VarHandle" ∧ (parseMethodDescriptor y_P_back.desc).map (fun d => d.parameters.length) = some 0) := ⟨tw_552, tw_47, by decide +kernel⟩
abbrev ws_P_back : List Cond := Cond.code y_P_back cc_P_back 1 none :: WS
abbrev cc_P_count : ByteArray := prog_1_method_14_code
def y_P_count : MethodName := ⟨"PlainWarehouse", "count", "(I)I"⟩
theorem kf_P_count : Cond.code y_P_count cc_P_count 2 (some .int) ∈ WS ∧ Cond.initialized y_P_count.cls ∈ WS ∧ (y_P_count.cls ≠ "java/lang/invoke/MethodHandle" ∧ y_P_count.cls ≠ "java/lang/invoke/VarHandle" ∧ (parseMethodDescriptor y_P_count.desc).map (fun d => d.parameters.length) = some 1) := ⟨tw_165, tw_47, by decide +kernel⟩
abbrev ws_P_count : List Cond := Cond.code y_P_count cc_P_count 2 (some .int) :: WS
abbrev cc_P_keep : ByteArray := prog_1_method_15_code
def y_P_keep : MethodName := ⟨"PlainWarehouse", "keep", "(IIII)V"⟩
theorem kf_P_keep : Cond.code y_P_keep cc_P_keep 6 none ∈ WS ∧ Cond.initialized y_P_keep.cls ∈ WS ∧ (y_P_keep.cls ≠ "java/lang/invoke/MethodHandle" ∧ y_P_keep.cls ≠ "java/lang/invoke/VarHandle" ∧ (parseMethodDescriptor y_P_keep.desc).map (fun d => d.parameters.length) = some 4) := ⟨tw_361, tw_47, by decide +kernel⟩
abbrev ws_P_keep : List Cond := Cond.code y_P_keep cc_P_keep 6 none :: WS
abbrev cc_P_replay : ByteArray := prog_1_method_16_code
def y_P_replay : MethodName := ⟨"PlainWarehouse", "replay", "(I)V"⟩
theorem kf_P_replay : Cond.code y_P_replay cc_P_replay 3 none ∈ WS ∧ Cond.initialized y_P_replay.cls ∈ WS ∧ (y_P_replay.cls ≠ "java/lang/invoke/MethodHandle" ∧ y_P_replay.cls ≠ "java/lang/invoke/VarHandle" ∧ (parseMethodDescriptor y_P_replay.desc).map (fun d => d.parameters.length) = some 1) := ⟨tw_169, tw_47, by decide +kernel⟩
abbrev ws_P_replay : List Cond := Cond.code y_P_replay cc_P_replay 3 none :: WS
abbrev cc_P_takeKept : ByteArray := prog_1_method_17_code
def y_P_takeKept : MethodName := ⟨"PlainWarehouse", "takeKept", "(I)Z"⟩
theorem kf_P_takeKept : Cond.code y_P_takeKept cc_P_takeKept 3 (some .boolean) ∈ WS ∧ Cond.initialized y_P_takeKept.cls ∈ WS ∧ (y_P_takeKept.cls ≠ "java/lang/invoke/MethodHandle" ∧ y_P_takeKept.cls ≠ "java/lang/invoke/VarHandle" ∧ (parseMethodDescriptor y_P_takeKept.desc).map (fun d => d.parameters.length) = some 1) := ⟨tw_180, tw_47, by decide +kernel⟩
abbrev ws_P_takeKept : List Cond := Cond.code y_P_takeKept cc_P_takeKept 3 (some .boolean) :: WS
abbrev cc_P_areAllTold : ByteArray := prog_1_method_18_code
def y_P_areAllTold : MethodName := ⟨"PlainWarehouse", "areAllTold", "(I)Z"⟩
theorem kf_P_areAllTold : Cond.code y_P_areAllTold cc_P_areAllTold 3 (some .boolean) ∈ WS ∧ Cond.initialized y_P_areAllTold.cls ∈ WS ∧ (y_P_areAllTold.cls ≠ "java/lang/invoke/MethodHandle" ∧ y_P_areAllTold.cls ≠ "java/lang/invoke/VarHandle" ∧ (parseMethodDescriptor y_P_areAllTold.desc).map (fun d => d.parameters.length) = some 1) := ⟨tw_425, tw_47, by decide +kernel⟩
abbrev ws_P_areAllTold : List Cond := Cond.code y_P_areAllTold cc_P_areAllTold 3 (some .boolean) :: WS
abbrev cc_P_isEvent : ByteArray := prog_1_method_19_code
def y_P_isEvent : MethodName := ⟨"PlainWarehouse", "isEvent", "(I)Z"⟩
theorem kf_P_isEvent : Cond.code y_P_isEvent cc_P_isEvent 2 (some .boolean) ∈ WS ∧ Cond.initialized y_P_isEvent.cls ∈ WS ∧ (y_P_isEvent.cls ≠ "java/lang/invoke/MethodHandle" ∧ y_P_isEvent.cls ≠ "java/lang/invoke/VarHandle" ∧ (parseMethodDescriptor y_P_isEvent.desc).map (fun d => d.parameters.length) = some 1) := ⟨tw_528, tw_47, by decide +kernel⟩
abbrev ws_P_isEvent : List Cond := Cond.code y_P_isEvent cc_P_isEvent 2 (some .boolean) :: WS
abbrev cc_P_hasSoMany : ByteArray := prog_1_method_20_code
def y_P_hasSoMany : MethodName := ⟨"PlainWarehouse", "hasSoMany", "(I)Z"⟩
theorem kf_P_hasSoMany : Cond.code y_P_hasSoMany cc_P_hasSoMany 2 (some .boolean) ∈ WS ∧ Cond.initialized y_P_hasSoMany.cls ∈ WS ∧ (y_P_hasSoMany.cls ≠ "java/lang/invoke/MethodHandle" ∧ y_P_hasSoMany.cls ≠ "java/lang/invoke/VarHandle" ∧ (parseMethodDescriptor y_P_hasSoMany.desc).map (fun d => d.parameters.length) = some 1) := ⟨tw_382, tw_47, by decide +kernel⟩
abbrev ws_P_hasSoMany : List Cond := Cond.code y_P_hasSoMany cc_P_hasSoMany 2 (some .boolean) :: WS
abbrev cc_P_isInRange : ByteArray := prog_1_method_21_code
def y_P_isInRange : MethodName := ⟨"PlainWarehouse", "isInRange", "(IIII)Z"⟩
theorem kf_P_isInRange : Cond.code y_P_isInRange cc_P_isInRange 4 (some .boolean) ∈ WS ∧ Cond.initialized y_P_isInRange.cls ∈ WS ∧ (y_P_isInRange.cls ≠ "java/lang/invoke/MethodHandle" ∧ y_P_isInRange.cls ≠ "java/lang/invoke/VarHandle" ∧ (parseMethodDescriptor y_P_isInRange.desc).map (fun d => d.parameters.length) = some 4) := ⟨tw_254, tw_47, by decide +kernel⟩
abbrev ws_P_isInRange : List Cond := Cond.code y_P_isInRange cc_P_isInRange 4 (some .boolean) :: WS
abbrev cc_P_isUnit : ByteArray := prog_1_method_22_code
def y_P_isUnit : MethodName := ⟨"PlainWarehouse", "isUnit", "(I)Z"⟩
theorem kf_P_isUnit : Cond.code y_P_isUnit cc_P_isUnit 1 (some .boolean) ∈ WS ∧ Cond.initialized y_P_isUnit.cls ∈ WS ∧ (y_P_isUnit.cls ≠ "java/lang/invoke/MethodHandle" ∧ y_P_isUnit.cls ≠ "java/lang/invoke/VarHandle" ∧ (parseMethodDescriptor y_P_isUnit.desc).map (fun d => d.parameters.length) = some 1) := ⟨tw_257, tw_47, by decide +kernel⟩
abbrev ws_P_isUnit : List Cond := Cond.code y_P_isUnit cc_P_isUnit 1 (some .boolean) :: WS
abbrev cc_P_isGood : ByteArray := prog_1_method_23_code
def y_P_isGood : MethodName := ⟨"PlainWarehouse", "isGood", "(I)Z"⟩
theorem kf_P_isGood : Cond.code y_P_isGood cc_P_isGood 1 (some .boolean) ∈ WS ∧ Cond.initialized y_P_isGood.cls ∈ WS ∧ (y_P_isGood.cls ≠ "java/lang/invoke/MethodHandle" ∧ y_P_isGood.cls ≠ "java/lang/invoke/VarHandle" ∧ (parseMethodDescriptor y_P_isGood.desc).map (fun d => d.parameters.length) = some 1) := ⟨tw_263, tw_47, by decide +kernel⟩
abbrev ws_P_isGood : List Cond := Cond.code y_P_isGood cc_P_isGood 1 (some .boolean) :: WS
abbrev cc_P_isPlace : ByteArray := prog_1_method_24_code
def y_P_isPlace : MethodName := ⟨"PlainWarehouse", "isPlace", "(I)Z"⟩
theorem kf_P_isPlace : Cond.code y_P_isPlace cc_P_isPlace 1 (some .boolean) ∈ WS ∧ Cond.initialized y_P_isPlace.cls ∈ WS ∧ (y_P_isPlace.cls ≠ "java/lang/invoke/MethodHandle" ∧ y_P_isPlace.cls ≠ "java/lang/invoke/VarHandle" ∧ (parseMethodDescriptor y_P_isPlace.desc).map (fun d => d.parameters.length) = some 1) := ⟨tw_266, tw_47, by decide +kernel⟩
abbrev ws_P_isPlace : List Cond := Cond.code y_P_isPlace cc_P_isPlace 1 (some .boolean) :: WS
abbrev cc_P_isOrder : ByteArray := prog_1_method_25_code
def y_P_isOrder : MethodName := ⟨"PlainWarehouse", "isOrder", "(I)Z"⟩
theorem kf_P_isOrder : Cond.code y_P_isOrder cc_P_isOrder 1 (some .boolean) ∈ WS ∧ Cond.initialized y_P_isOrder.cls ∈ WS ∧ (y_P_isOrder.cls ≠ "java/lang/invoke/MethodHandle" ∧ y_P_isOrder.cls ≠ "java/lang/invoke/VarHandle" ∧ (parseMethodDescriptor y_P_isOrder.desc).map (fun d => d.parameters.length) = some 1) := ⟨tw_269, tw_47, by decide +kernel⟩
abbrev ws_P_isOrder : List Cond := Cond.code y_P_isOrder cc_P_isOrder 1 (some .boolean) :: WS
abbrev cc_P_isOwner : ByteArray := prog_1_method_26_code
def y_P_isOwner : MethodName := ⟨"PlainWarehouse", "isOwner", "(I)Z"⟩
theorem kf_P_isOwner : Cond.code y_P_isOwner cc_P_isOwner 1 (some .boolean) ∈ WS ∧ Cond.initialized y_P_isOwner.cls ∈ WS ∧ (y_P_isOwner.cls ≠ "java/lang/invoke/MethodHandle" ∧ y_P_isOwner.cls ≠ "java/lang/invoke/VarHandle" ∧ (parseMethodDescriptor y_P_isOwner.desc).map (fun d => d.parameters.length) = some 1) := ⟨tw_272, tw_47, by decide +kernel⟩
abbrev ws_P_isOwner : List Cond := Cond.code y_P_isOwner cc_P_isOwner 1 (some .boolean) :: WS
abbrev cc_P_isWithin : ByteArray := prog_1_method_27_code
def y_P_isWithin : MethodName := ⟨"PlainWarehouse", "isWithin", "(III)Z"⟩
theorem kf_P_isWithin : Cond.code y_P_isWithin cc_P_isWithin 3 (some .boolean) ∈ WS ∧ Cond.initialized y_P_isWithin.cls ∈ WS ∧ (y_P_isWithin.cls ≠ "java/lang/invoke/MethodHandle" ∧ y_P_isWithin.cls ≠ "java/lang/invoke/VarHandle" ∧ (parseMethodDescriptor y_P_isWithin.desc).map (fun d => d.parameters.length) = some 3) := ⟨tw_260, tw_47, by decide +kernel⟩
abbrev ws_P_isWithin : List Cond := Cond.code y_P_isWithin cc_P_isWithin 3 (some .boolean) :: WS
abbrev cc_P_isInSet : ByteArray := prog_1_method_28_code
def y_P_isInSet : MethodName := ⟨"PlainWarehouse", "isInSet", "(II)Z"⟩
theorem kf_P_isInSet : Cond.code y_P_isInSet cc_P_isInSet 2 (some .boolean) ∈ WS ∧ Cond.initialized y_P_isInSet.cls ∈ WS ∧ (y_P_isInSet.cls ≠ "java/lang/invoke/MethodHandle" ∧ y_P_isInSet.cls ≠ "java/lang/invoke/VarHandle" ∧ (parseMethodDescriptor y_P_isInSet.desc).map (fun d => d.parameters.length) = some 2) := ⟨tw_428, tw_47, by decide +kernel⟩
abbrev ws_P_isInSet : List Cond := Cond.code y_P_isInSet cc_P_isInSet 2 (some .boolean) :: WS
abbrev cc_P_pair : ByteArray := prog_1_method_29_code
def y_P_pair : MethodName := ⟨"PlainWarehouse", "pair", "(II)I"⟩
theorem kf_P_pair : Cond.code y_P_pair cc_P_pair 2 (some .int) ∈ WS ∧ Cond.initialized y_P_pair.cls ∈ WS ∧ (y_P_pair.cls ≠ "java/lang/invoke/MethodHandle" ∧ y_P_pair.cls ≠ "java/lang/invoke/VarHandle" ∧ (parseMethodDescriptor y_P_pair.desc).map (fun d => d.parameters.length) = some 2) := ⟨tw_219, tw_47, by decide +kernel⟩
abbrev ws_P_pair : List Cond := Cond.code y_P_pair cc_P_pair 2 (some .int) :: WS
abbrev cc_P_orNone : ByteArray := prog_1_method_30_code
def y_P_orNone : MethodName := ⟨"PlainWarehouse", "orNone", "(I)I"⟩
theorem kf_P_orNone : Cond.code y_P_orNone cc_P_orNone 1 (some .int) ∈ WS ∧ Cond.initialized y_P_orNone.cls ∈ WS ∧ (y_P_orNone.cls ≠ "java/lang/invoke/MethodHandle" ∧ y_P_orNone.cls ≠ "java/lang/invoke/VarHandle" ∧ (parseMethodDescriptor y_P_orNone.desc).map (fun d => d.parameters.length) = some 1) := ⟨tw_489, tw_47, by decide +kernel⟩
abbrev ws_P_orNone : List Cond := Cond.code y_P_orNone cc_P_orNone 1 (some .int) :: WS
abbrev cc_M_init : ByteArray := prog_6_method_1_code
def y_M_init : MethodName := ⟨"PlainWarehouseModel", "<init>", "()V"⟩
theorem kf_M_init : Cond.code y_M_init cc_M_init 2 none ∈ WS ∧ Cond.initialized y_M_init.cls ∈ WS ∧ (y_M_init.cls ≠ "java/lang/invoke/MethodHandle" ∧ y_M_init.cls ≠ "java/lang/invoke/VarHandle" ∧ (parseMethodDescriptor y_M_init.desc).map (fun d => d.parameters.length) = some 0) := ⟨tw_573, tw_51, by decide +kernel⟩
abbrev ws_M_init : List Cond := Cond.code y_M_init cc_M_init 2 none :: WS
abbrev cc_M_thrown : ByteArray := prog_6_method_2_code
def y_M_thrown : MethodName := ⟨"PlainWarehouseModel", "thrown", "()I"⟩
theorem kf_M_thrown : Cond.code y_M_thrown cc_M_thrown 1 (some .int) ∈ WS ∧ Cond.initialized y_M_thrown.cls ∈ WS ∧ (y_M_thrown.cls ≠ "java/lang/invoke/MethodHandle" ∧ y_M_thrown.cls ≠ "java/lang/invoke/VarHandle" ∧ (parseMethodDescriptor y_M_thrown.desc).map (fun d => d.parameters.length) = some 0) := ⟨tw_633, tw_51, by decide +kernel⟩
abbrev ws_M_thrown : List Cond := Cond.code y_M_thrown cc_M_thrown 1 (some .int) :: WS
abbrev cc_M_in : ByteArray := prog_6_method_3_code
def y_M_in : MethodName := ⟨"PlainWarehouseModel", "in", "(III)Z"⟩
theorem kf_M_in : Cond.code y_M_in cc_M_in 3 (some .boolean) ∈ WS ∧ Cond.initialized y_M_in.cls ∈ WS ∧ (y_M_in.cls ≠ "java/lang/invoke/MethodHandle" ∧ y_M_in.cls ≠ "java/lang/invoke/VarHandle" ∧ (parseMethodDescriptor y_M_in.desc).map (fun d => d.parameters.length) = some 3) := ⟨tw_646, tw_51, by decide +kernel⟩
abbrev ws_M_in : List Cond := Cond.code y_M_in cc_M_in 3 (some .boolean) :: WS
abbrev cc_M_isUnit : ByteArray := prog_6_method_4_code
def y_M_isUnit : MethodName := ⟨"PlainWarehouseModel", "isUnit", "(I)Z"⟩
theorem kf_M_isUnit : Cond.code y_M_isUnit cc_M_isUnit 1 (some .boolean) ∈ WS ∧ Cond.initialized y_M_isUnit.cls ∈ WS ∧ (y_M_isUnit.cls ≠ "java/lang/invoke/MethodHandle" ∧ y_M_isUnit.cls ≠ "java/lang/invoke/VarHandle" ∧ (parseMethodDescriptor y_M_isUnit.desc).map (fun d => d.parameters.length) = some 1) := ⟨tw_643, tw_51, by decide +kernel⟩
abbrev ws_M_isUnit : List Cond := Cond.code y_M_isUnit cc_M_isUnit 1 (some .boolean) :: WS
abbrev cc_M_isPlace : ByteArray := prog_6_method_5_code
def y_M_isPlace : MethodName := ⟨"PlainWarehouseModel", "isPlace", "(I)Z"⟩
theorem kf_M_isPlace : Cond.code y_M_isPlace cc_M_isPlace 1 (some .boolean) ∈ WS ∧ Cond.initialized y_M_isPlace.cls ∈ WS ∧ (y_M_isPlace.cls ≠ "java/lang/invoke/MethodHandle" ∧ y_M_isPlace.cls ≠ "java/lang/invoke/VarHandle" ∧ (parseMethodDescriptor y_M_isPlace.desc).map (fun d => d.parameters.length) = some 1) := ⟨tw_649, tw_51, by decide +kernel⟩
abbrev ws_M_isPlace : List Cond := Cond.code y_M_isPlace cc_M_isPlace 1 (some .boolean) :: WS
abbrev cc_M_isOrder : ByteArray := prog_6_method_6_code
def y_M_isOrder : MethodName := ⟨"PlainWarehouseModel", "isOrder", "(I)Z"⟩
theorem kf_M_isOrder : Cond.code y_M_isOrder cc_M_isOrder 2 (some .boolean) ∈ WS ∧ Cond.initialized y_M_isOrder.cls ∈ WS ∧ (y_M_isOrder.cls ≠ "java/lang/invoke/MethodHandle" ∧ y_M_isOrder.cls ≠ "java/lang/invoke/VarHandle" ∧ (parseMethodDescriptor y_M_isOrder.desc).map (fun d => d.parameters.length) = some 1) := ⟨tw_697, tw_51, by decide +kernel⟩
abbrev ws_M_isOrder : List Cond := Cond.code y_M_isOrder cc_M_isOrder 2 (some .boolean) :: WS
abbrev cc_M_isSaid : ByteArray := prog_6_method_7_code
def y_M_isSaid : MethodName := ⟨"PlainWarehouseModel", "isSaid", "(IIII)Z"⟩
theorem kf_M_isSaid : Cond.code y_M_isSaid cc_M_isSaid 4 (some .boolean) ∈ WS ∧ Cond.initialized y_M_isSaid.cls ∈ WS ∧ (y_M_isSaid.cls ≠ "java/lang/invoke/MethodHandle" ∧ y_M_isSaid.cls ≠ "java/lang/invoke/VarHandle" ∧ (parseMethodDescriptor y_M_isSaid.desc).map (fun d => d.parameters.length) = some 4) := ⟨tw_640, tw_51, by decide +kernel⟩
abbrev ws_M_isSaid : List Cond := Cond.code y_M_isSaid cc_M_isSaid 4 (some .boolean) :: WS
abbrev cc_M_isOpen : ByteArray := prog_6_method_8_code
def y_M_isOpen : MethodName := ⟨"PlainWarehouseModel", "isOpen", "(II)Z"⟩
theorem kf_M_isOpen : Cond.code y_M_isOpen cc_M_isOpen 3 (some .boolean) ∈ WS ∧ Cond.initialized y_M_isOpen.cls ∈ WS ∧ (y_M_isOpen.cls ≠ "java/lang/invoke/MethodHandle" ∧ y_M_isOpen.cls ≠ "java/lang/invoke/VarHandle" ∧ (parseMethodDescriptor y_M_isOpen.desc).map (fun d => d.parameters.length) = some 2) := ⟨tw_661, tw_51, by decide +kernel⟩
abbrev ws_M_isOpen : List Cond := Cond.code y_M_isOpen cc_M_isOpen 3 (some .boolean) :: WS
abbrev cc_M_mayGo : ByteArray := prog_6_method_9_code
def y_M_mayGo : MethodName := ⟨"PlainWarehouseModel", "mayGo", "(II)Z"⟩
theorem kf_M_mayGo : Cond.code y_M_mayGo cc_M_mayGo 3 (some .boolean) ∈ WS ∧ Cond.initialized y_M_mayGo.cls ∈ WS ∧ (y_M_mayGo.cls ≠ "java/lang/invoke/MethodHandle" ∧ y_M_mayGo.cls ≠ "java/lang/invoke/VarHandle" ∧ (parseMethodDescriptor y_M_mayGo.desc).map (fun d => d.parameters.length) = some 2) := ⟨tw_657, tw_51, by decide +kernel⟩
abbrev ws_M_mayGo : List Cond := Cond.code y_M_mayGo cc_M_mayGo 3 (some .boolean) :: WS
abbrev cc_M_mayGive : ByteArray := prog_6_method_10_code
def y_M_mayGive : MethodName := ⟨"PlainWarehouseModel", "mayGive", "(III)Z"⟩
theorem kf_M_mayGive : Cond.code y_M_mayGive cc_M_mayGive 5 (some .boolean) ∈ WS ∧ Cond.initialized y_M_mayGive.cls ∈ WS ∧ (y_M_mayGive.cls ≠ "java/lang/invoke/MethodHandle" ∧ y_M_mayGive.cls ≠ "java/lang/invoke/VarHandle" ∧ (parseMethodDescriptor y_M_mayGive.desc).map (fun d => d.parameters.length) = some 3) := ⟨tw_665, tw_51, by decide +kernel⟩
abbrev ws_M_mayGive : List Cond := Cond.code y_M_mayGive cc_M_mayGive 5 (some .boolean) :: WS
abbrev cc_M_can : ByteArray := prog_6_method_11_code
def y_M_can : MethodName := ⟨"PlainWarehouseModel", "can", "(IIII)Z"⟩
theorem kf_M_can : Cond.code y_M_can cc_M_can 5 (some .boolean) ∈ WS ∧ Cond.initialized y_M_can.cls ∈ WS ∧ (y_M_can.cls ≠ "java/lang/invoke/MethodHandle" ∧ y_M_can.cls ≠ "java/lang/invoke/VarHandle" ∧ (parseMethodDescriptor y_M_can.desc).map (fun d => d.parameters.length) = some 4) := ⟨tw_653, tw_51, by decide +kernel⟩
abbrev ws_M_can : List Cond := Cond.code y_M_can cc_M_can 5 (some .boolean) :: WS
abbrev cc_M_copy : ByteArray := prog_6_method_12_code
def y_M_copy : MethodName := ⟨"PlainWarehouseModel", "copy", "(II)V"⟩
theorem kf_M_copy : Cond.code y_M_copy cc_M_copy 4 none ∈ WS ∧ Cond.initialized y_M_copy.cls ∈ WS ∧ (y_M_copy.cls ≠ "java/lang/invoke/MethodHandle" ∧ y_M_copy.cls ≠ "java/lang/invoke/VarHandle" ∧ (parseMethodDescriptor y_M_copy.desc).map (fun d => d.parameters.length) = some 2) := ⟨tw_669, tw_51, by decide +kernel⟩
abbrev ws_M_copy : List Cond := Cond.code y_M_copy cc_M_copy 4 none :: WS
abbrev cc_M_apply : ByteArray := prog_6_method_13_code
def y_M_apply : MethodName := ⟨"PlainWarehouseModel", "apply", "(IIIII)V"⟩
theorem kf_M_apply : Cond.code y_M_apply cc_M_apply 6 none ∈ WS ∧ Cond.initialized y_M_apply.cls ∈ WS ∧ (y_M_apply.cls ≠ "java/lang/invoke/MethodHandle" ∧ y_M_apply.cls ≠ "java/lang/invoke/VarHandle" ∧ (parseMethodDescriptor y_M_apply.desc).map (fun d => d.parameters.length) = some 5) := ⟨tw_673, tw_51, by decide +kernel⟩
abbrev ws_M_apply : List Cond := Cond.code y_M_apply cc_M_apply 6 none :: WS
abbrev cc_M_event : ByteArray := prog_6_method_14_code
def y_M_event : MethodName := ⟨"PlainWarehouseModel", "event", "(IIII)I"⟩
theorem kf_M_event : Cond.code y_M_event cc_M_event 5 (some .int) ∈ WS ∧ Cond.initialized y_M_event.cls ∈ WS ∧ (y_M_event.cls ≠ "java/lang/invoke/MethodHandle" ∧ y_M_event.cls ≠ "java/lang/invoke/VarHandle" ∧ (parseMethodDescriptor y_M_event.desc).map (fun d => d.parameters.length) = some 4) := ⟨tw_637, tw_51, by decide +kernel⟩
abbrev ws_M_event : List Cond := Cond.code y_M_event cc_M_event 5 (some .int) :: WS
abbrev cc_M_back : ByteArray := prog_6_method_15_code
def y_M_back : MethodName := ⟨"PlainWarehouseModel", "back", "()V"⟩
theorem kf_M_back : Cond.code y_M_back cc_M_back 1 none ∈ WS ∧ Cond.initialized y_M_back.cls ∈ WS ∧ (y_M_back.cls ≠ "java/lang/invoke/MethodHandle" ∧ y_M_back.cls ≠ "java/lang/invoke/VarHandle" ∧ (parseMethodDescriptor y_M_back.desc).map (fun d => d.parameters.length) = some 0) := ⟨tw_677, tw_51, by decide +kernel⟩
abbrev ws_M_back : List Cond := Cond.code y_M_back cc_M_back 1 none :: WS
abbrev cc_M_stock : ByteArray := prog_6_method_16_code
def y_M_stock : MethodName := ⟨"PlainWarehouseModel", "stock", "(II)I"⟩
theorem kf_M_stock : Cond.code y_M_stock cc_M_stock 6 (some .int) ∈ WS ∧ Cond.initialized y_M_stock.cls ∈ WS ∧ (y_M_stock.cls ≠ "java/lang/invoke/MethodHandle" ∧ y_M_stock.cls ≠ "java/lang/invoke/VarHandle" ∧ (parseMethodDescriptor y_M_stock.desc).map (fun d => d.parameters.length) = some 2) := ⟨tw_681, tw_51, by decide +kernel⟩
abbrev ws_M_stock : List Cond := Cond.code y_M_stock cc_M_stock 6 (some .int) :: WS
abbrev cc_M_where : ByteArray := prog_6_method_17_code
def y_M_where : MethodName := ⟨"PlainWarehouseModel", "where", "(II)I"⟩
theorem kf_M_where : Cond.code y_M_where cc_M_where 3 (some .int) ∈ WS ∧ Cond.initialized y_M_where.cls ∈ WS ∧ (y_M_where.cls ≠ "java/lang/invoke/MethodHandle" ∧ y_M_where.cls ≠ "java/lang/invoke/VarHandle" ∧ (parseMethodDescriptor y_M_where.desc).map (fun d => d.parameters.length) = some 2) := ⟨tw_685, tw_51, by decide +kernel⟩
abbrev ws_M_where : List Cond := Cond.code y_M_where cc_M_where 3 (some .int) :: WS
abbrev cc_M_money : ByteArray := prog_6_method_18_code
def y_M_money : MethodName := ⟨"PlainWarehouseModel", "money", "(II)I"⟩
theorem kf_M_money : Cond.code y_M_money cc_M_money 3 (some .int) ∈ WS ∧ Cond.initialized y_M_money.cls ∈ WS ∧ (y_M_money.cls ≠ "java/lang/invoke/MethodHandle" ∧ y_M_money.cls ≠ "java/lang/invoke/VarHandle" ∧ (parseMethodDescriptor y_M_money.desc).map (fun d => d.parameters.length) = some 2) := ⟨tw_689, tw_51, by decide +kernel⟩
abbrev ws_M_money : List Cond := Cond.code y_M_money cc_M_money 3 (some .int) :: WS
abbrev cc_M_freeOf : ByteArray := prog_6_method_19_code
def y_M_freeOf : MethodName := ⟨"PlainWarehouseModel", "freeOf", "(I)I"⟩
theorem kf_M_freeOf : Cond.code y_M_freeOf cc_M_freeOf 4 (some .int) ∈ WS ∧ Cond.initialized y_M_freeOf.cls ∈ WS ∧ (y_M_freeOf.cls ≠ "java/lang/invoke/MethodHandle" ∧ y_M_freeOf.cls ≠ "java/lang/invoke/VarHandle" ∧ (parseMethodDescriptor y_M_freeOf.desc).map (fun d => d.parameters.length) = some 1) := ⟨tw_701, tw_51, by decide +kernel⟩
abbrev ws_M_freeOf : List Cond := Cond.code y_M_freeOf cc_M_freeOf 4 (some .int) :: WS
abbrev cc_M_order : ByteArray := prog_6_method_20_code
def y_M_order : MethodName := ⟨"PlainWarehouseModel", "order", "(II)I"⟩
theorem kf_M_order : Cond.code y_M_order cc_M_order 4 (some .int) ∈ WS ∧ Cond.initialized y_M_order.cls ∈ WS ∧ (y_M_order.cls ≠ "java/lang/invoke/MethodHandle" ∧ y_M_order.cls ≠ "java/lang/invoke/VarHandle" ∧ (parseMethodDescriptor y_M_order.desc).map (fun d => d.parameters.length) = some 2) := ⟨tw_693, tw_51, by decide +kernel⟩
abbrev ws_M_order : List Cond := Cond.code y_M_order cc_M_order 4 (some .int) :: WS
abbrev cc_M_filled : ByteArray := prog_6_method_21_code
def y_M_filled : MethodName := ⟨"PlainWarehouseModel", "filled", "(II)I"⟩
theorem kf_M_filled : Cond.code y_M_filled cc_M_filled 8 (some .int) ∈ WS ∧ Cond.initialized y_M_filled.cls ∈ WS ∧ (y_M_filled.cls ≠ "java/lang/invoke/MethodHandle" ∧ y_M_filled.cls ≠ "java/lang/invoke/VarHandle" ∧ (parseMethodDescriptor y_M_filled.desc).map (fun d => d.parameters.length) = some 2) := ⟨tw_709, tw_51, by decide +kernel⟩
abbrev ws_M_filled : List Cond := Cond.code y_M_filled cc_M_filled 8 (some .int) :: WS
abbrev cc_M_promise : ByteArray := prog_6_method_22_code
def y_M_promise : MethodName := ⟨"PlainWarehouseModel", "promise", "(I)I"⟩
theorem kf_M_promise : Cond.code y_M_promise cc_M_promise 5 (some .int) ∈ WS ∧ Cond.initialized y_M_promise.cls ∈ WS ∧ (y_M_promise.cls ≠ "java/lang/invoke/MethodHandle" ∧ y_M_promise.cls ≠ "java/lang/invoke/VarHandle" ∧ (parseMethodDescriptor y_M_promise.desc).map (fun d => d.parameters.length) = some 1) := ⟨tw_705, tw_51, by decide +kernel⟩
abbrev ws_M_promise : List Cond := Cond.code y_M_promise cc_M_promise 5 (some .int) :: WS
abbrev cc_M_reach : ByteArray := prog_6_method_23_code
def y_M_reach : MethodName := ⟨"PlainWarehouseModel", "reach", "()V"⟩
theorem kf_M_reach : Cond.code y_M_reach cc_M_reach 5 none ∈ WS ∧ Cond.initialized y_M_reach.cls ∈ WS ∧ (y_M_reach.cls ≠ "java/lang/invoke/MethodHandle" ∧ y_M_reach.cls ≠ "java/lang/invoke/VarHandle" ∧ (parseMethodDescriptor y_M_reach.desc).map (fun d => d.parameters.length) = some 0) := ⟨tw_717, tw_51, by decide +kernel⟩
abbrev ws_M_reach : List Cond := Cond.code y_M_reach cc_M_reach 5 none :: WS
abbrev cc_M_way : ByteArray := prog_6_method_24_code
def y_M_way : MethodName := ⟨"PlainWarehouseModel", "way", "(II)I"⟩
theorem kf_M_way : Cond.code y_M_way cc_M_way 3 (some .int) ∈ WS ∧ Cond.initialized y_M_way.cls ∈ WS ∧ (y_M_way.cls ≠ "java/lang/invoke/MethodHandle" ∧ y_M_way.cls ≠ "java/lang/invoke/VarHandle" ∧ (parseMethodDescriptor y_M_way.desc).map (fun d => d.parameters.length) = some 2) := ⟨tw_713, tw_51, by decide +kernel⟩
abbrev ws_M_way : List Cond := Cond.code y_M_way cc_M_way 3 (some .int) :: WS
abbrev cc_M_places : ByteArray := prog_6_method_25_code
def y_M_places : MethodName := ⟨"PlainWarehouseModel", "places", "(I)I"⟩
theorem kf_M_places : Cond.code y_M_places cc_M_places 6 (some .int) ∈ WS ∧ Cond.initialized y_M_places.cls ∈ WS ∧ (y_M_places.cls ≠ "java/lang/invoke/MethodHandle" ∧ y_M_places.cls ≠ "java/lang/invoke/VarHandle" ∧ (parseMethodDescriptor y_M_places.desc).map (fun d => d.parameters.length) = some 1) := ⟨tw_726, tw_51, by decide +kernel⟩
abbrev ws_M_places : List Cond := Cond.code y_M_places cc_M_places 6 (some .int) :: WS
abbrev cc_M_walk : ByteArray := prog_6_method_26_code
def y_M_walk : MethodName := ⟨"PlainWarehouseModel", "walk", "(II)I"⟩
theorem kf_M_walk : Cond.code y_M_walk cc_M_walk 10 (some .int) ∈ WS ∧ Cond.initialized y_M_walk.cls ∈ WS ∧ (y_M_walk.cls ≠ "java/lang/invoke/MethodHandle" ∧ y_M_walk.cls ≠ "java/lang/invoke/VarHandle" ∧ (parseMethodDescriptor y_M_walk.desc).map (fun d => d.parameters.length) = some 2) := ⟨tw_722, tw_51, by decide +kernel⟩
abbrev ws_M_walk : List Cond := Cond.code y_M_walk cc_M_walk 10 (some .int) :: WS
abbrev cc_M_without : ByteArray := prog_6_method_27_code
def y_M_without : MethodName := ⟨"PlainWarehouseModel", "without", "(IZ)I"⟩
theorem kf_M_without : Cond.code y_M_without cc_M_without 5 (some .int) ∈ WS ∧ Cond.initialized y_M_without.cls ∈ WS ∧ (y_M_without.cls ≠ "java/lang/invoke/MethodHandle" ∧ y_M_without.cls ≠ "java/lang/invoke/VarHandle" ∧ (parseMethodDescriptor y_M_without.desc).map (fun d => d.parameters.length) = some 2) := ⟨tw_738, tw_51, by decide +kernel⟩
abbrev ws_M_without : List Cond := Cond.code y_M_without cc_M_without 5 (some .int) :: WS
abbrev cc_M_isEvent : ByteArray := prog_6_method_28_code
def y_M_isEvent : MethodName := ⟨"PlainWarehouseModel", "isEvent", "(I)Z"⟩
theorem kf_M_isEvent : Cond.code y_M_isEvent cc_M_isEvent 2 (some .boolean) ∈ WS ∧ Cond.initialized y_M_isEvent.cls ∈ WS ∧ (y_M_isEvent.cls ≠ "java/lang/invoke/MethodHandle" ∧ y_M_isEvent.cls ≠ "java/lang/invoke/VarHandle" ∧ (parseMethodDescriptor y_M_isEvent.desc).map (fun d => d.parameters.length) = some 1) := ⟨tw_734, tw_51, by decide +kernel⟩
abbrev ws_M_isEvent : List Cond := Cond.code y_M_isEvent cc_M_isEvent 2 (some .boolean) :: WS
abbrev cc_M_needs : ByteArray := prog_6_method_29_code
def y_M_needs : MethodName := ⟨"PlainWarehouseModel", "needs", "(I)I"⟩
theorem kf_M_needs : Cond.code y_M_needs cc_M_needs 2 (some .int) ∈ WS ∧ Cond.initialized y_M_needs.cls ∈ WS ∧ (y_M_needs.cls ≠ "java/lang/invoke/MethodHandle" ∧ y_M_needs.cls ≠ "java/lang/invoke/VarHandle" ∧ (parseMethodDescriptor y_M_needs.desc).map (fun d => d.parameters.length) = some 1) := ⟨tw_730, tw_51, by decide +kernel⟩
abbrev ws_M_needs : List Cond := Cond.code y_M_needs cc_M_needs 2 (some .int) :: WS
abbrev cc_M_explained : ByteArray := prog_6_method_30_code
def y_M_explained : MethodName := ⟨"PlainWarehouseModel", "explained", "(I)I"⟩
theorem kf_M_explained : Cond.code y_M_explained cc_M_explained 2 (some .int) ∈ WS ∧ Cond.initialized y_M_explained.cls ∈ WS ∧ (y_M_explained.cls ≠ "java/lang/invoke/MethodHandle" ∧ y_M_explained.cls ≠ "java/lang/invoke/VarHandle" ∧ (parseMethodDescriptor y_M_explained.desc).map (fun d => d.parameters.length) = some 1) := ⟨tw_742, tw_51, by decide +kernel⟩
abbrev ws_M_explained : List Cond := Cond.code y_M_explained cc_M_explained 2 (some .int) :: WS
abbrev cc_M_told : ByteArray := prog_6_method_31_code
def y_M_told : MethodName := ⟨"PlainWarehouseModel", "told", "(II)I"⟩
theorem kf_M_told : Cond.code y_M_told cc_M_told 3 (some .int) ∈ WS ∧ Cond.initialized y_M_told.cls ∈ WS ∧ (y_M_told.cls ≠ "java/lang/invoke/MethodHandle" ∧ y_M_told.cls ≠ "java/lang/invoke/VarHandle" ∧ (parseMethodDescriptor y_M_told.desc).map (fun d => d.parameters.length) = some 2) := ⟨tw_746, tw_51, by decide +kernel⟩
abbrev ws_M_told : List Cond := Cond.code y_M_told cc_M_told 3 (some .int) :: WS
abbrev cc_M_count : ByteArray := prog_6_method_32_code
def y_M_count : MethodName := ⟨"PlainWarehouseModel", "count", "(I)I"⟩
theorem kf_M_count : Cond.code y_M_count cc_M_count 4 (some .int) ∈ WS ∧ Cond.initialized y_M_count.cls ∈ WS ∧ (y_M_count.cls ≠ "java/lang/invoke/MethodHandle" ∧ y_M_count.cls ≠ "java/lang/invoke/VarHandle" ∧ (parseMethodDescriptor y_M_count.desc).map (fun d => d.parameters.length) = some 1) := ⟨tw_750, tw_51, by decide +kernel⟩
abbrev ws_M_count : List Cond := Cond.code y_M_count cc_M_count 4 (some .int) :: WS
abbrev cc_F_init : ByteArray := prog_2_method_1_code
def y_F_init : MethodName := ⟨"PlainWarehouse$Fillings", "<init>", "()V"⟩
theorem kf_F_init : Cond.code y_F_init cc_F_init 1 none ∈ WS ∧ Cond.initialized y_F_init.cls ∈ WS ∧ (y_F_init.cls ≠ "java/lang/invoke/MethodHandle" ∧ y_F_init.cls ≠ "java/lang/invoke/VarHandle" ∧ (parseMethodDescriptor y_F_init.desc).map (fun d => d.parameters.length) = some 0) := ⟨tw_115, tw_49, by decide +kernel⟩
abbrev ws_F_init : List Cond := Cond.code y_F_init cc_F_init 1 none :: WS
abbrev cc_F_most : ByteArray := prog_2_method_2_code
def y_F_most : MethodName := ⟨"PlainWarehouse$Fillings", "most", "(LPlainWarehouse$House;I)I"⟩
theorem kf_F_most : Cond.code y_F_most cc_F_most 5 (some .int) ∈ WS ∧ Cond.initialized y_F_most.cls ∈ WS ∧ (y_F_most.cls ≠ "java/lang/invoke/MethodHandle" ∧ y_F_most.cls ≠ "java/lang/invoke/VarHandle" ∧ (parseMethodDescriptor y_F_most.desc).map (fun d => d.parameters.length) = some 2) := ⟨tw_439, tw_49, by decide +kernel⟩
abbrev ws_F_most : List Cond := Cond.code y_F_most cc_F_most 5 (some .int) :: WS
abbrev cc_F_countFree : ByteArray := prog_2_method_3_code
def y_F_countFree : MethodName := ⟨"PlainWarehouse$Fillings", "countFree", "(LPlainWarehouse$House;)V"⟩
theorem kf_F_countFree : Cond.code y_F_countFree cc_F_countFree 3 none ∈ WS ∧ Cond.initialized y_F_countFree.cls ∈ WS ∧ (y_F_countFree.cls ≠ "java/lang/invoke/MethodHandle" ∧ y_F_countFree.cls ≠ "java/lang/invoke/VarHandle" ∧ (parseMethodDescriptor y_F_countFree.desc).map (fun d => d.parameters.length) = some 1) := ⟨tw_443, tw_49, by decide +kernel⟩
abbrev ws_F_countFree : List Cond := Cond.code y_F_countFree cc_F_countFree 3 none :: WS
abbrev cc_F_chooseOpen : ByteArray := prog_2_method_4_code
def y_F_chooseOpen : MethodName := ⟨"PlainWarehouse$Fillings", "chooseOpen", "(LPlainWarehouse$House;I)V"⟩
theorem kf_F_chooseOpen : Cond.code y_F_chooseOpen cc_F_chooseOpen 4 none ∈ WS ∧ Cond.initialized y_F_chooseOpen.cls ∈ WS ∧ (y_F_chooseOpen.cls ≠ "java/lang/invoke/MethodHandle" ∧ y_F_chooseOpen.cls ≠ "java/lang/invoke/VarHandle" ∧ (parseMethodDescriptor y_F_chooseOpen.desc).map (fun d => d.parameters.length) = some 2) := ⟨tw_448, tw_49, by decide +kernel⟩
abbrev ws_F_chooseOpen : List Cond := Cond.code y_F_chooseOpen cc_F_chooseOpen 4 none :: WS
abbrev cc_F_isEnoughFor : ByteArray := prog_2_method_5_code
def y_F_isEnoughFor : MethodName := ⟨"PlainWarehouse$Fillings", "isEnoughFor", "(I)Z"⟩
theorem kf_F_isEnoughFor : Cond.code y_F_isEnoughFor cc_F_isEnoughFor 3 (some .boolean) ∈ WS ∧ Cond.initialized y_F_isEnoughFor.cls ∈ WS ∧ (y_F_isEnoughFor.cls ≠ "java/lang/invoke/MethodHandle" ∧ y_F_isEnoughFor.cls ≠ "java/lang/invoke/VarHandle" ∧ (parseMethodDescriptor y_F_isEnoughFor.desc).map (fun d => d.parameters.length) = some 1) := ⟨tw_455, tw_49, by decide +kernel⟩
abbrev ws_F_isEnoughFor : List Cond := Cond.code y_F_isEnoughFor cc_F_isEnoughFor 3 (some .boolean) :: WS
abbrev cc_H_init : ByteArray := prog_3_method_1_code
def y_H_init : MethodName := ⟨"PlainWarehouse$House", "<init>", "()V"⟩
theorem kf_H_init : Cond.code y_H_init cc_H_init 1 none ∈ WS ∧ Cond.initialized y_H_init.cls ∈ WS ∧ (y_H_init.cls ≠ "java/lang/invoke/MethodHandle" ∧ y_H_init.cls ≠ "java/lang/invoke/VarHandle" ∧ (parseMethodDescriptor y_H_init.desc).map (fun d => d.parameters.length) = some 0) := ⟨tw_75, tw_48, by decide +kernel⟩
abbrev ws_H_init : List Cond := Cond.code y_H_init cc_H_init 1 none :: WS
abbrev cc_H_empty : ByteArray := prog_3_method_2_code
def y_H_empty : MethodName := ⟨"PlainWarehouse$House", "empty", "()V"⟩
theorem kf_H_empty : Cond.code y_H_empty cc_H_empty 1 none ∈ WS ∧ Cond.initialized y_H_empty.cls ∈ WS ∧ (y_H_empty.cls ≠ "java/lang/invoke/MethodHandle" ∧ y_H_empty.cls ≠ "java/lang/invoke/VarHandle" ∧ (parseMethodDescriptor y_H_empty.desc).map (fun d => d.parameters.length) = some 0) := ⟨tw_173, tw_48, by decide +kernel⟩
abbrev ws_H_empty : List Cond := Cond.code y_H_empty cc_H_empty 1 none :: WS
abbrev cc_H_take : ByteArray := prog_3_method_3_code
def y_H_take : MethodName := ⟨"PlainWarehouse$House", "take", "(IIII)Z"⟩
theorem kf_H_take : Cond.code y_H_take cc_H_take 5 (some .boolean) ∈ WS ∧ Cond.initialized y_H_take.cls ∈ WS ∧ (y_H_take.cls ≠ "java/lang/invoke/MethodHandle" ∧ y_H_take.cls ≠ "java/lang/invoke/VarHandle" ∧ (parseMethodDescriptor y_H_take.desc).map (fun d => d.parameters.length) = some 4) := ⟨tw_184, tw_48, by decide +kernel⟩
abbrev ws_H_take : List Cond := Cond.code y_H_take cc_H_take 5 (some .boolean) :: WS
abbrev cc_H_isPossible : ByteArray := prog_3_method_4_code
def y_H_isPossible : MethodName := ⟨"PlainWarehouse$House", "isPossible", "(III)Z"⟩
theorem kf_H_isPossible : Cond.code y_H_isPossible cc_H_isPossible 4 (some .boolean) ∈ WS ∧ Cond.initialized y_H_isPossible.cls ∈ WS ∧ (y_H_isPossible.cls ≠ "java/lang/invoke/MethodHandle" ∧ y_H_isPossible.cls ≠ "java/lang/invoke/VarHandle" ∧ (parseMethodDescriptor y_H_isPossible.desc).map (fun d => d.parameters.length) = some 3) := ⟨tw_188, tw_48, by decide +kernel⟩
abbrev ws_H_isPossible : List Cond := Cond.code y_H_isPossible cc_H_isPossible 4 (some .boolean) :: WS
abbrev cc_H_happen : ByteArray := prog_3_method_5_code
def y_H_happen : MethodName := ⟨"PlainWarehouse$House", "happen", "(IIII)V"⟩
theorem kf_H_happen : Cond.code y_H_happen cc_H_happen 5 none ∈ WS ∧ Cond.initialized y_H_happen.cls ∈ WS ∧ (y_H_happen.cls ≠ "java/lang/invoke/MethodHandle" ∧ y_H_happen.cls ≠ "java/lang/invoke/VarHandle" ∧ (parseMethodDescriptor y_H_happen.desc).map (fun d => d.parameters.length) = some 4) := ⟨tw_208, tw_48, by decide +kernel⟩
abbrev ws_H_happen : List Cond := Cond.code y_H_happen cc_H_happen 5 none :: WS
abbrev cc_H_come : ByteArray := prog_3_method_6_code
def y_H_come : MethodName := ⟨"PlainWarehouse$House", "come", "(III)V"⟩
theorem kf_H_come : Cond.code y_H_come cc_H_come 4 none ∈ WS ∧ Cond.initialized y_H_come.cls ∈ WS ∧ (y_H_come.cls ≠ "java/lang/invoke/MethodHandle" ∧ y_H_come.cls ≠ "java/lang/invoke/VarHandle" ∧ (parseMethodDescriptor y_H_come.desc).map (fun d => d.parameters.length) = some 3) := ⟨tw_212, tw_48, by decide +kernel⟩
abbrev ws_H_come : List Cond := Cond.code y_H_come cc_H_come 4 none :: WS
abbrev cc_H_leave : ByteArray := prog_3_method_7_code
def y_H_leave : MethodName := ⟨"PlainWarehouse$House", "leave", "(I)V"⟩
theorem kf_H_leave : Cond.code y_H_leave cc_H_leave 2 none ∈ WS ∧ Cond.initialized y_H_leave.cls ∈ WS ∧ (y_H_leave.cls ≠ "java/lang/invoke/MethodHandle" ∧ y_H_leave.cls ≠ "java/lang/invoke/VarHandle" ∧ (parseMethodDescriptor y_H_leave.desc).map (fun d => d.parameters.length) = some 1) := ⟨tw_216, tw_48, by decide +kernel⟩
abbrev ws_H_leave : List Cond := Cond.code y_H_leave cc_H_leave 2 none :: WS
abbrev cc_H_isInside : ByteArray := prog_3_method_8_code
def y_H_isInside : MethodName := ⟨"PlainWarehouse$House", "isInside", "(I)Z"⟩
theorem kf_H_isInside : Cond.code y_H_isInside cc_H_isInside 2 (some .boolean) ∈ WS ∧ Cond.initialized y_H_isInside.cls ∈ WS ∧ (y_H_isInside.cls ≠ "java/lang/invoke/MethodHandle" ∧ y_H_isInside.cls ≠ "java/lang/invoke/VarHandle" ∧ (parseMethodDescriptor y_H_isInside.desc).map (fun d => d.parameters.length) = some 1) := ⟨tw_192, tw_48, by decide +kernel⟩
abbrev ws_H_isInside : List Cond := Cond.code y_H_isInside cc_H_isInside 2 (some .boolean) :: WS
abbrev cc_H_isFree : ByteArray := prog_3_method_9_code
def y_H_isFree : MethodName := ⟨"PlainWarehouse$House", "isFree", "(I)Z"⟩
theorem kf_H_isFree : Cond.code y_H_isFree cc_H_isFree 2 (some .boolean) ∈ WS ∧ Cond.initialized y_H_isFree.cls ∈ WS ∧ (y_H_isFree.cls ≠ "java/lang/invoke/MethodHandle" ∧ y_H_isFree.cls ≠ "java/lang/invoke/VarHandle" ∧ (parseMethodDescriptor y_H_isFree.desc).map (fun d => d.parameters.length) = some 1) := ⟨tw_204, tw_48, by decide +kernel⟩
abbrev ws_H_isFree : List Cond := Cond.code y_H_isFree cc_H_isFree 2 (some .boolean) :: WS
abbrev cc_H_isTold : ByteArray := prog_3_method_10_code
def y_H_isTold : MethodName := ⟨"PlainWarehouse$House", "isTold", "(I)Z"⟩
theorem kf_H_isTold : Cond.code y_H_isTold cc_H_isTold 2 (some .boolean) ∈ WS ∧ Cond.initialized y_H_isTold.cls ∈ WS ∧ (y_H_isTold.cls ≠ "java/lang/invoke/MethodHandle" ∧ y_H_isTold.cls ≠ "java/lang/invoke/VarHandle" ∧ (parseMethodDescriptor y_H_isTold.desc).map (fun d => d.parameters.length) = some 1) := ⟨tw_200, tw_48, by decide +kernel⟩
abbrev ws_H_isTold : List Cond := Cond.code y_H_isTold cc_H_isTold 2 (some .boolean) :: WS
abbrev cc_H_isOpen : ByteArray := prog_3_method_11_code
def y_H_isOpen : MethodName := ⟨"PlainWarehouse$House", "isOpen", "(I)Z"⟩
theorem kf_H_isOpen : Cond.code y_H_isOpen cc_H_isOpen 2 (some .boolean) ∈ WS ∧ Cond.initialized y_H_isOpen.cls ∈ WS ∧ (y_H_isOpen.cls ≠ "java/lang/invoke/MethodHandle" ∧ y_H_isOpen.cls ≠ "java/lang/invoke/VarHandle" ∧ (parseMethodDescriptor y_H_isOpen.desc).map (fun d => d.parameters.length) = some 1) := ⟨tw_196, tw_48, by decide +kernel⟩
abbrev ws_H_isOpen : List Cond := Cond.code y_H_isOpen cc_H_isOpen 2 (some .boolean) :: WS
abbrev cc_H_isFull : ByteArray := prog_3_method_12_code
def y_H_isFull : MethodName := ⟨"PlainWarehouse$House", "isFull", "(I)Z"⟩
theorem kf_H_isFull : Cond.code y_H_isFull cc_H_isFull 2 (some .boolean) ∈ WS ∧ Cond.initialized y_H_isFull.cls ∈ WS ∧ (y_H_isFull.cls ≠ "java/lang/invoke/MethodHandle" ∧ y_H_isFull.cls ≠ "java/lang/invoke/VarHandle" ∧ (parseMethodDescriptor y_H_isFull.desc).map (fun d => d.parameters.length) = some 1) := ⟨tw_238, tw_48, by decide +kernel⟩
abbrev ws_H_isFull : List Cond := Cond.code y_H_isFull cc_H_isFull 2 (some .boolean) :: WS
abbrev cc_H_unitsAt : ByteArray := prog_3_method_13_code
def y_H_unitsAt : MethodName := ⟨"PlainWarehouse$House", "unitsAt", "(II)I"⟩
theorem kf_H_unitsAt : Cond.code y_H_unitsAt cc_H_unitsAt 5 (some .int) ∈ WS ∧ Cond.initialized y_H_unitsAt.cls ∈ WS ∧ (y_H_unitsAt.cls ≠ "java/lang/invoke/MethodHandle" ∧ y_H_unitsAt.cls ≠ "java/lang/invoke/VarHandle" ∧ (parseMethodDescriptor y_H_unitsAt.desc).map (fun d => d.parameters.length) = some 2) := ⟨tw_223, tw_48, by decide +kernel⟩
abbrev ws_H_unitsAt : List Cond := Cond.code y_H_unitsAt cc_H_unitsAt 5 (some .int) :: WS
abbrev cc_H_isAsked : ByteArray := prog_3_method_14_code
def y_H_isAsked : MethodName := ⟨"PlainWarehouse$House", "isAsked", "(II)Z"⟩
theorem kf_H_isAsked : Cond.code y_H_isAsked cc_H_isAsked 2 (some .boolean) ∈ WS ∧ Cond.initialized y_H_isAsked.cls ∈ WS ∧ (y_H_isAsked.cls ≠ "java/lang/invoke/MethodHandle" ∧ y_H_isAsked.cls ≠ "java/lang/invoke/VarHandle" ∧ (parseMethodDescriptor y_H_isAsked.desc).map (fun d => d.parameters.length) = some 2) := ⟨tw_226, tw_48, by decide +kernel⟩
abbrev ws_H_isAsked : List Cond := Cond.code y_H_isAsked cc_H_isAsked 2 (some .boolean) :: WS
abbrev cc_H_freeUnits : ByteArray := prog_3_method_15_code
def y_H_freeUnits : MethodName := ⟨"PlainWarehouse$House", "freeUnits", "(I)I"⟩
theorem kf_H_freeUnits : Cond.code y_H_freeUnits cc_H_freeUnits 4 (some .int) ∈ WS ∧ Cond.initialized y_H_freeUnits.cls ∈ WS ∧ (y_H_freeUnits.cls ≠ "java/lang/invoke/MethodHandle" ∧ y_H_freeUnits.cls ≠ "java/lang/invoke/VarHandle" ∧ (parseMethodDescriptor y_H_freeUnits.desc).map (fun d => d.parameters.length) = some 1) := ⟨tw_413, tw_48, by decide +kernel⟩
abbrev ws_H_freeUnits : List Cond := Cond.code y_H_freeUnits cc_H_freeUnits 4 (some .int) :: WS
abbrev cc_H_placesOfUnitsGivenTo : ByteArray := prog_3_method_16_code
def y_H_placesOfUnitsGivenTo : MethodName := ⟨"PlainWarehouse$House", "placesOfUnitsGivenTo", "(I)I"⟩
theorem kf_H_placesOfUnitsGivenTo : Cond.code y_H_placesOfUnitsGivenTo cc_H_placesOfUnitsGivenTo 4 (some .int) ∈ WS ∧ Cond.initialized y_H_placesOfUnitsGivenTo.cls ∈ WS ∧ (y_H_placesOfUnitsGivenTo.cls ≠ "java/lang/invoke/MethodHandle" ∧ y_H_placesOfUnitsGivenTo.cls ≠ "java/lang/invoke/VarHandle" ∧ (parseMethodDescriptor y_H_placesOfUnitsGivenTo.desc).map (fun d => d.parameters.length) = some 1) := ⟨tw_501, tw_48, by decide +kernel⟩
abbrev ws_H_placesOfUnitsGivenTo : List Cond := Cond.code y_H_placesOfUnitsGivenTo cc_H_placesOfUnitsGivenTo 4 (some .int) :: WS
abbrev cc_H_toldOrders : ByteArray := prog_3_method_17_code
def y_H_toldOrders : MethodName := ⟨"PlainWarehouse$House", "toldOrders", "()I"⟩
theorem kf_H_toldOrders : Cond.code y_H_toldOrders cc_H_toldOrders 3 (some .int) ∈ WS ∧ Cond.initialized y_H_toldOrders.cls ∈ WS ∧ (y_H_toldOrders.cls ≠ "java/lang/invoke/MethodHandle" ∧ y_H_toldOrders.cls ≠ "java/lang/invoke/VarHandle" ∧ (parseMethodDescriptor y_H_toldOrders.desc).map (fun d => d.parameters.length) = some 0) := ⟨tw_230, tw_48, by decide +kernel⟩
abbrev ws_H_toldOrders : List Cond := Cond.code y_H_toldOrders cc_H_toldOrders 3 (some .int) :: WS
abbrev cc_H_fullOrders : ByteArray := prog_3_method_18_code
def y_H_fullOrders : MethodName := ⟨"PlainWarehouse$House", "fullOrders", "()I"⟩
theorem kf_H_fullOrders : Cond.code y_H_fullOrders cc_H_fullOrders 3 (some .int) ∈ WS ∧ Cond.initialized y_H_fullOrders.cls ∈ WS ∧ (y_H_fullOrders.cls ≠ "java/lang/invoke/MethodHandle" ∧ y_H_fullOrders.cls ≠ "java/lang/invoke/VarHandle" ∧ (parseMethodDescriptor y_H_fullOrders.desc).map (fun d => d.parameters.length) = some 0) := ⟨tw_234, tw_48, by decide +kernel⟩
abbrev ws_H_fullOrders : List Cond := Cond.code y_H_fullOrders cc_H_fullOrders 3 (some .int) :: WS
abbrev cc_H_linkedPairs : ByteArray := prog_3_method_19_code
def y_H_linkedPairs : MethodName := ⟨"PlainWarehouse$House", "linkedPairs", "()I"⟩
theorem kf_H_linkedPairs : Cond.code y_H_linkedPairs cc_H_linkedPairs 4 (some .int) ∈ WS ∧ Cond.initialized y_H_linkedPairs.cls ∈ WS ∧ (y_H_linkedPairs.cls ≠ "java/lang/invoke/MethodHandle" ∧ y_H_linkedPairs.cls ≠ "java/lang/invoke/VarHandle" ∧ (parseMethodDescriptor y_H_linkedPairs.desc).map (fun d => d.parameters.length) = some 0) := ⟨tw_242, tw_48, by decide +kernel⟩
abbrev ws_H_linkedPairs : List Cond := Cond.code y_H_linkedPairs cc_H_linkedPairs 4 (some .int) :: WS
abbrev cc_Y_init : ByteArray := prog_4_method_1_code
def y_Y_init : MethodName := ⟨"PlainWarehouse$Ways", "<init>", "()V"⟩
theorem kf_Y_init : Cond.code y_Y_init cc_Y_init 1 none ∈ WS ∧ Cond.initialized y_Y_init.cls ∈ WS ∧ (y_Y_init.cls ≠ "java/lang/invoke/MethodHandle" ∧ y_Y_init.cls ≠ "java/lang/invoke/VarHandle" ∧ (parseMethodDescriptor y_Y_init.desc).map (fun d => d.parameters.length) = some 0) := ⟨tw_137, tw_50, by decide +kernel⟩
abbrev ws_Y_init : List Cond := Cond.code y_Y_init cc_Y_init 1 none :: WS
abbrev cc_Y_measure : ByteArray := prog_4_method_2_code
def y_Y_measure : MethodName := ⟨"PlainWarehouse$Ways", "measure", "(LPlainWarehouse$House;)V"⟩
theorem kf_Y_measure : Cond.code y_Y_measure cc_Y_measure 4 none ∈ WS ∧ Cond.initialized y_Y_measure.cls ∈ WS ∧ (y_Y_measure.cls ≠ "java/lang/invoke/MethodHandle" ∧ y_Y_measure.cls ≠ "java/lang/invoke/VarHandle" ∧ (parseMethodDescriptor y_Y_measure.desc).map (fun d => d.parameters.length) = some 1) := ⟨tw_469, tw_50, by decide +kernel⟩
abbrev ws_Y_measure : List Cond := Cond.code y_Y_measure cc_Y_measure 4 none :: WS
abbrev cc_Y_layLinks : ByteArray := prog_4_method_3_code
def y_Y_layLinks : MethodName := ⟨"PlainWarehouse$Ways", "layLinks", "(LPlainWarehouse$House;)V"⟩
theorem kf_Y_layLinks : Cond.code y_Y_layLinks cc_Y_layLinks 5 none ∈ WS ∧ Cond.initialized y_Y_layLinks.cls ∈ WS ∧ (y_Y_layLinks.cls ≠ "java/lang/invoke/MethodHandle" ∧ y_Y_layLinks.cls ≠ "java/lang/invoke/VarHandle" ∧ (parseMethodDescriptor y_Y_layLinks.desc).map (fun d => d.parameters.length) = some 1) := ⟨tw_473, tw_50, by decide +kernel⟩
abbrev ws_Y_layLinks : List Cond := Cond.code y_Y_layLinks cc_Y_layLinks 5 none :: WS
abbrev cc_Y_shortenVia : ByteArray := prog_4_method_4_code
def y_Y_shortenVia : MethodName := ⟨"PlainWarehouse$Ways", "shortenVia", "(II)V"⟩
theorem kf_Y_shortenVia : Cond.code y_Y_shortenVia cc_Y_shortenVia 6 none ∈ WS ∧ Cond.initialized y_Y_shortenVia.cls ∈ WS ∧ (y_Y_shortenVia.cls ≠ "java/lang/invoke/MethodHandle" ∧ y_Y_shortenVia.cls ≠ "java/lang/invoke/VarHandle" ∧ (parseMethodDescriptor y_Y_shortenVia.desc).map (fun d => d.parameters.length) = some 2) := ⟨tw_479, tw_50, by decide +kernel⟩
abbrev ws_Y_shortenVia : List Cond := Cond.code y_Y_shortenVia cc_Y_shortenVia 6 none :: WS
abbrev cc_Y_between : ByteArray := prog_4_method_5_code
def y_Y_between : MethodName := ⟨"PlainWarehouse$Ways", "between", "(II)I"⟩
theorem kf_Y_between : Cond.code y_Y_between cc_Y_between 3 (some .int) ∈ WS ∧ Cond.initialized y_Y_between.cls ∈ WS ∧ (y_Y_between.cls ≠ "java/lang/invoke/MethodHandle" ∧ y_Y_between.cls ≠ "java/lang/invoke/VarHandle" ∧ (parseMethodDescriptor y_Y_between.desc).map (fun d => d.parameters.length) = some 2) := ⟨tw_486, tw_50, by decide +kernel⟩
abbrev ws_Y_between : List Cond := Cond.code y_Y_between cc_Y_between 3 (some .int) :: WS
abbrev cc_Y_fewestThrough : ByteArray := prog_4_method_6_code
def y_Y_fewestThrough : MethodName := ⟨"PlainWarehouse$Ways", "fewestThrough", "(II)I"⟩
theorem kf_Y_fewestThrough : Cond.code y_Y_fewestThrough cc_Y_fewestThrough 3 (some .int) ∈ WS ∧ Cond.initialized y_Y_fewestThrough.cls ∈ WS ∧ (y_Y_fewestThrough.cls ≠ "java/lang/invoke/MethodHandle" ∧ y_Y_fewestThrough.cls ≠ "java/lang/invoke/VarHandle" ∧ (parseMethodDescriptor y_Y_fewestThrough.desc).map (fun d => d.parameters.length) = some 2) := ⟨tw_505, tw_50, by decide +kernel⟩
abbrev ws_Y_fewestThrough : List Cond := Cond.code y_Y_fewestThrough cc_Y_fewestThrough 3 (some .int) :: WS
abbrev cc_Y_fewest : ByteArray := prog_4_method_7_code
def y_Y_fewest : MethodName := ⟨"PlainWarehouse$Ways", "fewest", "([IIII)I"⟩
theorem kf_Y_fewest : Cond.code y_Y_fewest cc_Y_fewest 7 (some .int) ∈ WS ∧ Cond.initialized y_Y_fewest.cls ∈ WS ∧ (y_Y_fewest.cls ≠ "java/lang/invoke/MethodHandle" ∧ y_Y_fewest.cls ≠ "java/lang/invoke/VarHandle" ∧ (parseMethodDescriptor y_Y_fewest.desc).map (fun d => d.parameters.length) = some 4) := ⟨tw_508, tw_50, by decide +kernel⟩
abbrev ws_Y_fewest : List Cond := Cond.code y_Y_fewest cc_Y_fewest 7 (some .int) :: WS
abbrev cc_L_event : ByteArray := method_3_code
def y_L_event : MethodName := ⟨"PlainWarehouseLaw", "event", "(LPlainWarehouse;IIII[J)I"⟩
abbrev cc_L_stock : ByteArray := method_4_code
def y_L_stock : MethodName := ⟨"PlainWarehouseLaw", "stock", "(LPlainWarehouse;II[J)I"⟩
abbrev cc_L_where : ByteArray := method_5_code
def y_L_where : MethodName := ⟨"PlainWarehouseLaw", "where", "(LPlainWarehouse;II[J)I"⟩
abbrev cc_L_order : ByteArray := method_6_code
def y_L_order : MethodName := ⟨"PlainWarehouseLaw", "order", "(LPlainWarehouse;II[J)I"⟩
abbrev cc_L_promise : ByteArray := method_7_code
def y_L_promise : MethodName := ⟨"PlainWarehouseLaw", "promise", "(LPlainWarehouse;I[J)I"⟩
abbrev cc_L_way : ByteArray := method_8_code
def y_L_way : MethodName := ⟨"PlainWarehouseLaw", "way", "(LPlainWarehouse;II[J)I"⟩
abbrev cc_L_walk : ByteArray := method_9_code
def y_L_walk : MethodName := ⟨"PlainWarehouseLaw", "walk", "(LPlainWarehouse;II[J)I"⟩
abbrev cc_L_money : ByteArray := method_10_code
def y_L_money : MethodName := ⟨"PlainWarehouseLaw", "money", "(LPlainWarehouse;II[J)I"⟩
abbrev cc_L_needs : ByteArray := method_11_code
def y_L_needs : MethodName := ⟨"PlainWarehouseLaw", "needs", "(LPlainWarehouse;I[J)I"⟩
abbrev cc_L_explained : ByteArray := method_12_code
def y_L_explained : MethodName := ⟨"PlainWarehouseLaw", "explained", "(LPlainWarehouse;I[J)I"⟩
abbrev cc_L_told : ByteArray := method_13_code
def y_L_told : MethodName := ⟨"PlainWarehouseLaw", "told", "(LPlainWarehouse;II[J)I"⟩
abbrev cc_L_back : ByteArray := method_14_code
def y_L_back : MethodName := ⟨"PlainWarehouseLaw", "back", "(LPlainWarehouse;)I"⟩
abbrev cc_JI_bitCount : ByteArray := prog_10_method_49_code
def y_JI_bitCount : MethodName := ⟨"java/lang/Integer", "bitCount", "(I)I"⟩
theorem kf_JI_bitCount : Cond.code y_JI_bitCount cc_JI_bitCount 1 (some .int) ∈ WS ∧ Cond.initialized y_JI_bitCount.cls ∈ WS ∧ (y_JI_bitCount.cls ≠ "java/lang/invoke/MethodHandle" ∧ y_JI_bitCount.cls ≠ "java/lang/invoke/VarHandle" ∧ (parseMethodDescriptor y_JI_bitCount.desc).map (fun d => d.parameters.length) = some 1) := ⟨tw_432, tw_59, by decide +kernel⟩
abbrev ws_JI_bitCount : List Cond := Cond.code y_JI_bitCount cc_JI_bitCount 1 (some .int) :: WS
abbrev cc_JA_fill : ByteArray := prog_17_method_103_code
def y_JA_fill : MethodName := ⟨"java/util/Arrays", "fill", "([II)V"⟩
theorem kf_JA_fill : Cond.code y_JA_fill cc_JA_fill 4 none ∈ WS ∧ Cond.initialized y_JA_fill.cls ∈ WS ∧ (y_JA_fill.cls ≠ "java/lang/invoke/MethodHandle" ∧ y_JA_fill.cls ≠ "java/lang/invoke/VarHandle" ∧ (parseMethodDescriptor y_JA_fill.desc).map (fun d => d.parameters.length) = some 2) := ⟨tw_176, tw_57, by decide +kernel⟩
abbrev ws_JA_fill : List Cond := Cond.code y_JA_fill cc_JA_fill 4 none :: WS
end
section
/-! J: a walk's goal with its heap, its array of locals and its written places hidden; the model's equation carries the values. -/
abbrev JX : Type := (Program × Launch × Env × Room × State) × (MethodId × Array Value × List Frame × Method × Code) × (va_G × List (ClassId × FieldType) × (Nat → Prop) × (State → Prop))
abbrev jp (x : JX) : Program := x.1.1
abbrev jl (x : JX) : Launch := x.1.2.1
abbrev je (x : JX) : Env := x.1.2.2.1
abbrev jR (x : JX) : Room := x.1.2.2.2.1
abbrev js (x : JX) : State := x.1.2.2.2.2
abbrev jm (x : JX) : MethodId := x.2.1.1
abbrev ja (x : JX) : Array Value := x.2.1.2.1
abbrev jb (x : JX) : List Frame := x.2.1.2.2.1
abbrev jt (x : JX) : Method := x.2.1.2.2.2.1
abbrev jc (x : JX) : Code := x.2.1.2.2.2.2
abbrev jD (x : JX) : va_G := x.2.2.1
abbrev jT (x : JX) : List (ClassId × FieldType) := x.2.2.2.1
abbrev jA (x : JX) : Nat → Prop := x.2.2.2.2.1
abbrev jQ (x : JX) : State → Prop := x.2.2.2.2.2
/-- the words of nest mates hold -/
def jN (U : State) : Prop := ∀ w ∈ NWS, va_Nw w U
theorem jN.warm {s U : State} (hW : s.WarmedH U.vm) (h : jN s) : jN U := by
  intro w hw
  have h0 := h w hw
  have hn : nestW w = true := (List.mem_filter.mp hw).2
  cases w <;> first | exact va_Nw.warmF hW h0 | exact va_Nw.warmM hW h0 | exact absurd hn (by decide) | (simp [nestW] at hn; done)
theorem jN.same {s U : State} (e : s.vm = U.vm) (h : jN s) : jN U := by
  intro w hw
  have h0 := h w hw
  have hn : nestW w = true := (List.mem_filter.mp hw).2
  cases w <;> first | exact va_Nw.same rfl e h0 | exact absurd hn (by decide) | (simp [nestW] at hn; done)
theorem nest_on {w : Cond} (hw : w ∈ NWS) : w.onTables = true := by
  have hn : nestW w = true := (List.mem_filter.mp hw).2
  cases w <;> first | rfl | exact absurd hn (by decide) | (simp [nestW] at hn; done)
theorem ws_good {L : List Cond} (h : ∀ w ∈ L, w ∈ WS) : GoodIn WS L := fun w hw => ⟨h w hw, good_of_word (List.mem_filter.mp (h w hw)).2⟩
def jC (x : JX) (cc : ByteArray) (nL : Nat) (own : String) : Prop :=
  CallFix (jp x) (jm x) (jc x) cc nL (js x) (ja x) WS own ∧ va_K (jD x) vwCl (jT x) (js x) ∧ (∀ q, (js x).heap.size ≤ q → jA x q) ∧ (jt x).locks = false ∧ jN (js x)
def jW (x : JX) (nL kc ks pc : Nat) (lv : List (Nat × Value)) (st : List Value) (w : va_W) : Prop :=
  ∀ (H : Heap) (locs : List Loc) (ls : Array Slot), va_P (jD x) vwCl w H → va_D (jA x) w → va_S (jA x) (js x).heap H locs → lv_has ls nL lv →
    W (jp x) (jl x) (je x) (jR x) (js x) (jm x) (ja x) (jb x) (jt x) (jc x) H locs kc ks (jQ x) (F0 (jm x) pc ls st)
/-- a guarded read, a guard, a named value: the words of the models -/
def mrd {α β : Type} (n : Nat) (f : Nat → β) (i : Int32) (B : β → Option α) : Option α := if 0 ≤ i.toInt ∧ i.toInt < n then B (f i.toNatClampNeg) else none
def mck {α : Type} (n : Nat) (i : Int32) (M : Option α) : Option α := if 0 ≤ i.toInt ∧ i.toInt < n then M else none
def mlet {α β : Type} (t : α) (B : α → β) : β := B t
def lp {S E : Type} (body : S → Option (S ⊕ E)) : Nat → S → Option E
  | 0, _ => none
  | n + 1, t => match body t with
    | none => none
    | some (.inl t') => lp body n t'
    | some (.inr e) => some e
def mb1 {α β : Type} (o : Option α) (B : α → Option β) : Option β := o.bind B
theorem mb1_some {α β : Type} {o : Option α} {B : α → Option β} {r : β} (h : mb1 o B = some r) : ∃ a, o = some a ∧ B a = some r := Option.bind_eq_some_iff.mp h
def mb2 {α0 α1 β : Type} (o : Option (α0 × α1)) (B : α0 → α1 → Option β) : Option β := o.bind fun s => B s.1 s.2
theorem mb2_some {α0 α1 β : Type} {o : Option (α0 × α1)} {B : α0 → α1 → Option β} {r : β} (h : mb2 o B = some r) : ∃ a0 a1, o = some (a0, a1) ∧ B a0 a1 = some r := by
  obtain ⟨⟨a0, a1⟩, h1, h2⟩ := Option.bind_eq_some_iff.mp h
  exact ⟨a0, a1, h1, h2⟩
def mb3 {α0 α1 α2 β : Type} (o : Option (α0 × α1 × α2)) (B : α0 → α1 → α2 → Option β) : Option β := o.bind fun s => B s.1 s.2.1 s.2.2
theorem mb3_some {α0 α1 α2 β : Type} {o : Option (α0 × α1 × α2)} {B : α0 → α1 → α2 → Option β} {r : β} (h : mb3 o B = some r) : ∃ a0 a1 a2, o = some (a0, a1, a2) ∧ B a0 a1 a2 = some r := by
  obtain ⟨⟨a0, a1, a2⟩, h1, h2⟩ := Option.bind_eq_some_iff.mp h
  exact ⟨a0, a1, a2, h1, h2⟩
def mb4 {α0 α1 α2 α3 β : Type} (o : Option (α0 × α1 × α2 × α3)) (B : α0 → α1 → α2 → α3 → Option β) : Option β := o.bind fun s => B s.1 s.2.1 s.2.2.1 s.2.2.2
theorem mb4_some {α0 α1 α2 α3 β : Type} {o : Option (α0 × α1 × α2 × α3)} {B : α0 → α1 → α2 → α3 → Option β} {r : β} (h : mb4 o B = some r) : ∃ a0 a1 a2 a3, o = some (a0, a1, a2, a3) ∧ B a0 a1 a2 a3 = some r := by
  obtain ⟨⟨a0, a1, a2, a3⟩, h1, h2⟩ := Option.bind_eq_some_iff.mp h
  exact ⟨a0, a1, a2, a3, h1, h2⟩
def mb5 {α0 α1 α2 α3 α4 β : Type} (o : Option (α0 × α1 × α2 × α3 × α4)) (B : α0 → α1 → α2 → α3 → α4 → Option β) : Option β := o.bind fun s => B s.1 s.2.1 s.2.2.1 s.2.2.2.1 s.2.2.2.2
theorem mb5_some {α0 α1 α2 α3 α4 β : Type} {o : Option (α0 × α1 × α2 × α3 × α4)} {B : α0 → α1 → α2 → α3 → α4 → Option β} {r : β} (h : mb5 o B = some r) : ∃ a0 a1 a2 a3 a4, o = some (a0, a1, a2, a3, a4) ∧ B a0 a1 a2 a3 a4 = some r := by
  obtain ⟨⟨a0, a1, a2, a3, a4⟩, h1, h2⟩ := Option.bind_eq_some_iff.mp h
  exact ⟨a0, a1, a2, a3, a4, h1, h2⟩
def mb6 {α0 α1 α2 α3 α4 α5 β : Type} (o : Option (α0 × α1 × α2 × α3 × α4 × α5)) (B : α0 → α1 → α2 → α3 → α4 → α5 → Option β) : Option β := o.bind fun s => B s.1 s.2.1 s.2.2.1 s.2.2.2.1 s.2.2.2.2.1 s.2.2.2.2.2
theorem mb6_some {α0 α1 α2 α3 α4 α5 β : Type} {o : Option (α0 × α1 × α2 × α3 × α4 × α5)} {B : α0 → α1 → α2 → α3 → α4 → α5 → Option β} {r : β} (h : mb6 o B = some r) : ∃ a0 a1 a2 a3 a4 a5, o = some (a0, a1, a2, a3, a4, a5) ∧ B a0 a1 a2 a3 a4 a5 = some r := by
  obtain ⟨⟨a0, a1, a2, a3, a4, a5⟩, h1, h2⟩ := Option.bind_eq_some_iff.mp h
  exact ⟨a0, a1, a2, a3, a4, a5, h1, h2⟩
def mb7 {α0 α1 α2 α3 α4 α5 α6 β : Type} (o : Option (α0 × α1 × α2 × α3 × α4 × α5 × α6)) (B : α0 → α1 → α2 → α3 → α4 → α5 → α6 → Option β) : Option β := o.bind fun s => B s.1 s.2.1 s.2.2.1 s.2.2.2.1 s.2.2.2.2.1 s.2.2.2.2.2.1 s.2.2.2.2.2.2
theorem mb7_some {α0 α1 α2 α3 α4 α5 α6 β : Type} {o : Option (α0 × α1 × α2 × α3 × α4 × α5 × α6)} {B : α0 → α1 → α2 → α3 → α4 → α5 → α6 → Option β} {r : β} (h : mb7 o B = some r) : ∃ a0 a1 a2 a3 a4 a5 a6, o = some (a0, a1, a2, a3, a4, a5, a6) ∧ B a0 a1 a2 a3 a4 a5 a6 = some r := by
  obtain ⟨⟨a0, a1, a2, a3, a4, a5, a6⟩, h1, h2⟩ := Option.bind_eq_some_iff.mp h
  exact ⟨a0, a1, a2, a3, a4, a5, a6, h1, h2⟩
def mb8 {α0 α1 α2 α3 α4 α5 α6 α7 β : Type} (o : Option (α0 × α1 × α2 × α3 × α4 × α5 × α6 × α7)) (B : α0 → α1 → α2 → α3 → α4 → α5 → α6 → α7 → Option β) : Option β := o.bind fun s => B s.1 s.2.1 s.2.2.1 s.2.2.2.1 s.2.2.2.2.1 s.2.2.2.2.2.1 s.2.2.2.2.2.2.1 s.2.2.2.2.2.2.2
theorem mb8_some {α0 α1 α2 α3 α4 α5 α6 α7 β : Type} {o : Option (α0 × α1 × α2 × α3 × α4 × α5 × α6 × α7)} {B : α0 → α1 → α2 → α3 → α4 → α5 → α6 → α7 → Option β} {r : β} (h : mb8 o B = some r) : ∃ a0 a1 a2 a3 a4 a5 a6 a7, o = some (a0, a1, a2, a3, a4, a5, a6, a7) ∧ B a0 a1 a2 a3 a4 a5 a6 a7 = some r := by
  obtain ⟨⟨a0, a1, a2, a3, a4, a5, a6, a7⟩, h1, h2⟩ := Option.bind_eq_some_iff.mp h
  exact ⟨a0, a1, a2, a3, a4, a5, a6, a7, h1, h2⟩
theorem mrd_some {α β : Type} {n : Nat} {f : Nat → β} {i : Int32} {B : β → Option α} {r : α} (h : mrd n f i B = some r) : vp_in i n ∧ B (f i.toNatClampNeg) = some r := by
  unfold mrd at h
  split at h
  · rename_i hc; exact ⟨vp_in_iff.mpr hc, h⟩
  · cases h
theorem mck_some {α : Type} {n : Nat} {i : Int32} {M : Option α} {r : α} (h : mck n i M = some r) : vp_in i n ∧ M = some r := by
  unfold mck at h
  split at h
  · rename_i hc; exact ⟨vp_in_iff.mpr hc, h⟩
  · cases h
theorem j_lp {S E : Type} {body : S → Option (S ⊕ E)} {Pr : S → Prop} {K : E → Prop} (hs : ∀ t o, body t = some o → (∀ t', o = .inl t' → Pr t') → (∀ e, o = .inr e → K e) → Pr t) : ∀ n t e, lp body n t = some e → K e → Pr t := by
  intro n
  induction n with
  | zero => intro t e h; cases h
  | succ n ih =>
    intro t e h k
    unfold lp at h
    cases hb : body t with
    | none => rw [hb] at h; cases h
    | some o =>
      rw [hb] at h
      cases o with
      | inl t' => exact hs t _ hb (fun t'' ht => by cases ht; exact ih t' e h k) (fun e' he => by cases he)
      | inr e' => cases h; exact hs t _ hb (fun t' ht => by cases ht) (fun e'' he => by cases he; exact k)
section JROWS
variable {x : JX} {cc : ByteArray} {nL kc ks : Nat} {own : String} {pc pc' : Nat} {lv lv' : List (Nat × Value)} {st : List Value} {w : va_W}
theorem j_sub (is : List Nat) (hl : lv_pick lv is = lv') (K : jW x nL kc ks pc lv' st w) : jW x nL kc ks pc lv st w :=
  fun H locs ls hP hD hS h => K H locs ls hP hD hS (lv_sub h is hl)
theorem j_pc (hp : pc = pc') (K : jW x nL kc ks pc' lv st w) : jW x nL kc ks pc lv st w := hp ▸ K
theorem j_iconst (C : jC x cc nL own) {n : Int} {v : Int32} (hd : decode cc pc = .ok (.iconst n, 1)) (hp : pc + 1 = pc') (hv : Int32.ofInt n = v) (K : jW x nL kc ks pc' lv (.int v :: st) w) : jW x nL kc ks pc lv (st) w :=
  fun H locs ls hP hD hS hl => lv_iconst C.1.1 C.1.2.1 hd hv (by subst hp; exact K H locs ls hP hD hS hl)
theorem j_bipush (C : jC x cc nL own) {n : Int} {v : Int32} (hd : decode cc pc = .ok (.bipush n, 2)) (hp : pc + 2 = pc') (hv : (Int8.ofInt n).toInt32 = v) (K : jW x nL kc ks pc' lv (.int v :: st) w) : jW x nL kc ks pc lv (st) w :=
  fun H locs ls hP hD hS hl => lv_bipush C.1.1 C.1.2.1 hd hv (by subst hp; exact K H locs ls hP hD hS hl)
theorem j_sipush (C : jC x cc nL own) {n : Int} {v : Int32} (hd : decode cc pc = .ok (.sipush n, 3)) (hp : pc + 3 = pc') (hv : (Int16.ofInt n).toInt32 = v) (K : jW x nL kc ks pc' lv (.int v :: st) w) : jW x nL kc ks pc lv (st) w :=
  fun H locs ls hP hD hS hl => lv_sipush C.1.1 C.1.2.1 hd hv (by subst hp; exact K H locs ls hP hD hS hl)
theorem j_ldc (C : jC x cc nL own) {index : Nat} {v : Int32} (hd : decode cc pc = .ok (.ldc index, 2)) (hp : pc + 2 = pc') (hw : Cond.constant own index v ∈ WS) (K : jW x nL kc ks pc' lv (.int v :: st) w) : jW x nL kc ks pc lv (st) w :=
  fun H locs ls hP hD hS hl => lv_ldc C.1.1 C.1.2.1 C.1.2.2.2.1 (C.1.2.2.2.2 _ hw) hd (by subst hp; exact K H locs ls hP hD hS hl)
theorem j_ldc_w (C : jC x cc nL own) {index : Nat} {v : Int32} (hd : decode cc pc = .ok (.ldc_w index, 3)) (hp : pc + 3 = pc') (hw : Cond.constant own index v ∈ WS) (K : jW x nL kc ks pc' lv (.int v :: st) w) : jW x nL kc ks pc lv (st) w :=
  fun H locs ls hP hD hS hl => lv_ldcw C.1.1 C.1.2.1 C.1.2.2.2.1 (C.1.2.2.2.2 _ hw) hd (by subst hp; exact K H locs ls hP hD hS hl)
theorem j_iload_n (C : jC x cc nL own) {kk : Fin 4} {i : Nat} {v : Int32} (j : Nat) (hd : decode cc pc = .ok (.iload_n kk, 1)) (hp : pc + 1 = pc') (hi : (kk : Nat) = i) (hk : lv[j]? = some (i, .int v)) (K : jW x nL kc ks pc' lv (.int v :: st) w) : jW x nL kc ks pc lv (st) w :=
  fun H locs ls hP hD hS hl => lv_iload_n C.1.1 C.1.2.1 hd hi (lv_at hl j hk) (by subst hp; exact K H locs ls hP hD hS hl)
theorem j_iload (C : jC x cc nL own) {i : Nat} {v : Int32} (j : Nat) (hd : decode cc pc = .ok (.iload i, 2)) (hp : pc + 2 = pc') (hk : lv[j]? = some (i, .int v)) (K : jW x nL kc ks pc' lv (.int v :: st) w) : jW x nL kc ks pc lv (st) w :=
  fun H locs ls hP hD hS hl => lv_iload C.1.1 C.1.2.1 hd (lv_at hl j hk) (by subst hp; exact K H locs ls hP hD hS hl)
theorem j_aload_n (C : jC x cc nL own) {kk : Fin 4} {i : Nat} {v : Nat} (j : Nat) (hd : decode cc pc = .ok (.aload_n kk, 1)) (hp : pc + 1 = pc') (hi : (kk : Nat) = i) (hk : lv[j]? = some (i, .ref v)) (K : jW x nL kc ks pc' lv (.ref v :: st) w) : jW x nL kc ks pc lv (st) w :=
  fun H locs ls hP hD hS hl => lv_aload_n C.1.1 C.1.2.1 hd hi (lv_at hl j hk) (by subst hp; exact K H locs ls hP hD hS hl)
theorem j_aload (C : jC x cc nL own) {i : Nat} {v : Nat} (j : Nat) (hd : decode cc pc = .ok (.aload i, 2)) (hp : pc + 2 = pc') (hk : lv[j]? = some (i, .ref v)) (K : jW x nL kc ks pc' lv (.ref v :: st) w) : jW x nL kc ks pc lv (st) w :=
  fun H locs ls hP hD hS hl => lv_aload C.1.1 C.1.2.1 hd (lv_at hl j hk) (by subst hp; exact K H locs ls hP hD hS hl)
theorem j_lload_n (C : jC x cc nL own) {kk : Fin 4} {i : Nat} {v : Int64} (j : Nat) (hd : decode cc pc = .ok (.lload_n kk, 1)) (hp : pc + 1 = pc') (hi : (kk : Nat) = i) (hk : lv[j]? = some (i, .long v)) (K : jW x nL kc ks pc' lv (.long v :: st) w) : jW x nL kc ks pc lv (st) w :=
  fun H locs ls hP hD hS hl => lv_lload_n C.1.1 C.1.2.1 hd hi (lv_at hl j hk) (by subst hp; exact K H locs ls hP hD hS hl)
theorem j_lload (C : jC x cc nL own) {i : Nat} {v : Int64} (j : Nat) (hd : decode cc pc = .ok (.lload i, 2)) (hp : pc + 2 = pc') (hk : lv[j]? = some (i, .long v)) (K : jW x nL kc ks pc' lv (.long v :: st) w) : jW x nL kc ks pc lv (st) w :=
  fun H locs ls hP hD hS hl => lv_lload C.1.1 C.1.2.1 hd (lv_at hl j hk) (by subst hp; exact K H locs ls hP hD hS hl)
theorem j_istore_n (C : jC x cc nL own) {kk : Fin 4} {i : Nat} {v : Int32} (hd : decode cc pc = .ok (.istore_n kk, 1)) (hp : pc + 1 = pc') (hi : (kk : Nat) = i) (hn : i < nL) (hl : (i, Value.int v) :: lv.filter (fun q => !(q.1 == i) && !(q.1 + 1 == i && q.2.category == 2)) = lv') (K : jW x nL kc ks pc' lv' (st) w) : jW x nL kc ks pc lv (.int v :: st) w :=
  fun H locs ls hP hD hS h => lv_istore_n C.1.1 C.1.2.1 hd hi h hn hl (fun ls' h' => by subst hp; exact K H locs ls' hP hD hS h')
theorem j_istore (C : jC x cc nL own) {i : Nat} {v : Int32} (hd : decode cc pc = .ok (.istore i, 2)) (hp : pc + 2 = pc') (hn : i < nL) (hl : (i, Value.int v) :: lv.filter (fun q => !(q.1 == i) && !(q.1 + 1 == i && q.2.category == 2)) = lv') (K : jW x nL kc ks pc' lv' (st) w) : jW x nL kc ks pc lv (.int v :: st) w :=
  fun H locs ls hP hD hS h => lv_istore C.1.1 C.1.2.1 hd h hn hl (fun ls' h' => by subst hp; exact K H locs ls' hP hD hS h')
theorem j_astore_n (C : jC x cc nL own) {kk : Fin 4} {i : Nat} {v : Nat} (hd : decode cc pc = .ok (.astore_n kk, 1)) (hp : pc + 1 = pc') (hi : (kk : Nat) = i) (hn : i < nL) (hl : (i, Value.ref v) :: lv.filter (fun q => !(q.1 == i) && !(q.1 + 1 == i && q.2.category == 2)) = lv') (K : jW x nL kc ks pc' lv' (st) w) : jW x nL kc ks pc lv (.ref v :: st) w :=
  fun H locs ls hP hD hS h => lv_astore_n C.1.1 C.1.2.1 hd hi h hn hl (fun ls' h' => by subst hp; exact K H locs ls' hP hD hS h')
theorem j_astore (C : jC x cc nL own) {i : Nat} {v : Nat} (hd : decode cc pc = .ok (.astore i, 2)) (hp : pc + 2 = pc') (hn : i < nL) (hl : (i, Value.ref v) :: lv.filter (fun q => !(q.1 == i) && !(q.1 + 1 == i && q.2.category == 2)) = lv') (K : jW x nL kc ks pc' lv' (st) w) : jW x nL kc ks pc lv (.ref v :: st) w :=
  fun H locs ls hP hD hS h => lv_astore C.1.1 C.1.2.1 hd h hn hl (fun ls' h' => by subst hp; exact K H locs ls' hP hD hS h')
theorem j_iinc (C : jC x cc nL own) {i : Nat} {n : Int} {v v' : Int32} (j : Nat) (hd : decode cc pc = .ok (.iinc i n, 3)) (hp : pc + 3 = pc') (hk : lv[j]? = some (i, .int v)) (hv : v + Int32.ofInt n = v') (hn : i < nL) (hl : (i, Value.int v') :: lv.filter (fun q => !(q.1 == i) && !(q.1 + 1 == i && q.2.category == 2)) = lv') (K : jW x nL kc ks pc' lv' (st) w) : jW x nL kc ks pc lv (st) w :=
  fun H locs ls hP hD hS h => lv_iinc C.1.1 C.1.2.1 hd h hk hv hn hl (fun ls' h' => by subst hp; exact K H locs ls' hP hD hS h')
theorem j_iadd (C : jC x cc nL own) {a b : Int32} (hd : decode cc pc = .ok (.iadd, 1)) (hp : pc + 1 = pc') (K : jW x nL kc ks pc' lv (.int (a + b) :: st) w) : jW x nL kc ks pc lv (.int b :: .int a :: st) w :=
  fun H locs ls hP hD hS hl => lv_iadd C.1.1 C.1.2.1 hd (by subst hp; exact K H locs ls hP hD hS hl)
theorem j_isub (C : jC x cc nL own) {a b : Int32} (hd : decode cc pc = .ok (.isub, 1)) (hp : pc + 1 = pc') (K : jW x nL kc ks pc' lv (.int (a - b) :: st) w) : jW x nL kc ks pc lv (.int b :: .int a :: st) w :=
  fun H locs ls hP hD hS hl => lv_isub C.1.1 C.1.2.1 hd (by subst hp; exact K H locs ls hP hD hS hl)
theorem j_imul (C : jC x cc nL own) {a b : Int32} (hd : decode cc pc = .ok (.imul, 1)) (hp : pc + 1 = pc') (K : jW x nL kc ks pc' lv (.int (a * b) :: st) w) : jW x nL kc ks pc lv (.int b :: .int a :: st) w :=
  fun H locs ls hP hD hS hl => lv_imul C.1.1 C.1.2.1 hd (by subst hp; exact K H locs ls hP hD hS hl)
theorem j_iand (C : jC x cc nL own) {a b : Int32} (hd : decode cc pc = .ok (.iand, 1)) (hp : pc + 1 = pc') (K : jW x nL kc ks pc' lv (.int (a &&& b) :: st) w) : jW x nL kc ks pc lv (.int b :: .int a :: st) w :=
  fun H locs ls hP hD hS hl => lv_iand C.1.1 C.1.2.1 hd (by subst hp; exact K H locs ls hP hD hS hl)
theorem j_ior (C : jC x cc nL own) {a b : Int32} (hd : decode cc pc = .ok (.ior, 1)) (hp : pc + 1 = pc') (K : jW x nL kc ks pc' lv (.int (a ||| b) :: st) w) : jW x nL kc ks pc lv (.int b :: .int a :: st) w :=
  fun H locs ls hP hD hS hl => lv_ior C.1.1 C.1.2.1 hd (by subst hp; exact K H locs ls hP hD hS hl)
theorem j_ixor (C : jC x cc nL own) {a b : Int32} (hd : decode cc pc = .ok (.ixor, 1)) (hp : pc + 1 = pc') (K : jW x nL kc ks pc' lv (.int (a ^^^ b) :: st) w) : jW x nL kc ks pc lv (.int b :: .int a :: st) w :=
  fun H locs ls hP hD hS hl => lv_ixor C.1.1 C.1.2.1 hd (by subst hp; exact K H locs ls hP hD hS hl)
theorem j_ishl (C : jC x cc nL own) {a b : Int32} (hd : decode cc pc = .ok (.ishl, 1)) (hp : pc + 1 = pc') (K : jW x nL kc ks pc' lv (.int (a <<< (b &&& 31)) :: st) w) : jW x nL kc ks pc lv (.int b :: .int a :: st) w :=
  fun H locs ls hP hD hS hl => lv_ishl C.1.1 C.1.2.1 hd (by subst hp; exact K H locs ls hP hD hS hl)
theorem j_ishr (C : jC x cc nL own) {a b : Int32} (hd : decode cc pc = .ok (.ishr, 1)) (hp : pc + 1 = pc') (K : jW x nL kc ks pc' lv (.int (a >>> (b &&& 31)) :: st) w) : jW x nL kc ks pc lv (.int b :: .int a :: st) w :=
  fun H locs ls hP hD hS hl => lv_ishr C.1.1 C.1.2.1 hd (by subst hp; exact K H locs ls hP hD hS hl)
theorem j_iushr (C : jC x cc nL own) {a b : Int32} (hd : decode cc pc = .ok (.iushr, 1)) (hp : pc + 1 = pc') (K : jW x nL kc ks pc' lv (.int ((a.toUInt32 >>> (b.toUInt32 &&& Int32.toUInt32 31)).toInt32) :: st) w) : jW x nL kc ks pc lv (.int b :: .int a :: st) w :=
  fun H locs ls hP hD hS hl => lv_iushr C.1.1 C.1.2.1 hd rfl (by subst hp; exact K H locs ls hP hD hS hl)
theorem j_ineg (C : jC x cc nL own) {a : Int32} (hd : decode cc pc = .ok (.ineg, 1)) (hp : pc + 1 = pc') (K : jW x nL kc ks pc' lv (.int (-a) :: st) w) : jW x nL kc ks pc lv (.int a :: st) w :=
  fun H locs ls hP hD hS hl => lv_ineg C.1.1 C.1.2.1 hd (by subst hp; exact K H locs ls hP hD hS hl)
theorem j_i2l (C : jC x cc nL own) {a : Int32} (hd : decode cc pc = .ok (.i2l, 1)) (hp : pc + 1 = pc') (K : jW x nL kc ks pc' lv (.long a.toInt64 :: st) w) : jW x nL kc ks pc lv (.int a :: st) w :=
  fun H locs ls hP hD hS hl => lv_i2l C.1.1 C.1.2.1 hd rfl (by subst hp; exact K H locs ls hP hD hS hl)
theorem j_dup (C : jC x cc nL own) {va : Value} (hd : decode cc pc = .ok (.dup, 1)) (hp : pc + 1 = pc') (hva : va.category = 1) (K : jW x nL kc ks pc' lv (va :: va :: st) w) : jW x nL kc ks pc lv (va :: st) w :=
  fun H locs ls hP hD hS hl => lv_dup C.1.1 C.1.2.1 hd hva (by subst hp; exact K H locs ls hP hD hS hl)
theorem j_pop (C : jC x cc nL own) {va : Value} (hd : decode cc pc = .ok (.pop, 1)) (hp : pc + 1 = pc') (hva : va.category = 1) (K : jW x nL kc ks pc' lv (st) w) : jW x nL kc ks pc lv (va :: st) w :=
  fun H locs ls hP hD hS hl => lv_pop C.1.1 C.1.2.1 hd hva (by subst hp; exact K H locs ls hP hD hS hl)
theorem j_dup2 (C : jC x cc nL own) {va vb : Value} (hd : decode cc pc = .ok (.dup2, 1)) (hp : pc + 1 = pc') (hva : va.category = 1) (hvb : vb.category = 1) (K : jW x nL kc ks pc' lv (va :: vb :: va :: vb :: st) w) : jW x nL kc ks pc lv (va :: vb :: st) w :=
  fun H locs ls hP hD hS hl => lv_dup2_11 C.1.1 C.1.2.1 hd hva hvb (by subst hp; exact K H locs ls hP hD hS hl)
theorem j_dup_x1 (C : jC x cc nL own) {va vb : Value} (hd : decode cc pc = .ok (.dup_x1, 1)) (hp : pc + 1 = pc') (hva : va.category = 1) (hvb : vb.category = 1) (K : jW x nL kc ks pc' lv (va :: vb :: va :: st) w) : jW x nL kc ks pc lv (va :: vb :: st) w :=
  fun H locs ls hP hD hS hl => lv_dup_x1 C.1.1 C.1.2.1 hd hva hvb (by subst hp; exact K H locs ls hP hD hS hl)
theorem j_goto (C : jC x cc nL own) {off : Int} {tgt : Nat} (hd : decode cc pc = .ok (.goto off, 3)) (ht : (pc : Int) + off = (tgt : Int)) (K : jW x nL kc ks tgt lv st w) : jW x nL kc ks pc lv (st) w :=
  fun H locs ls hP hD hS hl => lv_goto C.1.1 C.1.2.1 hd ht (K H locs ls hP hD hS hl)
theorem j_if_eq (C : jC x cc nL own) {α : Type} {res : α} {MA MB : Option α} {a : Int32} {off : Int} {tgt : Nat} (hd : decode cc pc = .ok (.ifCond .eq off, 3)) (ht : (pc : Int) + off = (tgt : Int)) (hp : pc + 3 = pc') (h : (if a = 0 then MA else MB) = some res) (K1 : MA = some res → jW x nL kc ks tgt lv st w) (K2 : MB = some res → jW x nL kc ks pc' lv st w) : jW x nL kc ks pc lv (.int a :: st) w :=
  fun H locs ls hP hD hS hl => lv_if_eq C.1.1 C.1.2.1 hd ht (fun q => K1 (by rw [if_pos q] at h; exact h) H locs ls hP hD hS hl) (fun q => by subst hp; exact K2 (by rw [if_neg q] at h; exact h) H locs ls hP hD hS hl)
theorem j_icmp_eq (C : jC x cc nL own) {α : Type} {res : α} {MA MB : Option α} {a b : Int32} {off : Int} {tgt : Nat} (hd : decode cc pc = .ok (.if_icmp .eq off, 3)) (ht : (pc : Int) + off = (tgt : Int)) (hp : pc + 3 = pc') (h : (if a = b then MA else MB) = some res) (K1 : MA = some res → jW x nL kc ks tgt lv st w) (K2 : MB = some res → jW x nL kc ks pc' lv st w) : jW x nL kc ks pc lv (.int b :: .int a :: st) w :=
  fun H locs ls hP hD hS hl => lv_icmp_eq C.1.1 C.1.2.1 hd ht (fun q => K1 (by rw [if_pos q] at h; exact h) H locs ls hP hD hS hl) (fun q => by subst hp; exact K2 (by rw [if_neg q] at h; exact h) H locs ls hP hD hS hl)
theorem j_if_ne (C : jC x cc nL own) {α : Type} {res : α} {MA MB : Option α} {a : Int32} {off : Int} {tgt : Nat} (hd : decode cc pc = .ok (.ifCond .ne off, 3)) (ht : (pc : Int) + off = (tgt : Int)) (hp : pc + 3 = pc') (h : (if a = 0 then MA else MB) = some res) (K1 : MB = some res → jW x nL kc ks tgt lv st w) (K2 : MA = some res → jW x nL kc ks pc' lv st w) : jW x nL kc ks pc lv (.int a :: st) w :=
  fun H locs ls hP hD hS hl => lv_if_ne C.1.1 C.1.2.1 hd ht (fun q => K1 (by rw [if_neg q] at h; exact h) H locs ls hP hD hS hl) (fun q => by subst hp; exact K2 (by rw [if_pos q] at h; exact h) H locs ls hP hD hS hl)
theorem j_icmp_ne (C : jC x cc nL own) {α : Type} {res : α} {MA MB : Option α} {a b : Int32} {off : Int} {tgt : Nat} (hd : decode cc pc = .ok (.if_icmp .ne off, 3)) (ht : (pc : Int) + off = (tgt : Int)) (hp : pc + 3 = pc') (h : (if a = b then MA else MB) = some res) (K1 : MB = some res → jW x nL kc ks tgt lv st w) (K2 : MA = some res → jW x nL kc ks pc' lv st w) : jW x nL kc ks pc lv (.int b :: .int a :: st) w :=
  fun H locs ls hP hD hS hl => lv_icmp_ne C.1.1 C.1.2.1 hd ht (fun q => K1 (by rw [if_neg q] at h; exact h) H locs ls hP hD hS hl) (fun q => by subst hp; exact K2 (by rw [if_pos q] at h; exact h) H locs ls hP hD hS hl)
theorem j_if_lt (C : jC x cc nL own) {α : Type} {res : α} {MA MB : Option α} {a : Int32} {off : Int} {tgt : Nat} (hd : decode cc pc = .ok (.ifCond .lt off, 3)) (ht : (pc : Int) + off = (tgt : Int)) (hp : pc + 3 = pc') (h : (if a < 0 then MA else MB) = some res) (K1 : MA = some res → jW x nL kc ks tgt lv st w) (K2 : MB = some res → jW x nL kc ks pc' lv st w) : jW x nL kc ks pc lv (.int a :: st) w :=
  fun H locs ls hP hD hS hl => lv_if_lt C.1.1 C.1.2.1 hd ht (fun q => K1 (by rw [if_pos q] at h; exact h) H locs ls hP hD hS hl) (fun q => by subst hp; exact K2 (by rw [if_neg q] at h; exact h) H locs ls hP hD hS hl)
theorem j_icmp_lt (C : jC x cc nL own) {α : Type} {res : α} {MA MB : Option α} {a b : Int32} {off : Int} {tgt : Nat} (hd : decode cc pc = .ok (.if_icmp .lt off, 3)) (ht : (pc : Int) + off = (tgt : Int)) (hp : pc + 3 = pc') (h : (if a < b then MA else MB) = some res) (K1 : MA = some res → jW x nL kc ks tgt lv st w) (K2 : MB = some res → jW x nL kc ks pc' lv st w) : jW x nL kc ks pc lv (.int b :: .int a :: st) w :=
  fun H locs ls hP hD hS hl => lv_icmp_lt C.1.1 C.1.2.1 hd ht (fun q => K1 (by rw [if_pos q] at h; exact h) H locs ls hP hD hS hl) (fun q => by subst hp; exact K2 (by rw [if_neg q] at h; exact h) H locs ls hP hD hS hl)
theorem j_if_ge (C : jC x cc nL own) {α : Type} {res : α} {MA MB : Option α} {a : Int32} {off : Int} {tgt : Nat} (hd : decode cc pc = .ok (.ifCond .ge off, 3)) (ht : (pc : Int) + off = (tgt : Int)) (hp : pc + 3 = pc') (h : (if 0 ≤ a then MA else MB) = some res) (K1 : MA = some res → jW x nL kc ks tgt lv st w) (K2 : MB = some res → jW x nL kc ks pc' lv st w) : jW x nL kc ks pc lv (.int a :: st) w :=
  fun H locs ls hP hD hS hl => lv_if_ge C.1.1 C.1.2.1 hd ht (fun q => K1 (by rw [if_pos q] at h; exact h) H locs ls hP hD hS hl) (fun q => by subst hp; exact K2 (by rw [if_neg q] at h; exact h) H locs ls hP hD hS hl)
theorem j_icmp_ge (C : jC x cc nL own) {α : Type} {res : α} {MA MB : Option α} {a b : Int32} {off : Int} {tgt : Nat} (hd : decode cc pc = .ok (.if_icmp .ge off, 3)) (ht : (pc : Int) + off = (tgt : Int)) (hp : pc + 3 = pc') (h : (if b ≤ a then MA else MB) = some res) (K1 : MA = some res → jW x nL kc ks tgt lv st w) (K2 : MB = some res → jW x nL kc ks pc' lv st w) : jW x nL kc ks pc lv (.int b :: .int a :: st) w :=
  fun H locs ls hP hD hS hl => lv_icmp_ge C.1.1 C.1.2.1 hd ht (fun q => K1 (by rw [if_pos q] at h; exact h) H locs ls hP hD hS hl) (fun q => by subst hp; exact K2 (by rw [if_neg q] at h; exact h) H locs ls hP hD hS hl)
theorem j_if_gt (C : jC x cc nL own) {α : Type} {res : α} {MA MB : Option α} {a : Int32} {off : Int} {tgt : Nat} (hd : decode cc pc = .ok (.ifCond .gt off, 3)) (ht : (pc : Int) + off = (tgt : Int)) (hp : pc + 3 = pc') (h : (if 0 < a then MA else MB) = some res) (K1 : MA = some res → jW x nL kc ks tgt lv st w) (K2 : MB = some res → jW x nL kc ks pc' lv st w) : jW x nL kc ks pc lv (.int a :: st) w :=
  fun H locs ls hP hD hS hl => lv_if_gt C.1.1 C.1.2.1 hd ht (fun q => K1 (by rw [if_pos q] at h; exact h) H locs ls hP hD hS hl) (fun q => by subst hp; exact K2 (by rw [if_neg q] at h; exact h) H locs ls hP hD hS hl)
theorem j_icmp_gt (C : jC x cc nL own) {α : Type} {res : α} {MA MB : Option α} {a b : Int32} {off : Int} {tgt : Nat} (hd : decode cc pc = .ok (.if_icmp .gt off, 3)) (ht : (pc : Int) + off = (tgt : Int)) (hp : pc + 3 = pc') (h : (if b < a then MA else MB) = some res) (K1 : MA = some res → jW x nL kc ks tgt lv st w) (K2 : MB = some res → jW x nL kc ks pc' lv st w) : jW x nL kc ks pc lv (.int b :: .int a :: st) w :=
  fun H locs ls hP hD hS hl => lv_icmp_gt C.1.1 C.1.2.1 hd ht (fun q => K1 (by rw [if_pos q] at h; exact h) H locs ls hP hD hS hl) (fun q => by subst hp; exact K2 (by rw [if_neg q] at h; exact h) H locs ls hP hD hS hl)
theorem j_if_le (C : jC x cc nL own) {α : Type} {res : α} {MA MB : Option α} {a : Int32} {off : Int} {tgt : Nat} (hd : decode cc pc = .ok (.ifCond .le off, 3)) (ht : (pc : Int) + off = (tgt : Int)) (hp : pc + 3 = pc') (h : (if a ≤ 0 then MA else MB) = some res) (K1 : MA = some res → jW x nL kc ks tgt lv st w) (K2 : MB = some res → jW x nL kc ks pc' lv st w) : jW x nL kc ks pc lv (.int a :: st) w :=
  fun H locs ls hP hD hS hl => lv_if_le C.1.1 C.1.2.1 hd ht (fun q => K1 (by rw [if_pos q] at h; exact h) H locs ls hP hD hS hl) (fun q => by subst hp; exact K2 (by rw [if_neg q] at h; exact h) H locs ls hP hD hS hl)
theorem j_icmp_le (C : jC x cc nL own) {α : Type} {res : α} {MA MB : Option α} {a b : Int32} {off : Int} {tgt : Nat} (hd : decode cc pc = .ok (.if_icmp .le off, 3)) (ht : (pc : Int) + off = (tgt : Int)) (hp : pc + 3 = pc') (h : (if a ≤ b then MA else MB) = some res) (K1 : MA = some res → jW x nL kc ks tgt lv st w) (K2 : MB = some res → jW x nL kc ks pc' lv st w) : jW x nL kc ks pc lv (.int b :: .int a :: st) w :=
  fun H locs ls hP hD hS hl => lv_icmp_le C.1.1 C.1.2.1 hd ht (fun q => K1 (by rw [if_pos q] at h; exact h) H locs ls hP hD hS hl) (fun q => by subst hp; exact K2 (by rw [if_neg q] at h; exact h) H locs ls hP hD hS hl)
/-- a tableswitch, value by value; behind the last one the default -/
theorem j_tsw (C : jC x cc nL own) {α : Type} {res : α} {MA MB : Option α} {v k : Int32} {dflt lo hi off : Int} {offs : Array Int} {len tgt : Nat} (hd : decode cc pc = .ok (.tableswitch dflt lo hi offs, len)) (h1 : ¬ k.toInt < lo) (h2 : ¬ hi < k.toInt) (ho : offs[(k.toInt - lo).toNat]? = some off) (ht : (pc : Int) + off = (tgt : Int)) (h : (if v = k then MA else MB) = some res)
    (K1 : MA = some res → jW x nL kc ks tgt lv st w) (K2 : ¬ v = k → MB = some res → jW x nL kc ks pc lv (.int v :: st) w) : jW x nL kc ks pc lv (.int v :: st) w := by
  by_cases q : v = k
  · rw [if_pos q] at h
    subst q
    exact fun H locs ls hP hD hS hl => lv_tableIn C.1.1 C.1.2.1 hd h1 h2 ho ht (K1 h H locs ls hP hD hS hl)
  · rw [if_neg q] at h
    exact K2 q h
theorem j_tswD (C : jC x cc nL own) {v : Int32} {dflt lo hi : Int} {offs : Array Int} {len tgt : Nat} (hd : decode cc pc = .ok (.tableswitch dflt lo hi offs, len)) (hno : v.toInt < lo ∨ hi < v.toInt) (ht : (pc : Int) + dflt = (tgt : Int)) (K : jW x nL kc ks tgt lv st w) : jW x nL kc ks pc lv (.int v :: st) w :=
  fun H locs ls hP hD hS hl => lv_tableOut C.1.1 C.1.2.1 hd hno ht (K H locs ls hP hD hS hl)
theorem tiNe {v k : Int32} {z : Int} (hz : k.toInt = z) (h : ¬ v = k) : v.toInt ≠ z := fun e => h (Int32.toInt_inj.mp (e.trans hz.symm))
theorem j_get (C : jC x cc nL own) {ref Cn : String} {T : u_T} {N ci index a : Nat} (hin : ∀ z ∈ u_ws Cn T N, z ∈ WS) (q0 : Nat) {fs : List Value} (he : w[q0]? = some (a, .inr (ci, fs))) (hc : vwCl[ci]? = some (Cn, T, N)) (k : Nat) (hk : k < N) (hlink : Cond.fieldLink own index ref (T k).2.1 (T k).2.2.1 ∈ WS) (hsame : (T k).1 = ref) {v : Value} (hv : fs[k]? = some v) (hd : decode cc pc = .ok (.getfield index, 3)) (hp : pc + 3 = pc') (K : jW x nL kc ks pc' lv (v :: st) w) : jW x nL kc ks pc lv (.ref a :: st) w :=
  fun H locs ls hP hD hS hl => va_get (D := jD x) (ci := ci) C.1.1 C.1.2.1 C.1.2.2.2.2 hin C.1.2.2.2.1 C.2.1 hP q0 he hc k hk (C.1.2.2.2.2 _ hlink) (fun _ h9 => by rw [← hsame]; exact h9) hv hd (by subst hp; exact K H locs ls hP hD hS hl)
theorem j_getN (C : jC x cc nL own) {ref Cn host : String} {T : u_T} {N ci index a : Nat} (hin : ∀ z ∈ u_ws Cn T N, z ∈ WS) (q0 : Nat) {fs : List Value} (he : w[q0]? = some (a, .inr (ci, fs))) (hc : vwCl[ci]? = some (Cn, T, N)) (k : Nat) (hk : k < N) (hlink : Cond.fieldLinkNest own index ref (T k).2.1 (T k).2.2.1 host ∈ NWS) (hsame : (T k).1 = ref) {v : Value} (hv : fs[k]? = some v) (hd : decode cc pc = .ok (.getfield index, 3)) (hp : pc + 3 = pc') (K : jW x nL kc ks pc' lv (v :: st) w) : jW x nL kc ks pc lv (.ref a :: st) w :=
  fun H locs ls hP hD hS hl => va_getN (D := jD x) (ci := ci) C.1.1 C.1.2.1 C.1.2.2.2.2 hin C.1.2.2.2.1 C.2.1 hP q0 he hc k hk (va_Nw.use (nest_on hlink) (C.2.2.2.2 _ hlink)) (fun _ h9 => by rw [← hsame]; exact h9) hv hd (by subst hp; exact K H locs ls hP hD hS hl)
theorem j_put (C : jC x cc nL own) {ref Cn : String} {T : u_T} {N ci index a : Nat} {ty0 : Nat → FieldType} (hin : ∀ z ∈ u_ws Cn T N, z ∈ WS) (hty : ∀ k, k < N → parseFieldDescriptor (T k).2.2.1 = some (ty0 k)) (hnm : ∀ a, a < N → ∀ b, b < N → a ≠ b → (T a).2.1 ≠ (T b).2.1) (q0 : Nat) {fs : List Value} (he : w[q0]? = some (a, .inr (ci, fs))) (hc : vwCl[ci]? = some (Cn, T, N)) (k : Nat) (hk : k < N) (hlink : Cond.fieldLink own index ref (T k).2.1 (T k).2.2.1 ∈ WS) (hsame : (T k).1 = ref) (hfin : (T k).2.2.2 = false) (hty1 : ty0 k = .int) {v : Int32} (hl : k < fs.length) {α τ : Type} {res : α} {B : τ → Option α} {t0 : τ} (wf : τ → va_W) (hd : decode cc pc = .ok (.putfield index, 3)) (hp : pc + 3 = pc') (h0 : mlet t0 B = some res) (hw : w.set q0 (a, .inr (ci, fs.set k (.int v))) = wf t0) (K : ∀ t : τ, B t = some res → jW x nL kc ks pc' lv st (wf t)) : jW x nL kc ks pc lv (.int v :: .ref a :: st) w :=
  fun H locs ls hP hD hS h => va_put (D := jD x) (ci := ci) (ty := .int) C.1.1 C.1.2.1 C.1.2.2.2.2 hin ty0 hty hnm C.1.2.2.2.1 C.2.1 hP hD hS q0 he hc k hk (C.1.2.2.2.2 _ hlink) (fun _ h9 => by rw [← hsame]; exact h9) hfin (by rw [hty k hk, hty1]) rfl rfl hl hd (fun H1 locs1 hP1 hD1 hS1 => by rw [hw] at hP1 hD1; subst hp; exact K t0 h0 H1 locs1 ls hP1 hD1 hS1 h)
theorem j_iald (C : jC x cc nL own) {α : Type} {res : α} {B : Int32 → Option α} {a n : Nat} {cA : ClassId} {f : Nat → Int32} {i : Int32} (q0 t0 : Nat) (ha : w[q0]? = some (a, .inl (cA, n, .inl f))) (ht : (jT x)[t0]? = some (cA, .int)) (hd : decode cc pc = .ok (.iaload, 1)) (hp : pc + 1 = pc') (h : mrd n f i B = some res) (K : ∀ v : Int32, B v = some res → jW x nL kc ks pc' lv (.int v :: st) w) : jW x nL kc ks pc lv (.int i :: .ref a :: st) w :=
  fun H locs ls hP hD hS hl => va_iald C.1.1 C.1.2.1 C.2.1 hP q0 t0 ha ht (mrd_some h).1 hd (by subst hp; exact K _ (mrd_some h).2 H locs ls hP hD hS hl)
theorem j_lald (C : jC x cc nL own) {α : Type} {res : α} {B : Int64 → Option α} {a n : Nat} {cA : ClassId} {f : Nat → Int64} {i : Int32} (q0 t0 : Nat) (ha : w[q0]? = some (a, .inl (cA, n, .inr (.inl f)))) (ht : (jT x)[t0]? = some (cA, .long)) (hd : decode cc pc = .ok (.laload, 1)) (hp : pc + 1 = pc') (h : mrd n f i B = some res) (K : ∀ v : Int64, B v = some res → jW x nL kc ks pc' lv (.long v :: st) w) : jW x nL kc ks pc lv (.int i :: .ref a :: st) w :=
  fun H locs ls hP hD hS hl => va_lald C.1.1 C.1.2.1 C.2.1 hP q0 t0 ha ht (mrd_some h).1 hd (by subst hp; exact K _ (mrd_some h).2 H locs ls hP hD hS hl)
theorem j_iast (C : jC x cc nL own) {α τ : Type} {res : α} {B : τ → Option α} {t0 : τ} {a n : Nat} {cA : ClassId} {f : Nat → Int32} {i v : Int32} (wf : τ → va_W) (q0 ty0 : Nat) (ha : w[q0]? = some (a, .inl (cA, n, .inl f))) (ht : (jT x)[ty0]? = some (cA, .int)) (hd : decode cc pc = .ok (.iastore, 1)) (hp : pc + 1 = pc') (h : mck n i (mlet t0 B) = some res) (hw : w.set q0 (a, .inl (cA, n, .inl (upd f i.toNatClampNeg v))) = wf t0) (K : ∀ t : τ, B t = some res → jW x nL kc ks pc' lv st (wf t)) : jW x nL kc ks pc lv (.int v :: .int i :: .ref a :: st) w :=
  fun H locs ls hP hD hS hl => va_iast C.1.1 C.1.2.1 C.2.1 hP hD hS q0 ty0 ha ht (mck_some h).1 hd (fun H1 locs1 hP1 hD1 hS1 => by rw [hw] at hP1 hD1; subst hp; exact K t0 (mck_some h).2 H1 locs1 ls hP1 hD1 hS1 hl)
theorem j_last (C : jC x cc nL own) {α τ : Type} {res : α} {B : τ → Option α} {t0 : τ} {a n : Nat} {cA : ClassId} {f : Nat → Int64} {i : Int32} {v : Int64} (wf : τ → va_W) (q0 ty0 : Nat) (ha : w[q0]? = some (a, .inl (cA, n, .inr (.inl f)))) (ht : (jT x)[ty0]? = some (cA, .long)) (hd : decode cc pc = .ok (.lastore, 1)) (hp : pc + 1 = pc') (h : mck n i (mlet t0 B) = some res) (hw : w.set q0 (a, .inl (cA, n, .inr (.inl (vp_updL f i.toNatClampNeg v)))) = wf t0) (K : ∀ t : τ, B t = some res → jW x nL kc ks pc' lv st (wf t)) : jW x nL kc ks pc lv (.long v :: .int i :: .ref a :: st) w :=
  fun H locs ls hP hD hS hl => va_last C.1.1 C.1.2.1 C.2.1 hP hD hS q0 ty0 ha ht (mck_some h).1 hd (fun H1 locs1 hP1 hD1 hS1 => by rw [hw] at hP1 hD1; subst hp; exact K t0 (mck_some h).2 H1 locs1 ls hP1 hD1 hS1 hl)
theorem j_alen (C : jC x cc nL own) {a : Nat} {cA : ClassId} {y : vp_A} (q0 t0 : Nat) (ha : w[q0]? = some (a, .inl (cA, y))) {ty : FieldType} (ht : (jT x)[t0]? = some (cA, ty)) {v : Int32} (hv : Int32.ofNat y.1 = v) (hd : decode cc pc = .ok (.arraylength, 1)) (hp : pc + 1 = pc') (K : jW x nL kc ks pc' lv (.int v :: st) w) : jW x nL kc ks pc lv (.ref a :: st) w :=
  fun H locs ls hP hD hS hl => va_alen C.1.1 C.1.2.1 C.2.1 hP q0 t0 ha ht hv hd (by subst hp; exact K H locs ls hP hD hS hl)
/-- the contract of a method that returns v, over the worlds w0 and w1 (its cells, and what else is told) -/
def jM (l : Launch) (y : MethodName) (ws : List Cond) (rm : Room) (D : va_G) (tys : List (ClassId × FieldType)) (av : List Value) (w0 : va_W) (v : Option Value) (w1 : va_W) : Prop :=
  ∀ sz : Nat, Met l y ws rm (va_Pc av (fun U => U.heap.size = sz ∧ va_P D vwCl w0 U.heap ∧ va_K D vwCl tys U ∧ va_D (fun _ => True) w0 ∧ jN U)) (fun _ st oc t => oc = .returned v ∧ va_P D vwCl w1 t.heap ∧ va_D (va_A w0 sz) w1 ∧ va_F (va_A w0 sz) st t) rm.cells rm.slots (va_A w0 sz)
/-- the end that a body owes -/
def jE (x : JX) (kc ks : Nat) (v : Option Value) (w1 : va_W) : Prop :=
  jQ x = MQ (jb x) (fun _ st oc t => oc = .returned v ∧ va_P (jD x) vwCl w1 t.heap ∧ va_D (jA x) w1 ∧ va_F (jA x) st t) (ja x) (js x) kc ks (jA x)
theorem j_iret (C : jC x cc nL own) {v : Int32} (E : jE x kc ks (some (.int v)) w) (hr : (jt x).sig.returnType = some .int) (hd : decode cc pc = .ok (.ireturn, 1)) : jW x nL kc ks pc lv [.int v] w := by
  intro H locs ls hP hD hS hl
  rw [E]
  exact W.iret C.1.1 C.1.2.1 hr (fun t ht hW => ⟨rfl, by rw [ht]; exact hP, hD, hS.F ht⟩) hS.2.2 hd C.2.2.2.1
theorem j_zret (C : jC x cc nL own) {v : Int32} {ty : FieldType} (E : jE x kc ks (some (.int v)) w) (hr : (jt x).sig.returnType = some ty) (hn : narrow ty (.int v) = .int v) (hd : decode cc pc = .ok (.ireturn, 1)) : jW x nL kc ks pc lv [.int v] w := by
  intro H locs ls hP hD hS hl
  rw [E]
  exact W.zret C.1.1 C.1.2.1 hr hn (fun t ht hW => ⟨rfl, by rw [ht]; exact hP, hD, hS.F ht⟩) hS.2.2 hd C.2.2.2.1
theorem j_vret (C : jC x cc nL own) (E : jE x kc ks none w) (hr : (jt x).sig.returnType = none) (hd : decode cc pc = .ok (.return_, 1)) : jW x nL kc ks pc lv [] w := by
  intro H locs ls hP hD hS hl
  rw [E]
  exact W.vret C.1.1 C.1.2.1 hr (fun t ht hW => ⟨rfl, by rw [ht]; exact hP, hD, hS.F ht⟩) hS.2.2 hd C.2.2.2.1
/-- from a body to its contract -/
theorem j_of {l : Launch} {y : MethodName} {ws : List Cond} {rm : Room} {D : va_G} {tys : List (ClassId × FieldType)} {av : List Value} {w0 w1 : va_W} {v : Option Value} {bytes : ByteArray} {maxL : Nat} {ret : Option FieldType}
    (hy : plainName y.cls = true) (hw : ws = Cond.code y bytes maxL ret :: WS) (hav : (lg_sl av).length ≤ maxL) (hlv : lv_args 0 av = lv)
    (body : ∀ x : JX, jl x = l → jD x = D → jT x = tys → jR x = rm → jC x bytes maxL y.cls → (jt x).sig.returnType = ret → ((jt x).name = y.name) → jE x rm.cells rm.slots v w1 → jW x maxL 0 0 0 lv [] w0) : jM l y ws rm D tys av w0 v w1 := by
  intro sz
  refine Met.ofW hy hw ?_
  intro p e s m args below meth c s₁ B hml hv
  obtain ⟨rfl, hsz, hP, hK, hD0, hN⟩ := hv
  subst hsz
  have hlv' := lv_entry av (n := maxL) hav
  rw [hlv] at hlv'
  rw [lg_entry_eq]
  refine body ((p, l, e, (headSpec ws rm).room, s), (m, av.toArray, below, meth, c), (D, tys, va_A w0 s.heap.size, MQ below (fun _ st oc t => oc = .returned v ∧ va_P D vwCl w1 t.heap ∧ va_D (va_A w0 s.heap.size) w1 ∧ va_F (va_A w0 s.heap.size) st t) av.toArray s rm.cells rm.slots (va_A w0 s.heap.size))) rfl rfl rfl rfl ⟨⟨B.exec, B.bytes, hml, findClass_of_methodNamed B.named, fun z hz => atoms_spec (ws := ws) B.pre z (by rw [hw]; exact List.mem_cons_of_mem _ hz)⟩, hK, fun q h => Or.inr h, B.notSynchronized, hN⟩ B.returns (name_of_methodNamed B.named B.method).1 rfl s.heap [] _ hP (hD0.self) va_S.rf hlv'
theorem j_frame {A0 : Nat → Prop} {w0 : va_W} {H0 H : Heap} {locs : List Loc} (hD : va_D A0 w0) (hS : va_S A0 H0 H locs) (hA : ∀ q, H0.size ≤ q → A0 q) : ∀ q, va_A w0 H.size q → A0 q := by
  intro q h
  rcases h with ⟨k, e, hk⟩ | h
  · exact hD.2 k (q, e) hk
  · exact hA q (Nat.le_trans hS.1 h)
/-- behind a call -/
theorem j_run (C : jC x cc nL own) {rest : List Value} {v : Option Value} {w1 : va_W} {mc ms : Nat}
    (hr : ∀ (H : Heap) (locs : List Loc) (ls : Array Slot), va_P (jD x) vwCl w H → va_D (jA x) w → va_S (jA x) (js x).heap H locs → lv_has ls nL lv →
      va_Run (jp x) (jl x) (je x) (jR x) (js x) (jm x) (ja x) (jb x) (jt x) (jc x) H locs kc ks mc ms (F0 (jm x) pc ls st) rest (fun st0 oc t => oc = .returned v ∧ va_P (jD x) vwCl w1 t.heap ∧ va_D (va_A w H.size) w1 ∧ va_F (va_A w H.size) st0 t) (va_A w H.size))
    (K : jW x nL (kc + mc) (ks + ms) (pc + 3) lv (v.toList ++ rest) w1) : jW x nL kc ks pc lv st w := by
  intro H locs ls hP hD hS hl T hT X
  obtain ⟨v', st₀, t, T', L, h0, X', hL, e1, e2, ⟨hv, hP1, hD1, hF⟩, go⟩ := hr H locs ls hP hD hS hl T hT X
  cases hv
  have hfr := j_frame hD hS C.2.2.1
  have hS1 : va_S (jA x) (js x).heap T'.heap (locs ++ L) := by
    refine ⟨?_, ?_, ?_⟩
    · rw [e1]; exact Nat.le_trans hS.1 (by rw [← h0]; exact hF.1)
    · intro q hq hn
      have hq1 : q < H.size := Nat.lt_of_lt_of_le hq hS.1
      rw [e1, hF.2 q (by rw [h0]; exact hq1) (fun h => hn (hfr q h)), h0]
      exact hS.2.1 q hq hn
    · intro z hz
      rcases List.mem_append.mp hz with h | h
      · exact hS.2.2 z h
      · exact hfr _ (hL z h)
  obtain ⟨t2, a1, b1⟩ := K T'.heap (locs ++ L) ls (by rw [e1]; exact hP1) (hD1.weaken (fun _ q _ hq => hfr _ hq)) hS1 hl T' rfl X'
  exact ⟨t2, go t2 a1, b1⟩
theorem j_pre {l : Launch} {D : va_G} {tys : List (ClassId × FieldType)} {av : List Value} {w0 : va_W} {sz : Nat} : FrameBlind (va_Pc av (fun U => U.heap.size = sz ∧ va_P D vwCl w0 U.heap ∧ va_K D vwCl tys U ∧ va_D (fun _ => True) w0 ∧ jN U)) := fun a U g mk q => by
  obtain ⟨q0, q1, qP, qK, qD, qN⟩ := q
  exact ⟨q0, q1, qP, va_K.moved (u := U) (U := U.calling g mk a) (Vm.Alike.refl U.vm) qK, qD, jN.same (s := U) (U := U.calling g mk a) rfl qN⟩
theorem j_at (C : jC x cc nL own) {av : List Value} {H : Heap} (hP : va_P (jD x) vwCl w H) (hD : va_D (jA x) w) : ∀ U : State, U.heap = H → (js x).WarmedH U.vm → va_Pc av (fun U => U.heap.size = H.size ∧ va_P (jD x) vwCl w U.heap ∧ va_K (jD x) vwCl (jT x) U ∧ va_D (fun _ => True) w ∧ jN U) av.toArray U :=
  fun U hU hW => ⟨rfl, by rw [hU], by rw [hU]; exact hP, va_K.moved hW.alike C.2.1, hD.weaken (fun _ _ _ _ => trivial), C.2.2.2.2.warm hW⟩
theorem j_callS (C : jC x cc nL own) {rm0 : Room} (hR : jR x = rm0) {y : MethodName} {bytes : ByteArray} {maxL n index : Nat} {ret : Option FieldType} {rm : Room} {As rest : List Value} {v : Option Value} {w1 : va_W} (hM : jM (jl x) y (Cond.code y bytes maxL ret :: WS) rm (jD x) (jT x) (As) w v w1) (kf : Cond.code y bytes maxL ret ∈ WS ∧ Cond.initialized y.cls ∈ WS ∧ (y.cls ≠ "java/lang/invoke/MethodHandle" ∧ y.cls ≠ "java/lang/invoke/VarHandle" ∧ (parseMethodDescriptor y.desc).map (fun d => d.parameters.length) = some n)) (hrm : rm.frames + 1 ≤ rm0.frames ∧ 8 + (maxL + 11) + rm.locals ≤ rm0.locals) (hlk : Cond.methodLink own index y ∈ WS) (hs : Cond.static y ∈ WS) (hn : As.length = n) (hst : st = As.reverse ++ rest) (hW : (rest.map fun v => v.category).sum ≤ 8) (hf : kc ≤ rm0.cells ∧ ks ≤ rm0.slots) (h0 : rm.cells = 0 ∧ rm.slots = 0) (hd : decode cc pc = .ok (.invokestatic index, 3)) (hp : pc + 3 = pc') {st1 : List Value} (hs1 : v.toList ++ rest = st1) (K : jW x nL kc ks pc' lv st1 w1) : jW x nL kc ks pc lv (st) w := by
  subst hp
  refine j_run C (fun H locs ls hP hD hS hl => ?_) (mc := rm.cells) (ms := rm.slots) (v := v) (rest := rest) (by rw [h0.1, h0.2, hs1]; exact K)
  exact va_runS C.1 (hM H.size) ⟨callB_of n C.1.2.2.2.2 (ws_good (fun z hz => (List.mem_cons.mp hz).elim (fun e => by rw [e]; exact kf.1) (fun h => h))) rfl rfl rfl (C.1.2.2.2.2 _ kf.2.1) (C.1.2.2.2.2 _ hlk) kf.2.2 (by rw [hR]; exact hrm), C.1.2.2.2.2 _ hs⟩ ⟨j_pre (l := jl x), j_at C hP hD⟩ rfl hn hl.1 hst (lv_room (m := jm x) (pc := pc) (ls := ls) (rest := st) hW) hd (by rw [hR, h0.1, h0.2]; exact hf)
theorem j_callSN (C : jC x cc nL own) {rm0 : Room} (hR : jR x = rm0) {y : MethodName} {bytes : ByteArray} {maxL n index : Nat} {ret : Option FieldType} {rm : Room} {As rest : List Value} {v : Option Value} {w1 : va_W} {host : String} (hM : jM (jl x) y (Cond.code y bytes maxL ret :: WS) rm (jD x) (jT x) (As) w v w1) (kf : Cond.code y bytes maxL ret ∈ WS ∧ Cond.initialized y.cls ∈ WS ∧ (y.cls ≠ "java/lang/invoke/MethodHandle" ∧ y.cls ≠ "java/lang/invoke/VarHandle" ∧ (parseMethodDescriptor y.desc).map (fun d => d.parameters.length) = some n)) (hrm : rm.frames + 1 ≤ rm0.frames ∧ 8 + (maxL + 11) + rm.locals ≤ rm0.locals) (hlk : Cond.methodLinkNest own index y host ∈ NWS) (hs : Cond.static y ∈ WS) (hn : As.length = n) (hst : st = As.reverse ++ rest) (hW : (rest.map fun v => v.category).sum ≤ 8) (hf : kc ≤ rm0.cells ∧ ks ≤ rm0.slots) (h0 : rm.cells = 0 ∧ rm.slots = 0) (hd : decode cc pc = .ok (.invokestatic index, 3)) (hp : pc + 3 = pc') {st1 : List Value} (hs1 : v.toList ++ rest = st1) (K : jW x nL kc ks pc' lv st1 w1) : jW x nL kc ks pc lv (st) w := by
  subst hp
  refine j_run C (fun H locs ls hP hD hS hl => ?_) (mc := rm.cells) (ms := rm.slots) (v := v) (rest := rest) (by rw [h0.1, h0.2, hs1]; exact K)
  exact va_runSN C.1 (hM H.size) ⟨va_cnB n C.1.2.2.2.2 (ws_good (fun z hz => (List.mem_cons.mp hz).elim (fun e => by rw [e]; exact kf.1) (fun h => h))) rfl rfl rfl (C.2.2.2.2 _ hlk) (C.1.2.2.2.2 _ kf.2.1) kf.2.2 (by rw [hR]; exact hrm), C.1.2.2.2.2 _ hs, trivial⟩ ⟨j_pre (l := jl x), j_at C hP hD⟩ rfl hn hl.1 hst (lv_room (m := jm x) (pc := pc) (ls := ls) (rest := st) hW) hd (by rw [hR, h0.1, h0.2]; exact hf)
theorem j_callV (C : jC x cc nL own) {rm0 : Room} (hR : jR x = rm0) {y : MethodName} {bytes : ByteArray} {maxL n index : Nat} {ret : Option FieldType} {rm : Room} {As rest : List Value} {v : Option Value} {w1 : va_W} {Cn : String} {b ci : Nat} {T : u_T} {N : Nat} {fs : List Value} (hM : jM (jl x) y (Cond.code y bytes maxL ret :: WS) rm (jD x) (jT x) (.ref b :: As) w v w1) (kf : Cond.code y bytes maxL ret ∈ WS ∧ Cond.initialized y.cls ∈ WS ∧ (y.cls ≠ "java/lang/invoke/MethodHandle" ∧ y.cls ≠ "java/lang/invoke/VarHandle" ∧ (parseMethodDescriptor y.desc).map (fun d => d.parameters.length) = some n)) (hrm : rm.frames + 1 ≤ rm0.frames ∧ 8 + (maxL + 11) + rm.locals ≤ rm0.locals) (hlk : Cond.methodLink own index y ∈ WS) (hi : Cond.instanceMethod y ∈ WS) (hs : Cond.selects Cn y y ∈ WS) (q0 : Nat) (hc : vwCl[ci]? = some (Cn, T, N)) (he : w[q0]? = some (b, .inr (ci, fs))) (hn : As.length = n) (hst : st = As.reverse ++ .ref b :: rest) (hW : (rest.map fun v => v.category).sum ≤ 8) (hf : kc ≤ rm0.cells ∧ ks ≤ rm0.slots) (h0 : rm.cells = 0 ∧ rm.slots = 0) (hd : decode cc pc = .ok (.invokevirtual index, 3)) (hp : pc + 3 = pc') {st1 : List Value} (hs1 : v.toList ++ rest = st1) (K : jW x nL kc ks pc' lv st1 w1) : jW x nL kc ks pc lv (st) w := by
  subst hp
  refine j_run C (fun H locs ls hP hD hS hl => ?_) (mc := rm.cells) (ms := rm.slots) (v := v) (rest := rest) (by rw [h0.1, h0.2, hs1]; exact K)
  exact va_runV C.1 (hM H.size) ⟨callB_of n C.1.2.2.2.2 (ws_good (fun z hz => (List.mem_cons.mp hz).elim (fun e => by rw [e]; exact kf.1) (fun h => h))) rfl rfl rfl (C.1.2.2.2.2 _ kf.2.1) (C.1.2.2.2.2 _ hlk) kf.2.2 (by rw [hR]; exact hrm), C.1.2.2.2.2 _ hi, C.1.2.2.2.2 _ hs⟩ ⟨j_pre (l := jl x), va_recv C.2.1 hP (ci := ci) (q0 := q0) hc he, j_at C hP hD⟩ rfl hn hl.1 hst (lv_room (m := jm x) (pc := pc) (ls := ls) (rest := st) hW) hd (by rw [hR, h0.1, h0.2]; exact hf)
theorem j_callVN (C : jC x cc nL own) {rm0 : Room} (hR : jR x = rm0) {y : MethodName} {bytes : ByteArray} {maxL n index : Nat} {ret : Option FieldType} {rm : Room} {As rest : List Value} {v : Option Value} {w1 : va_W} {Cn : String} {b ci : Nat} {T : u_T} {N : Nat} {fs : List Value} {host : String} (hM : jM (jl x) y (Cond.code y bytes maxL ret :: WS) rm (jD x) (jT x) (.ref b :: As) w v w1) (kf : Cond.code y bytes maxL ret ∈ WS ∧ Cond.initialized y.cls ∈ WS ∧ (y.cls ≠ "java/lang/invoke/MethodHandle" ∧ y.cls ≠ "java/lang/invoke/VarHandle" ∧ (parseMethodDescriptor y.desc).map (fun d => d.parameters.length) = some n)) (hrm : rm.frames + 1 ≤ rm0.frames ∧ 8 + (maxL + 11) + rm.locals ≤ rm0.locals) (hlk : Cond.methodLinkNest own index y host ∈ NWS) (hi : Cond.instanceMethod y ∈ WS) (hs : Cond.selects Cn y y ∈ WS) (q0 : Nat) (hc : vwCl[ci]? = some (Cn, T, N)) (he : w[q0]? = some (b, .inr (ci, fs))) (hn : As.length = n) (hst : st = As.reverse ++ .ref b :: rest) (hW : (rest.map fun v => v.category).sum ≤ 8) (hf : kc ≤ rm0.cells ∧ ks ≤ rm0.slots) (h0 : rm.cells = 0 ∧ rm.slots = 0) (hd : decode cc pc = .ok (.invokevirtual index, 3)) (hp : pc + 3 = pc') {st1 : List Value} (hs1 : v.toList ++ rest = st1) (K : jW x nL kc ks pc' lv st1 w1) : jW x nL kc ks pc lv (st) w := by
  subst hp
  refine j_run C (fun H locs ls hP hD hS hl => ?_) (mc := rm.cells) (ms := rm.slots) (v := v) (rest := rest) (by rw [h0.1, h0.2, hs1]; exact K)
  exact va_runVN C.1 (hM H.size) ⟨va_cnB n C.1.2.2.2.2 (ws_good (fun z hz => (List.mem_cons.mp hz).elim (fun e => by rw [e]; exact kf.1) (fun h => h))) rfl rfl rfl (C.2.2.2.2 _ hlk) (C.1.2.2.2.2 _ kf.2.1) kf.2.2 (by rw [hR]; exact hrm), C.1.2.2.2.2 _ hi, C.1.2.2.2.2 _ hs⟩ ⟨j_pre (l := jl x), va_recv C.2.1 hP (ci := ci) (q0 := q0) hc he, j_at C hP hD⟩ rfl hn hl.1 hst (lv_room (m := jm x) (pc := pc) (ls := ls) (rest := st) hW) hd (by rw [hR, h0.1, h0.2]; exact hf)
theorem j_mmin (C : jC x cc nL own) {rm0 : Room} (hR : jR x = rm0) {index : Nat} {a b : Int32} {α : Type} {res : α} {B : Int32 → Option α} (hlk : Cond.methodLink own index Lib.Math.min.name ∈ WS) (hs : Cond.static Lib.Math.min.name ∈ WS) (hini : Cond.initialized "java/lang/Math" ∈ WS) (hcode : Cond.code Lib.Math.min.name Lib.Math.min.code 2 (some .int) ∈ WS) (hfr : 1 ≤ rm0.frames) (hlo : (st.map fun v => v.category).sum + 13 ≤ rm0.locals) (hc : kc ≤ rm0.cells) (hk : ks ≤ rm0.slots) (hd : decode cc pc = .ok (.invokestatic index, 3)) (hp : pc + 3 = pc') (h : mlet (if b < a then b else a) B = some res) (K : ∀ v : Int32, B v = some res → jW x nL kc ks pc' lv (.int v :: st) w) : jW x nL kc ks pc lv (.int b :: .int a :: st) w :=
  fun H locs ls hP hD hS hl => va_mmin C.1.1 C.1.2.1 (by rw [C.1.2.2.1]; exact hl.1.symm) C.1.2.2.2.1 (C.1.2.2.2.2 _ hlk) (C.1.2.2.2.2 _ hs) (C.1.2.2.2.2 _ hini) (C.1.2.2.2.2 _ hcode) (by rw [hR]; exact hfr) (by rw [hR]; exact hlo) (by rw [hR]; exact hc) (by rw [hR]; exact hk) hd (by subst hp; exact K _ h H locs ls hP hD hS hl)
def mzr {α : Type} (v : Int32) (M : Option α) : Option α := if v = 0 ∨ v = 1 then M else none
theorem mzr_some {α : Type} {v : Int32} {M : Option α} {r : α} (h : mzr v M = some r) : narrow .boolean (.int v) = .int v ∧ M = some r := by
  unfold mzr at h
  split at h
  · rename_i hc
    refine ⟨?_, h⟩
    rcases hc with rfl | rfl <;> rfl
  · cases h
def FU : Nat := 100000
/-- an array filled -/
def fil (n : Nat) (v : Int32) (f : Nat → Int32) : Nat → Int32 := fun j => if j < n then v else f j
theorem fil_0 (v : Int32) (f : Nat → Int32) : fil 0 v f = f := by funext j; simp [fil]
theorem fil_s {k : Nat} (hk : k < 2 ^ 31) (v : Int32) (f : Nat → Int32) : upd (fil k v f) (nI k).toNatClampNeg v = fil (k + 1) v f := by
  funext j
  rw [nI_clamp hk]
  simp only [upd, fil]
  by_cases h1 : j = k
  · rw [if_pos h1, if_pos (by omega)]
  · rw [if_neg h1]
    by_cases h2 : j < k
    · rw [if_pos h2, if_pos (by omega)]
    · rw [if_neg h2, if_neg (by omega)]
theorem j_copy (C : jC x cc nL own) {rm0 : Room} (hR : jR x = rm0) {index : Nat} (hlk : Cond.methodLink own index arraycopyName ∈ WS) (hnat : Cond.native arraycopyName ∈ WS) (hstat : Cond.static arraycopyName ∈ WS) (hini : Cond.initialized "java/lang/System" ∈ WS) (q0 q1 : Nat) {a0 a1 : Nat} {cA : ClassId} {n0 n1 : Nat} {f g : Nat → Int32} (ha0 : w[q0]? = some (a0, .inl (cA, n0, .inl f))) (ha1 : w[q1]? = some (a1, .inl (cA, n1, .inl g))) (hT : (jT x)[0]? = some (cA, .int))
    {sp dp n : Int32} (h1 : ¬ sp < 0) (h2 : ¬ dp < 0) (h3 : ¬ n < 0) (h4 : sp.toNatClampNeg + n.toNatClampNeg ≤ n0) (h5 : dp.toNatClampNeg + n.toNatClampNeg ≤ n1) (hfr : 1 ≤ rm0.frames) (hlo : (st.map fun v => v.category).sum + (nativeFrameWords "java/lang/System" "arraycopy" 5 + 11) ≤ rm0.locals) (hd : decode cc pc = .ok (.invokestatic index, 3)) (hp : pc + 3 = pc') {α τ : Type} {res : α} {B : τ → Option α} {t0 : τ} (wf : τ → va_W) (h : mlet t0 B = some res) (hw : w.set q1 (a1, .inl (cA, n1, .inl (va_cpy f g sp.toNatClampNeg dp.toNatClampNeg n.toNatClampNeg))) = wf t0) (K : ∀ t : τ, B t = some res → jW x nL kc ks pc' lv st (wf t)) : jW x nL kc ks pc lv (.int n :: .int dp :: .ref a1 :: .int sp :: .ref a0 :: st) w :=
  fun H locs ls hP hD hS hl => va_copyi C.1.1 C.1.2.1 (by rw [C.1.2.2.1]; exact hl.1.symm) C.1.2.2.2.1 (C.1.2.2.2.2 _ hlk) (C.1.2.2.2.2 _ hnat) (C.1.2.2.2.2 _ hstat) (C.1.2.2.2.2 _ hini) C.2.1 hP hD hS q0 q1 0 0 ha0 ha1 hT hT rfl h1 h2 h3 h4 h5 (fun i hi => rfl) (by rw [hR]; exact hfr) (by rw [hR]; exact hlo) hd (fun H1 locs1 hP1 hD1 hS1 => by rw [hw] at hP1 hD1; subst hp; exact K t0 h H1 locs1 ls hP1 hD1 hS1 hl)
end JROWS
end
section
theorem d_P_init_0 : decode cc_P_init 0 = .ok (.aload_n 0, 1) := by decide +kernel
theorem d_P_init_1 : decode cc_P_init 1 = .ok (.invokespecial 1, 3) := by decide +kernel
theorem d_P_init_4 : decode cc_P_init 4 = .ok (.aload_n 0, 1) := by decide +kernel
theorem d_P_init_5 : decode cc_P_init 5 = .ok (.sipush 240, 3) := by decide +kernel
theorem d_P_init_8 : decode cc_P_init 8 = .ok (.newarray .int, 2) := by decide +kernel
theorem d_P_init_10 : decode cc_P_init 10 = .ok (.putfield 9, 3) := by decide +kernel
theorem d_P_init_13 : decode cc_P_init 13 = .ok (.aload_n 0, 1) := by decide +kernel
theorem d_P_init_14 : decode cc_P_init 14 = .ok (.iconst 0, 1) := by decide +kernel
theorem d_P_init_15 : decode cc_P_init 15 = .ok (.putfield 13, 3) := by decide +kernel
theorem d_P_init_18 : decode cc_P_init 18 = .ok (.aload_n 0, 1) := by decide +kernel
theorem d_P_init_19 : decode cc_P_init 19 = .ok (.iconst 0, 1) := by decide +kernel
theorem d_P_init_20 : decode cc_P_init 20 = .ok (.putfield 17, 3) := by decide +kernel
theorem d_P_init_23 : decode cc_P_init 23 = .ok (.aload_n 0, 1) := by decide +kernel
theorem d_P_init_24 : decode cc_P_init 24 = .ok (.new 20, 3) := by decide +kernel
theorem d_P_init_27 : decode cc_P_init 27 = .ok (.dup, 1) := by decide +kernel
theorem d_P_init_28 : decode cc_P_init 28 = .ok (.invokespecial 22, 3) := by decide +kernel
theorem d_P_init_31 : decode cc_P_init 31 = .ok (.putfield 23, 3) := by decide +kernel
theorem d_P_init_34 : decode cc_P_init 34 = .ok (.aload_n 0, 1) := by decide +kernel
theorem d_P_init_35 : decode cc_P_init 35 = .ok (.new 27, 3) := by decide +kernel
theorem d_P_init_38 : decode cc_P_init 38 = .ok (.dup, 1) := by decide +kernel
theorem d_P_init_39 : decode cc_P_init 39 = .ok (.invokespecial 29, 3) := by decide +kernel
theorem d_P_init_42 : decode cc_P_init 42 = .ok (.putfield 30, 3) := by decide +kernel
theorem d_P_init_45 : decode cc_P_init 45 = .ok (.aload_n 0, 1) := by decide +kernel
theorem d_P_init_46 : decode cc_P_init 46 = .ok (.new 34, 3) := by decide +kernel
theorem d_P_init_49 : decode cc_P_init 49 = .ok (.dup, 1) := by decide +kernel
theorem d_P_init_50 : decode cc_P_init 50 = .ok (.invokespecial 36, 3) := by decide +kernel
theorem d_P_init_53 : decode cc_P_init 53 = .ok (.putfield 37, 3) := by decide +kernel
theorem d_P_init_56 : decode cc_P_init 56 = .ok (.return_, 1) := by decide +kernel
theorem d_P_event_0 : decode cc_P_event 0 = .ok (.iload_n 1, 1) := by decide +kernel
theorem d_P_event_1 : decode cc_P_event 1 = .ok (.iload_n 2, 1) := by decide +kernel
theorem d_P_event_2 : decode cc_P_event 2 = .ok (.iload_n 3, 1) := by decide +kernel
theorem d_P_event_3 : decode cc_P_event 3 = .ok (.iload 4, 2) := by decide +kernel
theorem d_P_event_5 : decode cc_P_event 5 = .ok (.invokestatic 41, 3) := by decide +kernel
theorem d_P_event_8 : decode cc_P_event 8 = .ok (.ifCond .ne 13, 3) := by decide +kernel
theorem d_P_event_11 : decode cc_P_event 11 = .ok (.new 45, 3) := by decide +kernel
theorem d_P_event_14 : decode cc_P_event 14 = .ok (.dup, 1) := by decide +kernel
theorem d_P_event_15 : decode cc_P_event 15 = .ok (.ldc 47, 2) := by decide +kernel
theorem d_P_event_17 : decode cc_P_event 17 = .ok (.invokespecial 49, 3) := by decide +kernel
theorem d_P_event_20 : decode cc_P_event 20 = .ok (.athrow, 1) := by decide +kernel
theorem d_P_event_21 : decode cc_P_event 21 = .ok (.aload_n 0, 1) := by decide +kernel
theorem d_P_event_22 : decode cc_P_event 22 = .ok (.getfield 13, 3) := by decide +kernel
theorem d_P_event_25 : decode cc_P_event 25 = .ok (.bipush 60, 2) := by decide +kernel
theorem d_P_event_27 : decode cc_P_event 27 = .ok (.if_icmp .lt 13, 3) := by decide +kernel
theorem d_P_event_30 : decode cc_P_event 30 = .ok (.new 52, 3) := by decide +kernel
theorem d_P_event_33 : decode cc_P_event 33 = .ok (.dup, 1) := by decide +kernel
theorem d_P_event_34 : decode cc_P_event 34 = .ok (.ldc 54, 2) := by decide +kernel
theorem d_P_event_36 : decode cc_P_event 36 = .ok (.invokespecial 56, 3) := by decide +kernel
theorem d_P_event_39 : decode cc_P_event 39 = .ok (.athrow, 1) := by decide +kernel
theorem d_P_event_40 : decode cc_P_event 40 = .ok (.aload_n 0, 1) := by decide +kernel
theorem d_P_event_41 : decode cc_P_event 41 = .ok (.aload_n 0, 1) := by decide +kernel
theorem d_P_event_42 : decode cc_P_event 42 = .ok (.getfield 13, 3) := by decide +kernel
theorem d_P_event_45 : decode cc_P_event 45 = .ok (.invokevirtual 57, 3) := by decide +kernel
theorem d_P_event_48 : decode cc_P_event 48 = .ok (.aload_n 0, 1) := by decide +kernel
theorem d_P_event_49 : decode cc_P_event 49 = .ok (.getfield 23, 3) := by decide +kernel
theorem d_P_event_52 : decode cc_P_event 52 = .ok (.iload_n 1, 1) := by decide +kernel
theorem d_P_event_53 : decode cc_P_event 53 = .ok (.iload_n 2, 1) := by decide +kernel
theorem d_P_event_54 : decode cc_P_event 54 = .ok (.iload_n 3, 1) := by decide +kernel
theorem d_P_event_55 : decode cc_P_event 55 = .ok (.iload 4, 2) := by decide +kernel
theorem d_P_event_57 : decode cc_P_event 57 = .ok (.invokevirtual 61, 3) := by decide +kernel
theorem d_P_event_60 : decode cc_P_event 60 = .ok (.ifCond .ne 15, 3) := by decide +kernel
theorem d_P_event_63 : decode cc_P_event 63 = .ok (.aload_n 0, 1) := by decide +kernel
theorem d_P_event_64 : decode cc_P_event 64 = .ok (.dup, 1) := by decide +kernel
theorem d_P_event_65 : decode cc_P_event 65 = .ok (.getfield 17, 3) := by decide +kernel
theorem d_P_event_68 : decode cc_P_event 68 = .ok (.iconst 1, 1) := by decide +kernel
theorem d_P_event_69 : decode cc_P_event 69 = .ok (.iadd, 1) := by decide +kernel
theorem d_P_event_70 : decode cc_P_event 70 = .ok (.putfield 17, 3) := by decide +kernel
theorem d_P_event_73 : decode cc_P_event 73 = .ok (.iconst 0, 1) := by decide +kernel
theorem d_P_event_74 : decode cc_P_event 74 = .ok (.ireturn, 1) := by decide +kernel
theorem d_P_event_75 : decode cc_P_event 75 = .ok (.aload_n 0, 1) := by decide +kernel
theorem d_P_event_76 : decode cc_P_event 76 = .ok (.iload_n 1, 1) := by decide +kernel
theorem d_P_event_77 : decode cc_P_event 77 = .ok (.iload_n 2, 1) := by decide +kernel
theorem d_P_event_78 : decode cc_P_event 78 = .ok (.iload_n 3, 1) := by decide +kernel
theorem d_P_event_79 : decode cc_P_event 79 = .ok (.iload 4, 2) := by decide +kernel
theorem d_P_event_81 : decode cc_P_event 81 = .ok (.invokevirtual 64, 3) := by decide +kernel
theorem d_P_event_84 : decode cc_P_event 84 = .ok (.iconst 1, 1) := by decide +kernel
theorem d_P_event_85 : decode cc_P_event 85 = .ok (.ireturn, 1) := by decide +kernel
theorem d_P_stock_0 : decode cc_P_stock 0 = .ok (.iload_n 1, 1) := by decide +kernel
theorem d_P_stock_1 : decode cc_P_stock 1 = .ok (.iconst (-1), 1) := by decide +kernel
theorem d_P_stock_2 : decode cc_P_stock 2 = .ok (.if_icmp .eq 20, 3) := by decide +kernel
theorem d_P_stock_5 : decode cc_P_stock 5 = .ok (.iload_n 1, 1) := by decide +kernel
theorem d_P_stock_6 : decode cc_P_stock 6 = .ok (.invokestatic 68, 3) := by decide +kernel
theorem d_P_stock_9 : decode cc_P_stock 9 = .ok (.ifCond .ne 13, 3) := by decide +kernel
theorem d_P_stock_12 : decode cc_P_stock 12 = .ok (.new 45, 3) := by decide +kernel
theorem d_P_stock_15 : decode cc_P_stock 15 = .ok (.dup, 1) := by decide +kernel
theorem d_P_stock_16 : decode cc_P_stock 16 = .ok (.ldc 72, 2) := by decide +kernel
theorem d_P_stock_18 : decode cc_P_stock 18 = .ok (.invokespecial 49, 3) := by decide +kernel
theorem d_P_stock_21 : decode cc_P_stock 21 = .ok (.athrow, 1) := by decide +kernel
theorem d_P_stock_22 : decode cc_P_stock 22 = .ok (.iload_n 2, 1) := by decide +kernel
theorem d_P_stock_23 : decode cc_P_stock 23 = .ok (.iconst (-1), 1) := by decide +kernel
theorem d_P_stock_24 : decode cc_P_stock 24 = .ok (.if_icmp .eq 20, 3) := by decide +kernel
theorem d_P_stock_27 : decode cc_P_stock 27 = .ok (.iload_n 2, 1) := by decide +kernel
theorem d_P_stock_28 : decode cc_P_stock 28 = .ok (.invokestatic 74, 3) := by decide +kernel
theorem d_P_stock_31 : decode cc_P_stock 31 = .ok (.ifCond .ne 13, 3) := by decide +kernel
theorem d_P_stock_34 : decode cc_P_stock 34 = .ok (.new 45, 3) := by decide +kernel
theorem d_P_stock_37 : decode cc_P_stock 37 = .ok (.dup, 1) := by decide +kernel
theorem d_P_stock_38 : decode cc_P_stock 38 = .ok (.ldc 77, 2) := by decide +kernel
theorem d_P_stock_40 : decode cc_P_stock 40 = .ok (.invokespecial 49, 3) := by decide +kernel
theorem d_P_stock_43 : decode cc_P_stock 43 = .ok (.athrow, 1) := by decide +kernel
theorem d_P_stock_44 : decode cc_P_stock 44 = .ok (.aload_n 0, 1) := by decide +kernel
theorem d_P_stock_45 : decode cc_P_stock 45 = .ok (.aload_n 0, 1) := by decide +kernel
theorem d_P_stock_46 : decode cc_P_stock 46 = .ok (.getfield 13, 3) := by decide +kernel
theorem d_P_stock_49 : decode cc_P_stock 49 = .ok (.invokevirtual 57, 3) := by decide +kernel
theorem d_P_stock_52 : decode cc_P_stock 52 = .ok (.aload_n 0, 1) := by decide +kernel
theorem d_P_stock_53 : decode cc_P_stock 53 = .ok (.getfield 23, 3) := by decide +kernel
theorem d_P_stock_56 : decode cc_P_stock 56 = .ok (.iload_n 1, 1) := by decide +kernel
theorem d_P_stock_57 : decode cc_P_stock 57 = .ok (.iload_n 2, 1) := by decide +kernel
theorem d_P_stock_58 : decode cc_P_stock 58 = .ok (.invokevirtual 79, 3) := by decide +kernel
theorem d_P_stock_61 : decode cc_P_stock 61 = .ok (.ireturn, 1) := by decide +kernel
theorem d_P_where_0 : decode cc_P_where 0 = .ok (.aload_n 0, 1) := by decide +kernel
theorem d_P_where_1 : decode cc_P_where 1 = .ok (.iload_n 2, 1) := by decide +kernel
theorem d_P_where_2 : decode cc_P_where 2 = .ok (.invokevirtual 83, 3) := by decide +kernel
theorem d_P_where_5 : decode cc_P_where 5 = .ok (.ifCond .ne 13, 3) := by decide +kernel
theorem d_P_where_8 : decode cc_P_where 8 = .ok (.new 86, 3) := by decide +kernel
theorem d_P_where_11 : decode cc_P_where 11 = .ok (.dup, 1) := by decide +kernel
theorem d_P_where_12 : decode cc_P_where 12 = .ok (.ldc 88, 2) := by decide +kernel
theorem d_P_where_14 : decode cc_P_where 14 = .ok (.invokespecial 90, 3) := by decide +kernel
theorem d_P_where_17 : decode cc_P_where 17 = .ok (.athrow, 1) := by decide +kernel
theorem d_P_where_18 : decode cc_P_where 18 = .ok (.iload_n 1, 1) := by decide +kernel
theorem d_P_where_19 : decode cc_P_where 19 = .ok (.invokestatic 91, 3) := by decide +kernel
theorem d_P_where_22 : decode cc_P_where 22 = .ok (.ifCond .ne 13, 3) := by decide +kernel
theorem d_P_where_25 : decode cc_P_where 25 = .ok (.new 45, 3) := by decide +kernel
theorem d_P_where_28 : decode cc_P_where 28 = .ok (.dup, 1) := by decide +kernel
theorem d_P_where_29 : decode cc_P_where 29 = .ok (.ldc 94, 2) := by decide +kernel
theorem d_P_where_31 : decode cc_P_where 31 = .ok (.invokespecial 49, 3) := by decide +kernel
theorem d_P_where_34 : decode cc_P_where 34 = .ok (.athrow, 1) := by decide +kernel
theorem d_P_where_35 : decode cc_P_where 35 = .ok (.aload_n 0, 1) := by decide +kernel
theorem d_P_where_36 : decode cc_P_where 36 = .ok (.iload_n 2, 1) := by decide +kernel
theorem d_P_where_37 : decode cc_P_where 37 = .ok (.invokevirtual 57, 3) := by decide +kernel
theorem d_P_where_40 : decode cc_P_where 40 = .ok (.aload_n 0, 1) := by decide +kernel
theorem d_P_where_41 : decode cc_P_where 41 = .ok (.getfield 23, 3) := by decide +kernel
theorem d_P_where_44 : decode cc_P_where 44 = .ok (.getfield 96, 3) := by decide +kernel
theorem d_P_where_47 : decode cc_P_where 47 = .ok (.iload_n 1, 1) := by decide +kernel
theorem d_P_where_48 : decode cc_P_where 48 = .ok (.iaload, 1) := by decide +kernel
theorem d_P_where_49 : decode cc_P_where 49 = .ok (.ireturn, 1) := by decide +kernel
theorem d_P_order_0 : decode cc_P_order 0 = .ok (.aload_n 0, 1) := by decide +kernel
theorem d_P_order_1 : decode cc_P_order 1 = .ok (.aload_n 0, 1) := by decide +kernel
theorem d_P_order_2 : decode cc_P_order 2 = .ok (.getfield 13, 3) := by decide +kernel
theorem d_P_order_5 : decode cc_P_order 5 = .ok (.invokevirtual 57, 3) := by decide +kernel
theorem d_P_order_8 : decode cc_P_order 8 = .ok (.aload_n 0, 1) := by decide +kernel
theorem d_P_order_9 : decode cc_P_order 9 = .ok (.getfield 23, 3) := by decide +kernel
theorem d_P_order_12 : decode cc_P_order 12 = .ok (.iload_n 1, 1) := by decide +kernel
theorem d_P_order_13 : decode cc_P_order 13 = .ok (.invokevirtual 99, 3) := by decide +kernel
theorem d_P_order_16 : decode cc_P_order 16 = .ok (.ifCond .ne 13, 3) := by decide +kernel
theorem d_P_order_19 : decode cc_P_order 19 = .ok (.new 86, 3) := by decide +kernel
theorem d_P_order_22 : decode cc_P_order 22 = .ok (.dup, 1) := by decide +kernel
theorem d_P_order_23 : decode cc_P_order 23 = .ok (.ldc 102, 2) := by decide +kernel
theorem d_P_order_25 : decode cc_P_order 25 = .ok (.invokespecial 90, 3) := by decide +kernel
theorem d_P_order_28 : decode cc_P_order 28 = .ok (.athrow, 1) := by decide +kernel
theorem d_P_order_29 : decode cc_P_order 29 = .ok (.iload_n 2, 1) := by decide +kernel
theorem d_P_order_30 : decode cc_P_order 30 = .ok (.tableswitch 84 0 3 #[30, 47, 57, 67], 30) := by decide +kernel
theorem d_P_order_60 : decode cc_P_order 60 = .ok (.aload_n 0, 1) := by decide +kernel
theorem d_P_order_61 : decode cc_P_order 61 = .ok (.getfield 23, 3) := by decide +kernel
theorem d_P_order_64 : decode cc_P_order 64 = .ok (.iload_n 1, 1) := by decide +kernel
theorem d_P_order_65 : decode cc_P_order 65 = .ok (.invokevirtual 104, 3) := by decide +kernel
theorem d_P_order_68 : decode cc_P_order 68 = .ok (.ifCond .eq 7, 3) := by decide +kernel
theorem d_P_order_71 : decode cc_P_order 71 = .ok (.iconst 1, 1) := by decide +kernel
theorem d_P_order_72 : decode cc_P_order 72 = .ok (.goto 4, 3) := by decide +kernel
theorem d_P_order_75 : decode cc_P_order 75 = .ok (.iconst 0, 1) := by decide +kernel
theorem d_P_order_76 : decode cc_P_order 76 = .ok (.ireturn, 1) := by decide +kernel
theorem d_P_order_77 : decode cc_P_order 77 = .ok (.aload_n 0, 1) := by decide +kernel
theorem d_P_order_78 : decode cc_P_order 78 = .ok (.getfield 23, 3) := by decide +kernel
theorem d_P_order_81 : decode cc_P_order 81 = .ok (.getfield 107, 3) := by decide +kernel
theorem d_P_order_84 : decode cc_P_order 84 = .ok (.iload_n 1, 1) := by decide +kernel
theorem d_P_order_85 : decode cc_P_order 85 = .ok (.iaload, 1) := by decide +kernel
theorem d_P_order_86 : decode cc_P_order 86 = .ok (.ireturn, 1) := by decide +kernel
theorem d_P_order_87 : decode cc_P_order 87 = .ok (.aload_n 0, 1) := by decide +kernel
theorem d_P_order_88 : decode cc_P_order 88 = .ok (.getfield 23, 3) := by decide +kernel
theorem d_P_order_91 : decode cc_P_order 91 = .ok (.getfield 110, 3) := by decide +kernel
theorem d_P_order_94 : decode cc_P_order 94 = .ok (.iload_n 1, 1) := by decide +kernel
theorem d_P_order_95 : decode cc_P_order 95 = .ok (.iaload, 1) := by decide +kernel
theorem d_P_order_96 : decode cc_P_order 96 = .ok (.ireturn, 1) := by decide +kernel
theorem d_P_order_97 : decode cc_P_order 97 = .ok (.aload_n 0, 1) := by decide +kernel
theorem d_P_order_98 : decode cc_P_order 98 = .ok (.getfield 23, 3) := by decide +kernel
theorem d_P_order_101 : decode cc_P_order 101 = .ok (.aload_n 0, 1) := by decide +kernel
theorem d_P_order_102 : decode cc_P_order 102 = .ok (.getfield 23, 3) := by decide +kernel
theorem d_P_order_105 : decode cc_P_order 105 = .ok (.getfield 110, 3) := by decide +kernel
theorem d_P_order_108 : decode cc_P_order 108 = .ok (.iload_n 1, 1) := by decide +kernel
theorem d_P_order_109 : decode cc_P_order 109 = .ok (.iaload, 1) := by decide +kernel
theorem d_P_order_110 : decode cc_P_order 110 = .ok (.invokevirtual 113, 3) := by decide +kernel
theorem d_P_order_113 : decode cc_P_order 113 = .ok (.ireturn, 1) := by decide +kernel
theorem d_P_order_114 : decode cc_P_order 114 = .ok (.new 45, 3) := by decide +kernel
theorem d_P_order_117 : decode cc_P_order 117 = .ok (.dup, 1) := by decide +kernel
theorem d_P_order_118 : decode cc_P_order 118 = .ok (.ldc 117, 2) := by decide +kernel
theorem d_P_order_120 : decode cc_P_order 120 = .ok (.invokespecial 49, 3) := by decide +kernel
theorem d_P_order_123 : decode cc_P_order 123 = .ok (.athrow, 1) := by decide +kernel
theorem d_P_promise_0 : decode cc_P_promise 0 = .ok (.aload_n 0, 1) := by decide +kernel
theorem d_P_promise_1 : decode cc_P_promise 1 = .ok (.aload_n 0, 1) := by decide +kernel
theorem d_P_promise_2 : decode cc_P_promise 2 = .ok (.getfield 13, 3) := by decide +kernel
theorem d_P_promise_5 : decode cc_P_promise 5 = .ok (.invokevirtual 57, 3) := by decide +kernel
theorem d_P_promise_8 : decode cc_P_promise 8 = .ok (.aload_n 0, 1) := by decide +kernel
theorem d_P_promise_9 : decode cc_P_promise 9 = .ok (.iload_n 1, 1) := by decide +kernel
theorem d_P_promise_10 : decode cc_P_promise 10 = .ok (.invokevirtual 119, 3) := by decide +kernel
theorem d_P_promise_13 : decode cc_P_promise 13 = .ok (.ifCond .ne 13, 3) := by decide +kernel
theorem d_P_promise_16 : decode cc_P_promise 16 = .ok (.new 86, 3) := by decide +kernel
theorem d_P_promise_19 : decode cc_P_promise 19 = .ok (.dup, 1) := by decide +kernel
theorem d_P_promise_20 : decode cc_P_promise 20 = .ok (.ldc 122, 2) := by decide +kernel
theorem d_P_promise_22 : decode cc_P_promise 22 = .ok (.invokespecial 90, 3) := by decide +kernel
theorem d_P_promise_25 : decode cc_P_promise 25 = .ok (.athrow, 1) := by decide +kernel
theorem d_P_promise_26 : decode cc_P_promise 26 = .ok (.iload_n 1, 1) := by decide +kernel
theorem d_P_promise_27 : decode cc_P_promise 27 = .ok (.invokestatic 124, 3) := by decide +kernel
theorem d_P_promise_30 : decode cc_P_promise 30 = .ok (.bipush 6, 2) := by decide +kernel
theorem d_P_promise_32 : decode cc_P_promise 32 = .ok (.if_icmp .le 5, 3) := by decide +kernel
theorem d_P_promise_35 : decode cc_P_promise 35 = .ok (.iconst (-1), 1) := by decide +kernel
theorem d_P_promise_36 : decode cc_P_promise 36 = .ok (.ireturn, 1) := by decide +kernel
theorem d_P_promise_37 : decode cc_P_promise 37 = .ok (.aload_n 0, 1) := by decide +kernel
theorem d_P_promise_38 : decode cc_P_promise 38 = .ok (.getfield 30, 3) := by decide +kernel
theorem d_P_promise_41 : decode cc_P_promise 41 = .ok (.aload_n 0, 1) := by decide +kernel
theorem d_P_promise_42 : decode cc_P_promise 42 = .ok (.getfield 23, 3) := by decide +kernel
theorem d_P_promise_45 : decode cc_P_promise 45 = .ok (.iload_n 1, 1) := by decide +kernel
theorem d_P_promise_46 : decode cc_P_promise 46 = .ok (.invokevirtual 129, 3) := by decide +kernel
theorem d_P_promise_49 : decode cc_P_promise 49 = .ok (.ireturn, 1) := by decide +kernel
theorem d_P_way_0 : decode cc_P_way 0 = .ok (.iload_n 1, 1) := by decide +kernel
theorem d_P_way_1 : decode cc_P_way 1 = .ok (.invokestatic 68, 3) := by decide +kernel
theorem d_P_way_4 : decode cc_P_way 4 = .ok (.ifCond .eq 10, 3) := by decide +kernel
theorem d_P_way_7 : decode cc_P_way 7 = .ok (.iload_n 2, 1) := by decide +kernel
theorem d_P_way_8 : decode cc_P_way 8 = .ok (.invokestatic 68, 3) := by decide +kernel
theorem d_P_way_11 : decode cc_P_way 11 = .ok (.ifCond .ne 13, 3) := by decide +kernel
theorem d_P_way_14 : decode cc_P_way 14 = .ok (.new 45, 3) := by decide +kernel
theorem d_P_way_17 : decode cc_P_way 17 = .ok (.dup, 1) := by decide +kernel
theorem d_P_way_18 : decode cc_P_way 18 = .ok (.ldc 72, 2) := by decide +kernel
theorem d_P_way_20 : decode cc_P_way 20 = .ok (.invokespecial 49, 3) := by decide +kernel
theorem d_P_way_23 : decode cc_P_way 23 = .ok (.athrow, 1) := by decide +kernel
theorem d_P_way_24 : decode cc_P_way 24 = .ok (.aload_n 0, 1) := by decide +kernel
theorem d_P_way_25 : decode cc_P_way 25 = .ok (.aload_n 0, 1) := by decide +kernel
theorem d_P_way_26 : decode cc_P_way 26 = .ok (.getfield 13, 3) := by decide +kernel
theorem d_P_way_29 : decode cc_P_way 29 = .ok (.invokevirtual 57, 3) := by decide +kernel
theorem d_P_way_32 : decode cc_P_way 32 = .ok (.aload_n 0, 1) := by decide +kernel
theorem d_P_way_33 : decode cc_P_way 33 = .ok (.getfield 37, 3) := by decide +kernel
theorem d_P_way_36 : decode cc_P_way 36 = .ok (.aload_n 0, 1) := by decide +kernel
theorem d_P_way_37 : decode cc_P_way 37 = .ok (.getfield 23, 3) := by decide +kernel
theorem d_P_way_40 : decode cc_P_way 40 = .ok (.invokevirtual 133, 3) := by decide +kernel
theorem d_P_way_43 : decode cc_P_way 43 = .ok (.aload_n 0, 1) := by decide +kernel
theorem d_P_way_44 : decode cc_P_way 44 = .ok (.getfield 37, 3) := by decide +kernel
theorem d_P_way_47 : decode cc_P_way 47 = .ok (.iload_n 1, 1) := by decide +kernel
theorem d_P_way_48 : decode cc_P_way 48 = .ok (.iload_n 2, 1) := by decide +kernel
theorem d_P_way_49 : decode cc_P_way 49 = .ok (.invokevirtual 137, 3) := by decide +kernel
theorem d_P_way_52 : decode cc_P_way 52 = .ok (.invokestatic 140, 3) := by decide +kernel
theorem d_P_way_55 : decode cc_P_way 55 = .ok (.ireturn, 1) := by decide +kernel
theorem d_P_walk_0 : decode cc_P_walk 0 = .ok (.aload_n 0, 1) := by decide +kernel
theorem d_P_walk_1 : decode cc_P_walk 1 = .ok (.aload_n 0, 1) := by decide +kernel
theorem d_P_walk_2 : decode cc_P_walk 2 = .ok (.getfield 13, 3) := by decide +kernel
theorem d_P_walk_5 : decode cc_P_walk 5 = .ok (.invokevirtual 57, 3) := by decide +kernel
theorem d_P_walk_8 : decode cc_P_walk 8 = .ok (.aload_n 0, 1) := by decide +kernel
theorem d_P_walk_9 : decode cc_P_walk 9 = .ok (.getfield 23, 3) := by decide +kernel
theorem d_P_walk_12 : decode cc_P_walk 12 = .ok (.iload_n 1, 1) := by decide +kernel
theorem d_P_walk_13 : decode cc_P_walk 13 = .ok (.invokevirtual 99, 3) := by decide +kernel
theorem d_P_walk_16 : decode cc_P_walk 16 = .ok (.ifCond .ne 13, 3) := by decide +kernel
theorem d_P_walk_19 : decode cc_P_walk 19 = .ok (.new 86, 3) := by decide +kernel
theorem d_P_walk_22 : decode cc_P_walk 22 = .ok (.dup, 1) := by decide +kernel
theorem d_P_walk_23 : decode cc_P_walk 23 = .ok (.ldc 102, 2) := by decide +kernel
theorem d_P_walk_25 : decode cc_P_walk 25 = .ok (.invokespecial 90, 3) := by decide +kernel
theorem d_P_walk_28 : decode cc_P_walk 28 = .ok (.athrow, 1) := by decide +kernel
theorem d_P_walk_29 : decode cc_P_walk 29 = .ok (.iload_n 2, 1) := by decide +kernel
theorem d_P_walk_30 : decode cc_P_walk 30 = .ok (.invokestatic 68, 3) := by decide +kernel
theorem d_P_walk_33 : decode cc_P_walk 33 = .ok (.ifCond .ne 13, 3) := by decide +kernel
theorem d_P_walk_36 : decode cc_P_walk 36 = .ok (.new 45, 3) := by decide +kernel
theorem d_P_walk_39 : decode cc_P_walk 39 = .ok (.dup, 1) := by decide +kernel
theorem d_P_walk_40 : decode cc_P_walk 40 = .ok (.ldc 72, 2) := by decide +kernel
theorem d_P_walk_42 : decode cc_P_walk 42 = .ok (.invokespecial 49, 3) := by decide +kernel
theorem d_P_walk_45 : decode cc_P_walk 45 = .ok (.athrow, 1) := by decide +kernel
theorem d_P_walk_46 : decode cc_P_walk 46 = .ok (.aload_n 0, 1) := by decide +kernel
theorem d_P_walk_47 : decode cc_P_walk 47 = .ok (.getfield 23, 3) := by decide +kernel
theorem d_P_walk_50 : decode cc_P_walk 50 = .ok (.iload_n 1, 1) := by decide +kernel
theorem d_P_walk_51 : decode cc_P_walk 51 = .ok (.invokevirtual 143, 3) := by decide +kernel
theorem d_P_walk_54 : decode cc_P_walk 54 = .ok (.istore_n 3, 1) := by decide +kernel
theorem d_P_walk_55 : decode cc_P_walk 55 = .ok (.iload_n 3, 1) := by decide +kernel
theorem d_P_walk_56 : decode cc_P_walk 56 = .ok (.invokestatic 124, 3) := by decide +kernel
theorem d_P_walk_59 : decode cc_P_walk 59 = .ok (.iconst 4, 1) := by decide +kernel
theorem d_P_walk_60 : decode cc_P_walk 60 = .ok (.if_icmp .le 6, 3) := by decide +kernel
theorem d_P_walk_63 : decode cc_P_walk 63 = .ok (.bipush (-2), 2) := by decide +kernel
theorem d_P_walk_65 : decode cc_P_walk 65 = .ok (.ireturn, 1) := by decide +kernel
theorem d_P_walk_66 : decode cc_P_walk 66 = .ok (.aload_n 0, 1) := by decide +kernel
theorem d_P_walk_67 : decode cc_P_walk 67 = .ok (.getfield 37, 3) := by decide +kernel
theorem d_P_walk_70 : decode cc_P_walk 70 = .ok (.aload_n 0, 1) := by decide +kernel
theorem d_P_walk_71 : decode cc_P_walk 71 = .ok (.getfield 23, 3) := by decide +kernel
theorem d_P_walk_74 : decode cc_P_walk 74 = .ok (.invokevirtual 133, 3) := by decide +kernel
theorem d_P_walk_77 : decode cc_P_walk 77 = .ok (.aload_n 0, 1) := by decide +kernel
theorem d_P_walk_78 : decode cc_P_walk 78 = .ok (.getfield 37, 3) := by decide +kernel
theorem d_P_walk_81 : decode cc_P_walk 81 = .ok (.iload_n 2, 1) := by decide +kernel
theorem d_P_walk_82 : decode cc_P_walk 82 = .ok (.iload_n 3, 1) := by decide +kernel
theorem d_P_walk_83 : decode cc_P_walk 83 = .ok (.invokevirtual 146, 3) := by decide +kernel
theorem d_P_walk_86 : decode cc_P_walk 86 = .ok (.invokestatic 140, 3) := by decide +kernel
theorem d_P_walk_89 : decode cc_P_walk 89 = .ok (.ireturn, 1) := by decide +kernel
theorem d_P_money_0 : decode cc_P_money 0 = .ok (.aload_n 0, 1) := by decide +kernel
theorem d_P_money_1 : decode cc_P_money 1 = .ok (.iload_n 2, 1) := by decide +kernel
theorem d_P_money_2 : decode cc_P_money 2 = .ok (.invokevirtual 83, 3) := by decide +kernel
theorem d_P_money_5 : decode cc_P_money 5 = .ok (.ifCond .ne 13, 3) := by decide +kernel
theorem d_P_money_8 : decode cc_P_money 8 = .ok (.new 86, 3) := by decide +kernel
theorem d_P_money_11 : decode cc_P_money 11 = .ok (.dup, 1) := by decide +kernel
theorem d_P_money_12 : decode cc_P_money 12 = .ok (.ldc 88, 2) := by decide +kernel
theorem d_P_money_14 : decode cc_P_money 14 = .ok (.invokespecial 90, 3) := by decide +kernel
theorem d_P_money_17 : decode cc_P_money 17 = .ok (.athrow, 1) := by decide +kernel
theorem d_P_money_18 : decode cc_P_money 18 = .ok (.iload_n 1, 1) := by decide +kernel
theorem d_P_money_19 : decode cc_P_money 19 = .ok (.invokestatic 149, 3) := by decide +kernel
theorem d_P_money_22 : decode cc_P_money 22 = .ok (.ifCond .ne 13, 3) := by decide +kernel
theorem d_P_money_25 : decode cc_P_money 25 = .ok (.new 45, 3) := by decide +kernel
theorem d_P_money_28 : decode cc_P_money 28 = .ok (.dup, 1) := by decide +kernel
theorem d_P_money_29 : decode cc_P_money 29 = .ok (.ldc 152, 2) := by decide +kernel
theorem d_P_money_31 : decode cc_P_money 31 = .ok (.invokespecial 49, 3) := by decide +kernel
theorem d_P_money_34 : decode cc_P_money 34 = .ok (.athrow, 1) := by decide +kernel
theorem d_P_money_35 : decode cc_P_money 35 = .ok (.aload_n 0, 1) := by decide +kernel
theorem d_P_money_36 : decode cc_P_money 36 = .ok (.iload_n 2, 1) := by decide +kernel
theorem d_P_money_37 : decode cc_P_money 37 = .ok (.invokevirtual 57, 3) := by decide +kernel
theorem d_P_money_40 : decode cc_P_money 40 = .ok (.aload_n 0, 1) := by decide +kernel
theorem d_P_money_41 : decode cc_P_money 41 = .ok (.getfield 23, 3) := by decide +kernel
theorem d_P_money_44 : decode cc_P_money 44 = .ok (.getfield 154, 3) := by decide +kernel
theorem d_P_money_47 : decode cc_P_money 47 = .ok (.iload_n 1, 1) := by decide +kernel
theorem d_P_money_48 : decode cc_P_money 48 = .ok (.iaload, 1) := by decide +kernel
theorem d_P_money_49 : decode cc_P_money 49 = .ok (.ireturn, 1) := by decide +kernel
theorem d_P_needs_0 : decode cc_P_needs 0 = .ok (.aload_n 0, 1) := by decide +kernel
theorem d_P_needs_1 : decode cc_P_needs 1 = .ok (.iload_n 1, 1) := by decide +kernel
theorem d_P_needs_2 : decode cc_P_needs 2 = .ok (.invokevirtual 157, 3) := by decide +kernel
theorem d_P_needs_5 : decode cc_P_needs 5 = .ok (.ifCond .ne 13, 3) := by decide +kernel
theorem d_P_needs_8 : decode cc_P_needs 8 = .ok (.new 86, 3) := by decide +kernel
theorem d_P_needs_11 : decode cc_P_needs 11 = .ok (.dup, 1) := by decide +kernel
theorem d_P_needs_12 : decode cc_P_needs 12 = .ok (.ldc 160, 2) := by decide +kernel
theorem d_P_needs_14 : decode cc_P_needs 14 = .ok (.invokespecial 90, 3) := by decide +kernel
theorem d_P_needs_17 : decode cc_P_needs 17 = .ok (.athrow, 1) := by decide +kernel
theorem d_P_needs_18 : decode cc_P_needs 18 = .ok (.aload_n 0, 1) := by decide +kernel
theorem d_P_needs_19 : decode cc_P_needs 19 = .ok (.iload_n 1, 1) := by decide +kernel
theorem d_P_needs_20 : decode cc_P_needs 20 = .ok (.invokevirtual 57, 3) := by decide +kernel
theorem d_P_needs_23 : decode cc_P_needs 23 = .ok (.iconst 0, 1) := by decide +kernel
theorem d_P_needs_24 : decode cc_P_needs 24 = .ok (.istore_n 2, 1) := by decide +kernel
theorem d_P_needs_25 : decode cc_P_needs 25 = .ok (.iload_n 1, 1) := by decide +kernel
theorem d_P_needs_26 : decode cc_P_needs 26 = .ok (.iconst 1, 1) := by decide +kernel
theorem d_P_needs_27 : decode cc_P_needs 27 = .ok (.iadd, 1) := by decide +kernel
theorem d_P_needs_28 : decode cc_P_needs 28 = .ok (.istore_n 3, 1) := by decide +kernel
theorem d_P_needs_29 : decode cc_P_needs 29 = .ok (.iload_n 3, 1) := by decide +kernel
theorem d_P_needs_30 : decode cc_P_needs 30 = .ok (.aload_n 0, 1) := by decide +kernel
theorem d_P_needs_31 : decode cc_P_needs 31 = .ok (.getfield 13, 3) := by decide +kernel
theorem d_P_needs_34 : decode cc_P_needs 34 = .ok (.if_icmp .ge 20, 3) := by decide +kernel
theorem d_P_needs_37 : decode cc_P_needs 37 = .ok (.aload_n 0, 1) := by decide +kernel
theorem d_P_needs_38 : decode cc_P_needs 38 = .ok (.iload_n 3, 1) := by decide +kernel
theorem d_P_needs_39 : decode cc_P_needs 39 = .ok (.invokevirtual 162, 3) := by decide +kernel
theorem d_P_needs_42 : decode cc_P_needs 42 = .ok (.ifCond .ne 6, 3) := by decide +kernel
theorem d_P_needs_45 : decode cc_P_needs 45 = .ok (.iinc 2 1, 3) := by decide +kernel
theorem d_P_needs_48 : decode cc_P_needs 48 = .ok (.iinc 3 1, 3) := by decide +kernel
theorem d_P_needs_51 : decode cc_P_needs 51 = .ok (.goto (-22), 3) := by decide +kernel
theorem d_P_needs_54 : decode cc_P_needs 54 = .ok (.iload_n 2, 1) := by decide +kernel
theorem d_P_needs_55 : decode cc_P_needs 55 = .ok (.ireturn, 1) := by decide +kernel
theorem d_P_explained_0 : decode cc_P_explained 0 = .ok (.aload_n 0, 1) := by decide +kernel
theorem d_P_explained_1 : decode cc_P_explained 1 = .ok (.iload_n 1, 1) := by decide +kernel
theorem d_P_explained_2 : decode cc_P_explained 2 = .ok (.invokevirtual 157, 3) := by decide +kernel
theorem d_P_explained_5 : decode cc_P_explained 5 = .ok (.ifCond .ne 13, 3) := by decide +kernel
theorem d_P_explained_8 : decode cc_P_explained 8 = .ok (.new 86, 3) := by decide +kernel
theorem d_P_explained_11 : decode cc_P_explained 11 = .ok (.dup, 1) := by decide +kernel
theorem d_P_explained_12 : decode cc_P_explained 12 = .ok (.ldc 160, 2) := by decide +kernel
theorem d_P_explained_14 : decode cc_P_explained 14 = .ok (.invokespecial 90, 3) := by decide +kernel
theorem d_P_explained_17 : decode cc_P_explained 17 = .ok (.athrow, 1) := by decide +kernel
theorem d_P_explained_18 : decode cc_P_explained 18 = .ok (.aload_n 0, 1) := by decide +kernel
theorem d_P_explained_19 : decode cc_P_explained 19 = .ok (.iload_n 1, 1) := by decide +kernel
theorem d_P_explained_20 : decode cc_P_explained 20 = .ok (.invokevirtual 57, 3) := by decide +kernel
theorem d_P_explained_23 : decode cc_P_explained 23 = .ok (.iload_n 1, 1) := by decide +kernel
theorem d_P_explained_24 : decode cc_P_explained 24 = .ok (.iconst 1, 1) := by decide +kernel
theorem d_P_explained_25 : decode cc_P_explained 25 = .ok (.iadd, 1) := by decide +kernel
theorem d_P_explained_26 : decode cc_P_explained 26 = .ok (.istore_n 2, 1) := by decide +kernel
theorem d_P_explained_27 : decode cc_P_explained 27 = .ok (.iload_n 2, 1) := by decide +kernel
theorem d_P_explained_28 : decode cc_P_explained 28 = .ok (.aload_n 0, 1) := by decide +kernel
theorem d_P_explained_29 : decode cc_P_explained 29 = .ok (.getfield 13, 3) := by decide +kernel
theorem d_P_explained_32 : decode cc_P_explained 32 = .ok (.if_icmp .ge 19, 3) := by decide +kernel
theorem d_P_explained_35 : decode cc_P_explained 35 = .ok (.aload_n 0, 1) := by decide +kernel
theorem d_P_explained_36 : decode cc_P_explained 36 = .ok (.iload_n 2, 1) := by decide +kernel
theorem d_P_explained_37 : decode cc_P_explained 37 = .ok (.invokevirtual 162, 3) := by decide +kernel
theorem d_P_explained_40 : decode cc_P_explained 40 = .ok (.ifCond .ne 5, 3) := by decide +kernel
theorem d_P_explained_43 : decode cc_P_explained 43 = .ok (.iload_n 2, 1) := by decide +kernel
theorem d_P_explained_44 : decode cc_P_explained 44 = .ok (.ireturn, 1) := by decide +kernel
theorem d_P_explained_45 : decode cc_P_explained 45 = .ok (.iinc 2 1, 3) := by decide +kernel
theorem d_P_explained_48 : decode cc_P_explained 48 = .ok (.goto (-21), 3) := by decide +kernel
theorem d_P_explained_51 : decode cc_P_explained 51 = .ok (.iconst (-1), 1) := by decide +kernel
theorem d_P_explained_52 : decode cc_P_explained 52 = .ok (.ireturn, 1) := by decide +kernel
theorem d_P_told_0 : decode cc_P_told 0 = .ok (.aload_n 0, 1) := by decide +kernel
theorem d_P_told_1 : decode cc_P_told 1 = .ok (.iload_n 1, 1) := by decide +kernel
theorem d_P_told_2 : decode cc_P_told 2 = .ok (.invokevirtual 157, 3) := by decide +kernel
theorem d_P_told_5 : decode cc_P_told 5 = .ok (.ifCond .ne 13, 3) := by decide +kernel
theorem d_P_told_8 : decode cc_P_told 8 = .ok (.new 86, 3) := by decide +kernel
theorem d_P_told_11 : decode cc_P_told 11 = .ok (.dup, 1) := by decide +kernel
theorem d_P_told_12 : decode cc_P_told 12 = .ok (.ldc 160, 2) := by decide +kernel
theorem d_P_told_14 : decode cc_P_told 14 = .ok (.invokespecial 90, 3) := by decide +kernel
theorem d_P_told_17 : decode cc_P_told 17 = .ok (.athrow, 1) := by decide +kernel
theorem d_P_told_18 : decode cc_P_told 18 = .ok (.iload_n 2, 1) := by decide +kernel
theorem d_P_told_19 : decode cc_P_told 19 = .ok (.iconst 0, 1) := by decide +kernel
theorem d_P_told_20 : decode cc_P_told 20 = .ok (.iconst 3, 1) := by decide +kernel
theorem d_P_told_21 : decode cc_P_told 21 = .ok (.invokestatic 165, 3) := by decide +kernel
theorem d_P_told_24 : decode cc_P_told 24 = .ok (.ifCond .ne 13, 3) := by decide +kernel
theorem d_P_told_27 : decode cc_P_told 27 = .ok (.new 45, 3) := by decide +kernel
theorem d_P_told_30 : decode cc_P_told 30 = .ok (.dup, 1) := by decide +kernel
theorem d_P_told_31 : decode cc_P_told 31 = .ok (.ldc 169, 2) := by decide +kernel
theorem d_P_told_33 : decode cc_P_told 33 = .ok (.invokespecial 49, 3) := by decide +kernel
theorem d_P_told_36 : decode cc_P_told 36 = .ok (.athrow, 1) := by decide +kernel
theorem d_P_told_37 : decode cc_P_told 37 = .ok (.aload_n 0, 1) := by decide +kernel
theorem d_P_told_38 : decode cc_P_told 38 = .ok (.getfield 9, 3) := by decide +kernel
theorem d_P_told_41 : decode cc_P_told 41 = .ok (.iload_n 1, 1) := by decide +kernel
theorem d_P_told_42 : decode cc_P_told 42 = .ok (.iconst 4, 1) := by decide +kernel
theorem d_P_told_43 : decode cc_P_told 43 = .ok (.imul, 1) := by decide +kernel
theorem d_P_told_44 : decode cc_P_told 44 = .ok (.iload_n 2, 1) := by decide +kernel
theorem d_P_told_45 : decode cc_P_told 45 = .ok (.iadd, 1) := by decide +kernel
theorem d_P_told_46 : decode cc_P_told 46 = .ok (.iaload, 1) := by decide +kernel
theorem d_P_told_47 : decode cc_P_told 47 = .ok (.ireturn, 1) := by decide +kernel
theorem d_P_back_0 : decode cc_P_back 0 = .ok (.aload_n 0, 1) := by decide +kernel
theorem d_P_back_1 : decode cc_P_back 1 = .ok (.getfield 13, 3) := by decide +kernel
theorem d_P_back_4 : decode cc_P_back 4 = .ok (.ifCond .ne 13, 3) := by decide +kernel
theorem d_P_back_7 : decode cc_P_back 7 = .ok (.new 171, 3) := by decide +kernel
theorem d_P_back_10 : decode cc_P_back 10 = .ok (.dup, 1) := by decide +kernel
theorem d_P_back_11 : decode cc_P_back 11 = .ok (.ldc 173, 2) := by decide +kernel
theorem d_P_back_13 : decode cc_P_back 13 = .ok (.invokespecial 175, 3) := by decide +kernel
theorem d_P_back_16 : decode cc_P_back 16 = .ok (.athrow, 1) := by decide +kernel
theorem d_P_back_17 : decode cc_P_back 17 = .ok (.aload_n 0, 1) := by decide +kernel
theorem d_P_back_18 : decode cc_P_back 18 = .ok (.dup, 1) := by decide +kernel
theorem d_P_back_19 : decode cc_P_back 19 = .ok (.getfield 13, 3) := by decide +kernel
theorem d_P_back_22 : decode cc_P_back 22 = .ok (.iconst 1, 1) := by decide +kernel
theorem d_P_back_23 : decode cc_P_back 23 = .ok (.isub, 1) := by decide +kernel
theorem d_P_back_24 : decode cc_P_back 24 = .ok (.putfield 13, 3) := by decide +kernel
theorem d_P_back_27 : decode cc_P_back 27 = .ok (.return_, 1) := by decide +kernel
theorem d_P_count_0 : decode cc_P_count 0 = .ok (.aload_n 0, 1) := by decide +kernel
theorem d_P_count_1 : decode cc_P_count 1 = .ok (.aload_n 0, 1) := by decide +kernel
theorem d_P_count_2 : decode cc_P_count 2 = .ok (.getfield 13, 3) := by decide +kernel
theorem d_P_count_5 : decode cc_P_count 5 = .ok (.invokevirtual 57, 3) := by decide +kernel
theorem d_P_count_8 : decode cc_P_count 8 = .ok (.iload_n 1, 1) := by decide +kernel
theorem d_P_count_9 : decode cc_P_count 9 = .ok (.tableswitch 83 0 5 #[39, 44, 49, 59, 67, 75], 39) := by decide +kernel
theorem d_P_count_48 : decode cc_P_count 48 = .ok (.aload_n 0, 1) := by decide +kernel
theorem d_P_count_49 : decode cc_P_count 49 = .ok (.getfield 13, 3) := by decide +kernel
theorem d_P_count_52 : decode cc_P_count 52 = .ok (.ireturn, 1) := by decide +kernel
theorem d_P_count_53 : decode cc_P_count 53 = .ok (.aload_n 0, 1) := by decide +kernel
theorem d_P_count_54 : decode cc_P_count 54 = .ok (.getfield 17, 3) := by decide +kernel
theorem d_P_count_57 : decode cc_P_count 57 = .ok (.ireturn, 1) := by decide +kernel
theorem d_P_count_58 : decode cc_P_count 58 = .ok (.aload_n 0, 1) := by decide +kernel
theorem d_P_count_59 : decode cc_P_count 59 = .ok (.getfield 23, 3) := by decide +kernel
theorem d_P_count_62 : decode cc_P_count 62 = .ok (.iconst (-1), 1) := by decide +kernel
theorem d_P_count_63 : decode cc_P_count 63 = .ok (.iconst (-1), 1) := by decide +kernel
theorem d_P_count_64 : decode cc_P_count 64 = .ok (.invokevirtual 79, 3) := by decide +kernel
theorem d_P_count_67 : decode cc_P_count 67 = .ok (.ireturn, 1) := by decide +kernel
theorem d_P_count_68 : decode cc_P_count 68 = .ok (.aload_n 0, 1) := by decide +kernel
theorem d_P_count_69 : decode cc_P_count 69 = .ok (.getfield 23, 3) := by decide +kernel
theorem d_P_count_72 : decode cc_P_count 72 = .ok (.invokevirtual 176, 3) := by decide +kernel
theorem d_P_count_75 : decode cc_P_count 75 = .ok (.ireturn, 1) := by decide +kernel
theorem d_P_count_76 : decode cc_P_count 76 = .ok (.aload_n 0, 1) := by decide +kernel
theorem d_P_count_77 : decode cc_P_count 77 = .ok (.getfield 23, 3) := by decide +kernel
theorem d_P_count_80 : decode cc_P_count 80 = .ok (.invokevirtual 180, 3) := by decide +kernel
theorem d_P_count_83 : decode cc_P_count 83 = .ok (.ireturn, 1) := by decide +kernel
theorem d_P_count_84 : decode cc_P_count 84 = .ok (.aload_n 0, 1) := by decide +kernel
theorem d_P_count_85 : decode cc_P_count 85 = .ok (.getfield 23, 3) := by decide +kernel
theorem d_P_count_88 : decode cc_P_count 88 = .ok (.invokevirtual 183, 3) := by decide +kernel
theorem d_P_count_91 : decode cc_P_count 91 = .ok (.ireturn, 1) := by decide +kernel
theorem d_P_count_92 : decode cc_P_count 92 = .ok (.iconst (-1), 1) := by decide +kernel
theorem d_P_count_93 : decode cc_P_count 93 = .ok (.ireturn, 1) := by decide +kernel
theorem d_P_keep_0 : decode cc_P_keep 0 = .ok (.aload_n 0, 1) := by decide +kernel
theorem d_P_keep_1 : decode cc_P_keep 1 = .ok (.getfield 13, 3) := by decide +kernel
theorem d_P_keep_4 : decode cc_P_keep 4 = .ok (.iconst 4, 1) := by decide +kernel
theorem d_P_keep_5 : decode cc_P_keep 5 = .ok (.imul, 1) := by decide +kernel
theorem d_P_keep_6 : decode cc_P_keep 6 = .ok (.istore 5, 2) := by decide +kernel
theorem d_P_keep_8 : decode cc_P_keep 8 = .ok (.aload_n 0, 1) := by decide +kernel
theorem d_P_keep_9 : decode cc_P_keep 9 = .ok (.getfield 9, 3) := by decide +kernel
theorem d_P_keep_12 : decode cc_P_keep 12 = .ok (.iload 5, 2) := by decide +kernel
theorem d_P_keep_14 : decode cc_P_keep 14 = .ok (.iload_n 1, 1) := by decide +kernel
theorem d_P_keep_15 : decode cc_P_keep 15 = .ok (.iastore, 1) := by decide +kernel
theorem d_P_keep_16 : decode cc_P_keep 16 = .ok (.aload_n 0, 1) := by decide +kernel
theorem d_P_keep_17 : decode cc_P_keep 17 = .ok (.getfield 9, 3) := by decide +kernel
theorem d_P_keep_20 : decode cc_P_keep 20 = .ok (.iload 5, 2) := by decide +kernel
theorem d_P_keep_22 : decode cc_P_keep 22 = .ok (.iconst 1, 1) := by decide +kernel
theorem d_P_keep_23 : decode cc_P_keep 23 = .ok (.iadd, 1) := by decide +kernel
theorem d_P_keep_24 : decode cc_P_keep 24 = .ok (.iload_n 2, 1) := by decide +kernel
theorem d_P_keep_25 : decode cc_P_keep 25 = .ok (.iastore, 1) := by decide +kernel
theorem d_P_keep_26 : decode cc_P_keep 26 = .ok (.aload_n 0, 1) := by decide +kernel
theorem d_P_keep_27 : decode cc_P_keep 27 = .ok (.getfield 9, 3) := by decide +kernel
theorem d_P_keep_30 : decode cc_P_keep 30 = .ok (.iload 5, 2) := by decide +kernel
theorem d_P_keep_32 : decode cc_P_keep 32 = .ok (.iconst 2, 1) := by decide +kernel
theorem d_P_keep_33 : decode cc_P_keep 33 = .ok (.iadd, 1) := by decide +kernel
theorem d_P_keep_34 : decode cc_P_keep 34 = .ok (.iload_n 3, 1) := by decide +kernel
theorem d_P_keep_35 : decode cc_P_keep 35 = .ok (.iastore, 1) := by decide +kernel
theorem d_P_keep_36 : decode cc_P_keep 36 = .ok (.aload_n 0, 1) := by decide +kernel
theorem d_P_keep_37 : decode cc_P_keep 37 = .ok (.getfield 9, 3) := by decide +kernel
theorem d_P_keep_40 : decode cc_P_keep 40 = .ok (.iload 5, 2) := by decide +kernel
theorem d_P_keep_42 : decode cc_P_keep 42 = .ok (.iconst 3, 1) := by decide +kernel
theorem d_P_keep_43 : decode cc_P_keep 43 = .ok (.iadd, 1) := by decide +kernel
theorem d_P_keep_44 : decode cc_P_keep 44 = .ok (.iload 4, 2) := by decide +kernel
theorem d_P_keep_46 : decode cc_P_keep 46 = .ok (.iastore, 1) := by decide +kernel
theorem d_P_keep_47 : decode cc_P_keep 47 = .ok (.aload_n 0, 1) := by decide +kernel
theorem d_P_keep_48 : decode cc_P_keep 48 = .ok (.dup, 1) := by decide +kernel
theorem d_P_keep_49 : decode cc_P_keep 49 = .ok (.getfield 13, 3) := by decide +kernel
theorem d_P_keep_52 : decode cc_P_keep 52 = .ok (.iconst 1, 1) := by decide +kernel
theorem d_P_keep_53 : decode cc_P_keep 53 = .ok (.iadd, 1) := by decide +kernel
theorem d_P_keep_54 : decode cc_P_keep 54 = .ok (.putfield 13, 3) := by decide +kernel
theorem d_P_keep_57 : decode cc_P_keep 57 = .ok (.return_, 1) := by decide +kernel
theorem d_P_replay_0 : decode cc_P_replay 0 = .ok (.aload_n 0, 1) := by decide +kernel
theorem d_P_replay_1 : decode cc_P_replay 1 = .ok (.getfield 23, 3) := by decide +kernel
theorem d_P_replay_4 : decode cc_P_replay 4 = .ok (.invokevirtual 186, 3) := by decide +kernel
theorem d_P_replay_7 : decode cc_P_replay 7 = .ok (.iconst 0, 1) := by decide +kernel
theorem d_P_replay_8 : decode cc_P_replay 8 = .ok (.istore_n 2, 1) := by decide +kernel
theorem d_P_replay_9 : decode cc_P_replay 9 = .ok (.iload_n 2, 1) := by decide +kernel
theorem d_P_replay_10 : decode cc_P_replay 10 = .ok (.iload_n 1, 1) := by decide +kernel
theorem d_P_replay_11 : decode cc_P_replay 11 = .ok (.if_icmp .ge 15, 3) := by decide +kernel
theorem d_P_replay_14 : decode cc_P_replay 14 = .ok (.aload_n 0, 1) := by decide +kernel
theorem d_P_replay_15 : decode cc_P_replay 15 = .ok (.iload_n 2, 1) := by decide +kernel
theorem d_P_replay_16 : decode cc_P_replay 16 = .ok (.invokevirtual 162, 3) := by decide +kernel
theorem d_P_replay_19 : decode cc_P_replay 19 = .ok (.pop, 1) := by decide +kernel
theorem d_P_replay_20 : decode cc_P_replay 20 = .ok (.iinc 2 1, 3) := by decide +kernel
theorem d_P_replay_23 : decode cc_P_replay 23 = .ok (.goto (-14), 3) := by decide +kernel
theorem d_P_replay_26 : decode cc_P_replay 26 = .ok (.return_, 1) := by decide +kernel
theorem d_P_takeKept_0 : decode cc_P_takeKept 0 = .ok (.iload_n 1, 1) := by decide +kernel
theorem d_P_takeKept_1 : decode cc_P_takeKept 1 = .ok (.iconst 4, 1) := by decide +kernel
theorem d_P_takeKept_2 : decode cc_P_takeKept 2 = .ok (.imul, 1) := by decide +kernel
theorem d_P_takeKept_3 : decode cc_P_takeKept 3 = .ok (.istore_n 2, 1) := by decide +kernel
theorem d_P_takeKept_4 : decode cc_P_takeKept 4 = .ok (.aload_n 0, 1) := by decide +kernel
theorem d_P_takeKept_5 : decode cc_P_takeKept 5 = .ok (.getfield 23, 3) := by decide +kernel
theorem d_P_takeKept_8 : decode cc_P_takeKept 8 = .ok (.aload_n 0, 1) := by decide +kernel
theorem d_P_takeKept_9 : decode cc_P_takeKept 9 = .ok (.getfield 9, 3) := by decide +kernel
theorem d_P_takeKept_12 : decode cc_P_takeKept 12 = .ok (.iload_n 2, 1) := by decide +kernel
theorem d_P_takeKept_13 : decode cc_P_takeKept 13 = .ok (.iaload, 1) := by decide +kernel
theorem d_P_takeKept_14 : decode cc_P_takeKept 14 = .ok (.aload_n 0, 1) := by decide +kernel
theorem d_P_takeKept_15 : decode cc_P_takeKept 15 = .ok (.getfield 9, 3) := by decide +kernel
theorem d_P_takeKept_18 : decode cc_P_takeKept 18 = .ok (.iload_n 2, 1) := by decide +kernel
theorem d_P_takeKept_19 : decode cc_P_takeKept 19 = .ok (.iconst 1, 1) := by decide +kernel
theorem d_P_takeKept_20 : decode cc_P_takeKept 20 = .ok (.iadd, 1) := by decide +kernel
theorem d_P_takeKept_21 : decode cc_P_takeKept 21 = .ok (.iaload, 1) := by decide +kernel
theorem d_P_takeKept_22 : decode cc_P_takeKept 22 = .ok (.aload_n 0, 1) := by decide +kernel
theorem d_P_takeKept_23 : decode cc_P_takeKept 23 = .ok (.getfield 9, 3) := by decide +kernel
theorem d_P_takeKept_26 : decode cc_P_takeKept 26 = .ok (.iload_n 2, 1) := by decide +kernel
theorem d_P_takeKept_27 : decode cc_P_takeKept 27 = .ok (.iconst 2, 1) := by decide +kernel
theorem d_P_takeKept_28 : decode cc_P_takeKept 28 = .ok (.iadd, 1) := by decide +kernel
theorem d_P_takeKept_29 : decode cc_P_takeKept 29 = .ok (.iaload, 1) := by decide +kernel
theorem d_P_takeKept_30 : decode cc_P_takeKept 30 = .ok (.aload_n 0, 1) := by decide +kernel
theorem d_P_takeKept_31 : decode cc_P_takeKept 31 = .ok (.getfield 9, 3) := by decide +kernel
theorem d_P_takeKept_34 : decode cc_P_takeKept 34 = .ok (.iload_n 2, 1) := by decide +kernel
theorem d_P_takeKept_35 : decode cc_P_takeKept 35 = .ok (.iconst 3, 1) := by decide +kernel
theorem d_P_takeKept_36 : decode cc_P_takeKept 36 = .ok (.iadd, 1) := by decide +kernel
theorem d_P_takeKept_37 : decode cc_P_takeKept 37 = .ok (.iaload, 1) := by decide +kernel
theorem d_P_takeKept_38 : decode cc_P_takeKept 38 = .ok (.invokevirtual 61, 3) := by decide +kernel
theorem d_P_takeKept_41 : decode cc_P_takeKept 41 = .ok (.ireturn, 1) := by decide +kernel
theorem d_P_areAllTold_0 : decode cc_P_areAllTold 0 = .ok (.iconst 0, 1) := by decide +kernel
theorem d_P_areAllTold_1 : decode cc_P_areAllTold 1 = .ok (.istore_n 2, 1) := by decide +kernel
theorem d_P_areAllTold_2 : decode cc_P_areAllTold 2 = .ok (.iload_n 2, 1) := by decide +kernel
theorem d_P_areAllTold_3 : decode cc_P_areAllTold 3 = .ok (.bipush 32, 2) := by decide +kernel
theorem d_P_areAllTold_5 : decode cc_P_areAllTold 5 = .ok (.if_icmp .ge 30, 3) := by decide +kernel
theorem d_P_areAllTold_8 : decode cc_P_areAllTold 8 = .ok (.iload_n 2, 1) := by decide +kernel
theorem d_P_areAllTold_9 : decode cc_P_areAllTold 9 = .ok (.iload_n 1, 1) := by decide +kernel
theorem d_P_areAllTold_10 : decode cc_P_areAllTold 10 = .ok (.invokestatic 189, 3) := by decide +kernel
theorem d_P_areAllTold_13 : decode cc_P_areAllTold 13 = .ok (.ifCond .eq 16, 3) := by decide +kernel
theorem d_P_areAllTold_16 : decode cc_P_areAllTold 16 = .ok (.aload_n 0, 1) := by decide +kernel
theorem d_P_areAllTold_17 : decode cc_P_areAllTold 17 = .ok (.getfield 23, 3) := by decide +kernel
theorem d_P_areAllTold_20 : decode cc_P_areAllTold 20 = .ok (.iload_n 2, 1) := by decide +kernel
theorem d_P_areAllTold_21 : decode cc_P_areAllTold 21 = .ok (.invokevirtual 99, 3) := by decide +kernel
theorem d_P_areAllTold_24 : decode cc_P_areAllTold 24 = .ok (.ifCond .ne 5, 3) := by decide +kernel
theorem d_P_areAllTold_27 : decode cc_P_areAllTold 27 = .ok (.iconst 0, 1) := by decide +kernel
theorem d_P_areAllTold_28 : decode cc_P_areAllTold 28 = .ok (.ireturn, 1) := by decide +kernel
theorem d_P_areAllTold_29 : decode cc_P_areAllTold 29 = .ok (.iinc 2 1, 3) := by decide +kernel
theorem d_P_areAllTold_32 : decode cc_P_areAllTold 32 = .ok (.goto (-30), 3) := by decide +kernel
theorem d_P_areAllTold_35 : decode cc_P_areAllTold 35 = .ok (.iconst 1, 1) := by decide +kernel
theorem d_P_areAllTold_36 : decode cc_P_areAllTold 36 = .ok (.ireturn, 1) := by decide +kernel
theorem d_P_isEvent_0 : decode cc_P_isEvent 0 = .ok (.iload_n 1, 1) := by decide +kernel
theorem d_P_isEvent_1 : decode cc_P_isEvent 1 = .ok (.iconst 0, 1) := by decide +kernel
theorem d_P_isEvent_2 : decode cc_P_isEvent 2 = .ok (.aload_n 0, 1) := by decide +kernel
theorem d_P_isEvent_3 : decode cc_P_isEvent 3 = .ok (.getfield 13, 3) := by decide +kernel
theorem d_P_isEvent_6 : decode cc_P_isEvent 6 = .ok (.iconst 1, 1) := by decide +kernel
theorem d_P_isEvent_7 : decode cc_P_isEvent 7 = .ok (.isub, 1) := by decide +kernel
theorem d_P_isEvent_8 : decode cc_P_isEvent 8 = .ok (.invokestatic 165, 3) := by decide +kernel
theorem d_P_isEvent_11 : decode cc_P_isEvent 11 = .ok (.ireturn, 1) := by decide +kernel
theorem d_P_hasSoMany_0 : decode cc_P_hasSoMany 0 = .ok (.iload_n 1, 1) := by decide +kernel
theorem d_P_hasSoMany_1 : decode cc_P_hasSoMany 1 = .ok (.iconst 0, 1) := by decide +kernel
theorem d_P_hasSoMany_2 : decode cc_P_hasSoMany 2 = .ok (.aload_n 0, 1) := by decide +kernel
theorem d_P_hasSoMany_3 : decode cc_P_hasSoMany 3 = .ok (.getfield 13, 3) := by decide +kernel
theorem d_P_hasSoMany_6 : decode cc_P_hasSoMany 6 = .ok (.invokestatic 165, 3) := by decide +kernel
theorem d_P_hasSoMany_9 : decode cc_P_hasSoMany 9 = .ok (.ireturn, 1) := by decide +kernel
theorem d_P_isInRange_0 : decode cc_P_isInRange 0 = .ok (.iload_n 0, 1) := by decide +kernel
theorem d_P_isInRange_1 : decode cc_P_isInRange 1 = .ok (.tableswitch 233 0 6 #[43, 70, 94, 115, 145, 169, 203], 43) := by decide +kernel
theorem d_P_isInRange_44 : decode cc_P_isInRange 44 = .ok (.iload_n 1, 1) := by decide +kernel
theorem d_P_isInRange_45 : decode cc_P_isInRange 45 = .ok (.invokestatic 91, 3) := by decide +kernel
theorem d_P_isInRange_48 : decode cc_P_isInRange 48 = .ok (.ifCond .eq 21, 3) := by decide +kernel
theorem d_P_isInRange_51 : decode cc_P_isInRange 51 = .ok (.iload_n 2, 1) := by decide +kernel
theorem d_P_isInRange_52 : decode cc_P_isInRange 52 = .ok (.invokestatic 74, 3) := by decide +kernel
theorem d_P_isInRange_55 : decode cc_P_isInRange 55 = .ok (.ifCond .eq 14, 3) := by decide +kernel
theorem d_P_isInRange_58 : decode cc_P_isInRange 58 = .ok (.iload_n 3, 1) := by decide +kernel
theorem d_P_isInRange_59 : decode cc_P_isInRange 59 = .ok (.invokestatic 68, 3) := by decide +kernel
theorem d_P_isInRange_62 : decode cc_P_isInRange 62 = .ok (.ifCond .eq 7, 3) := by decide +kernel
theorem d_P_isInRange_65 : decode cc_P_isInRange 65 = .ok (.iconst 1, 1) := by decide +kernel
theorem d_P_isInRange_66 : decode cc_P_isInRange 66 = .ok (.goto 4, 3) := by decide +kernel
theorem d_P_isInRange_69 : decode cc_P_isInRange 69 = .ok (.iconst 0, 1) := by decide +kernel
theorem d_P_isInRange_70 : decode cc_P_isInRange 70 = .ok (.ireturn, 1) := by decide +kernel
theorem d_P_isInRange_71 : decode cc_P_isInRange 71 = .ok (.iload_n 1, 1) := by decide +kernel
theorem d_P_isInRange_72 : decode cc_P_isInRange 72 = .ok (.invokestatic 91, 3) := by decide +kernel
theorem d_P_isInRange_75 : decode cc_P_isInRange 75 = .ok (.ifCond .eq 18, 3) := by decide +kernel
theorem d_P_isInRange_78 : decode cc_P_isInRange 78 = .ok (.iload_n 2, 1) := by decide +kernel
theorem d_P_isInRange_79 : decode cc_P_isInRange 79 = .ok (.invokestatic 68, 3) := by decide +kernel
theorem d_P_isInRange_82 : decode cc_P_isInRange 82 = .ok (.ifCond .eq 11, 3) := by decide +kernel
theorem d_P_isInRange_85 : decode cc_P_isInRange 85 = .ok (.iload_n 3, 1) := by decide +kernel
theorem d_P_isInRange_86 : decode cc_P_isInRange 86 = .ok (.ifCond .ne 7, 3) := by decide +kernel
theorem d_P_isInRange_89 : decode cc_P_isInRange 89 = .ok (.iconst 1, 1) := by decide +kernel
theorem d_P_isInRange_90 : decode cc_P_isInRange 90 = .ok (.goto 4, 3) := by decide +kernel
theorem d_P_isInRange_93 : decode cc_P_isInRange 93 = .ok (.iconst 0, 1) := by decide +kernel
theorem d_P_isInRange_94 : decode cc_P_isInRange 94 = .ok (.ireturn, 1) := by decide +kernel
theorem d_P_isInRange_95 : decode cc_P_isInRange 95 = .ok (.iload_n 1, 1) := by decide +kernel
theorem d_P_isInRange_96 : decode cc_P_isInRange 96 = .ok (.invokestatic 91, 3) := by decide +kernel
theorem d_P_isInRange_99 : decode cc_P_isInRange 99 = .ok (.ifCond .eq 15, 3) := by decide +kernel
theorem d_P_isInRange_102 : decode cc_P_isInRange 102 = .ok (.iload_n 2, 1) := by decide +kernel
theorem d_P_isInRange_103 : decode cc_P_isInRange 103 = .ok (.ifCond .ne 11, 3) := by decide +kernel
theorem d_P_isInRange_106 : decode cc_P_isInRange 106 = .ok (.iload_n 3, 1) := by decide +kernel
theorem d_P_isInRange_107 : decode cc_P_isInRange 107 = .ok (.ifCond .ne 7, 3) := by decide +kernel
theorem d_P_isInRange_110 : decode cc_P_isInRange 110 = .ok (.iconst 1, 1) := by decide +kernel
theorem d_P_isInRange_111 : decode cc_P_isInRange 111 = .ok (.goto 4, 3) := by decide +kernel
theorem d_P_isInRange_114 : decode cc_P_isInRange 114 = .ok (.iconst 0, 1) := by decide +kernel
theorem d_P_isInRange_115 : decode cc_P_isInRange 115 = .ok (.ireturn, 1) := by decide +kernel
theorem d_P_isInRange_116 : decode cc_P_isInRange 116 = .ok (.iload_n 1, 1) := by decide +kernel
theorem d_P_isInRange_117 : decode cc_P_isInRange 117 = .ok (.invokestatic 193, 3) := by decide +kernel
theorem d_P_isInRange_120 : decode cc_P_isInRange 120 = .ok (.ifCond .eq 24, 3) := by decide +kernel
theorem d_P_isInRange_123 : decode cc_P_isInRange 123 = .ok (.iload_n 2, 1) := by decide +kernel
theorem d_P_isInRange_124 : decode cc_P_isInRange 124 = .ok (.iconst 1, 1) := by decide +kernel
theorem d_P_isInRange_125 : decode cc_P_isInRange 125 = .ok (.bipush 9, 2) := by decide +kernel
theorem d_P_isInRange_127 : decode cc_P_isInRange 127 = .ok (.invokestatic 165, 3) := by decide +kernel
theorem d_P_isInRange_130 : decode cc_P_isInRange 130 = .ok (.ifCond .eq 14, 3) := by decide +kernel
theorem d_P_isInRange_133 : decode cc_P_isInRange 133 = .ok (.iload_n 3, 1) := by decide +kernel
theorem d_P_isInRange_134 : decode cc_P_isInRange 134 = .ok (.invokestatic 74, 3) := by decide +kernel
theorem d_P_isInRange_137 : decode cc_P_isInRange 137 = .ok (.ifCond .eq 7, 3) := by decide +kernel
theorem d_P_isInRange_140 : decode cc_P_isInRange 140 = .ok (.iconst 1, 1) := by decide +kernel
theorem d_P_isInRange_141 : decode cc_P_isInRange 141 = .ok (.goto 4, 3) := by decide +kernel
theorem d_P_isInRange_144 : decode cc_P_isInRange 144 = .ok (.iconst 0, 1) := by decide +kernel
theorem d_P_isInRange_145 : decode cc_P_isInRange 145 = .ok (.ireturn, 1) := by decide +kernel
theorem d_P_isInRange_146 : decode cc_P_isInRange 146 = .ok (.iload_n 1, 1) := by decide +kernel
theorem d_P_isInRange_147 : decode cc_P_isInRange 147 = .ok (.invokestatic 91, 3) := by decide +kernel
theorem d_P_isInRange_150 : decode cc_P_isInRange 150 = .ok (.ifCond .eq 18, 3) := by decide +kernel
theorem d_P_isInRange_153 : decode cc_P_isInRange 153 = .ok (.iload_n 2, 1) := by decide +kernel
theorem d_P_isInRange_154 : decode cc_P_isInRange 154 = .ok (.invokestatic 193, 3) := by decide +kernel
theorem d_P_isInRange_157 : decode cc_P_isInRange 157 = .ok (.ifCond .eq 11, 3) := by decide +kernel
theorem d_P_isInRange_160 : decode cc_P_isInRange 160 = .ok (.iload_n 3, 1) := by decide +kernel
theorem d_P_isInRange_161 : decode cc_P_isInRange 161 = .ok (.ifCond .ne 7, 3) := by decide +kernel
theorem d_P_isInRange_164 : decode cc_P_isInRange 164 = .ok (.iconst 1, 1) := by decide +kernel
theorem d_P_isInRange_165 : decode cc_P_isInRange 165 = .ok (.goto 4, 3) := by decide +kernel
theorem d_P_isInRange_168 : decode cc_P_isInRange 168 = .ok (.iconst 0, 1) := by decide +kernel
theorem d_P_isInRange_169 : decode cc_P_isInRange 169 = .ok (.ireturn, 1) := by decide +kernel
theorem d_P_isInRange_170 : decode cc_P_isInRange 170 = .ok (.iload_n 1, 1) := by decide +kernel
theorem d_P_isInRange_171 : decode cc_P_isInRange 171 = .ok (.invokestatic 149, 3) := by decide +kernel
theorem d_P_isInRange_174 : decode cc_P_isInRange 174 = .ok (.ifCond .eq 28, 3) := by decide +kernel
theorem d_P_isInRange_177 : decode cc_P_isInRange 177 = .ok (.iload_n 2, 1) := by decide +kernel
theorem d_P_isInRange_178 : decode cc_P_isInRange 178 = .ok (.ifCond .eq 24, 3) := by decide +kernel
theorem d_P_isInRange_181 : decode cc_P_isInRange 181 = .ok (.iload_n 2, 1) := by decide +kernel
theorem d_P_isInRange_182 : decode cc_P_isInRange 182 = .ok (.sipush (-10000), 3) := by decide +kernel
theorem d_P_isInRange_185 : decode cc_P_isInRange 185 = .ok (.sipush 10000, 3) := by decide +kernel
theorem d_P_isInRange_188 : decode cc_P_isInRange 188 = .ok (.invokestatic 165, 3) := by decide +kernel
theorem d_P_isInRange_191 : decode cc_P_isInRange 191 = .ok (.ifCond .eq 11, 3) := by decide +kernel
theorem d_P_isInRange_194 : decode cc_P_isInRange 194 = .ok (.iload_n 3, 1) := by decide +kernel
theorem d_P_isInRange_195 : decode cc_P_isInRange 195 = .ok (.ifCond .ne 7, 3) := by decide +kernel
theorem d_P_isInRange_198 : decode cc_P_isInRange 198 = .ok (.iconst 1, 1) := by decide +kernel
theorem d_P_isInRange_199 : decode cc_P_isInRange 199 = .ok (.goto 4, 3) := by decide +kernel
theorem d_P_isInRange_202 : decode cc_P_isInRange 202 = .ok (.iconst 0, 1) := by decide +kernel
theorem d_P_isInRange_203 : decode cc_P_isInRange 203 = .ok (.ireturn, 1) := by decide +kernel
theorem d_P_isInRange_204 : decode cc_P_isInRange 204 = .ok (.iload_n 1, 1) := by decide +kernel
theorem d_P_isInRange_205 : decode cc_P_isInRange 205 = .ok (.invokestatic 68, 3) := by decide +kernel
theorem d_P_isInRange_208 : decode cc_P_isInRange 208 = .ok (.ifCond .eq 24, 3) := by decide +kernel
theorem d_P_isInRange_211 : decode cc_P_isInRange 211 = .ok (.iload_n 2, 1) := by decide +kernel
theorem d_P_isInRange_212 : decode cc_P_isInRange 212 = .ok (.invokestatic 68, 3) := by decide +kernel
theorem d_P_isInRange_215 : decode cc_P_isInRange 215 = .ok (.ifCond .eq 17, 3) := by decide +kernel
theorem d_P_isInRange_218 : decode cc_P_isInRange 218 = .ok (.iload_n 3, 1) := by decide +kernel
theorem d_P_isInRange_219 : decode cc_P_isInRange 219 = .ok (.iconst 1, 1) := by decide +kernel
theorem d_P_isInRange_220 : decode cc_P_isInRange 220 = .ok (.bipush 99, 2) := by decide +kernel
theorem d_P_isInRange_222 : decode cc_P_isInRange 222 = .ok (.invokestatic 165, 3) := by decide +kernel
theorem d_P_isInRange_225 : decode cc_P_isInRange 225 = .ok (.ifCond .eq 7, 3) := by decide +kernel
theorem d_P_isInRange_228 : decode cc_P_isInRange 228 = .ok (.iconst 1, 1) := by decide +kernel
theorem d_P_isInRange_229 : decode cc_P_isInRange 229 = .ok (.goto 4, 3) := by decide +kernel
theorem d_P_isInRange_232 : decode cc_P_isInRange 232 = .ok (.iconst 0, 1) := by decide +kernel
theorem d_P_isInRange_233 : decode cc_P_isInRange 233 = .ok (.ireturn, 1) := by decide +kernel
theorem d_P_isInRange_234 : decode cc_P_isInRange 234 = .ok (.iconst 0, 1) := by decide +kernel
theorem d_P_isInRange_235 : decode cc_P_isInRange 235 = .ok (.ireturn, 1) := by decide +kernel
theorem d_P_isUnit_0 : decode cc_P_isUnit 0 = .ok (.iload_n 0, 1) := by decide +kernel
theorem d_P_isUnit_1 : decode cc_P_isUnit 1 = .ok (.iconst 0, 1) := by decide +kernel
theorem d_P_isUnit_2 : decode cc_P_isUnit 2 = .ok (.bipush 19, 2) := by decide +kernel
theorem d_P_isUnit_4 : decode cc_P_isUnit 4 = .ok (.invokestatic 165, 3) := by decide +kernel
theorem d_P_isUnit_7 : decode cc_P_isUnit 7 = .ok (.ireturn, 1) := by decide +kernel
theorem d_P_isGood_0 : decode cc_P_isGood 0 = .ok (.iload_n 0, 1) := by decide +kernel
theorem d_P_isGood_1 : decode cc_P_isGood 1 = .ok (.iconst 0, 1) := by decide +kernel
theorem d_P_isGood_2 : decode cc_P_isGood 2 = .ok (.iconst 5, 1) := by decide +kernel
theorem d_P_isGood_3 : decode cc_P_isGood 3 = .ok (.invokestatic 165, 3) := by decide +kernel
theorem d_P_isGood_6 : decode cc_P_isGood 6 = .ok (.ireturn, 1) := by decide +kernel
theorem d_P_isPlace_0 : decode cc_P_isPlace 0 = .ok (.iload_n 0, 1) := by decide +kernel
theorem d_P_isPlace_1 : decode cc_P_isPlace 1 = .ok (.iconst 0, 1) := by decide +kernel
theorem d_P_isPlace_2 : decode cc_P_isPlace 2 = .ok (.bipush 9, 2) := by decide +kernel
theorem d_P_isPlace_4 : decode cc_P_isPlace 4 = .ok (.invokestatic 165, 3) := by decide +kernel
theorem d_P_isPlace_7 : decode cc_P_isPlace 7 = .ok (.ireturn, 1) := by decide +kernel
theorem d_P_isOrder_0 : decode cc_P_isOrder 0 = .ok (.iload_n 0, 1) := by decide +kernel
theorem d_P_isOrder_1 : decode cc_P_isOrder 1 = .ok (.iconst 0, 1) := by decide +kernel
theorem d_P_isOrder_2 : decode cc_P_isOrder 2 = .ok (.bipush 9, 2) := by decide +kernel
theorem d_P_isOrder_4 : decode cc_P_isOrder 4 = .ok (.invokestatic 165, 3) := by decide +kernel
theorem d_P_isOrder_7 : decode cc_P_isOrder 7 = .ok (.ireturn, 1) := by decide +kernel
theorem d_P_isOwner_0 : decode cc_P_isOwner 0 = .ok (.iload_n 0, 1) := by decide +kernel
theorem d_P_isOwner_1 : decode cc_P_isOwner 1 = .ok (.iconst 0, 1) := by decide +kernel
theorem d_P_isOwner_2 : decode cc_P_isOwner 2 = .ok (.iconst 3, 1) := by decide +kernel
theorem d_P_isOwner_3 : decode cc_P_isOwner 3 = .ok (.invokestatic 165, 3) := by decide +kernel
theorem d_P_isOwner_6 : decode cc_P_isOwner 6 = .ok (.ireturn, 1) := by decide +kernel
theorem d_P_isWithin_0 : decode cc_P_isWithin 0 = .ok (.iload_n 0, 1) := by decide +kernel
theorem d_P_isWithin_1 : decode cc_P_isWithin 1 = .ok (.iload_n 1, 1) := by decide +kernel
theorem d_P_isWithin_2 : decode cc_P_isWithin 2 = .ok (.if_icmp .lt 12, 3) := by decide +kernel
theorem d_P_isWithin_5 : decode cc_P_isWithin 5 = .ok (.iload_n 0, 1) := by decide +kernel
theorem d_P_isWithin_6 : decode cc_P_isWithin 6 = .ok (.iload_n 2, 1) := by decide +kernel
theorem d_P_isWithin_7 : decode cc_P_isWithin 7 = .ok (.if_icmp .gt 7, 3) := by decide +kernel
theorem d_P_isWithin_10 : decode cc_P_isWithin 10 = .ok (.iconst 1, 1) := by decide +kernel
theorem d_P_isWithin_11 : decode cc_P_isWithin 11 = .ok (.goto 4, 3) := by decide +kernel
theorem d_P_isWithin_14 : decode cc_P_isWithin 14 = .ok (.iconst 0, 1) := by decide +kernel
theorem d_P_isWithin_15 : decode cc_P_isWithin 15 = .ok (.ireturn, 1) := by decide +kernel
theorem d_P_isInSet_0 : decode cc_P_isInSet 0 = .ok (.iload_n 1, 1) := by decide +kernel
theorem d_P_isInSet_1 : decode cc_P_isInSet 1 = .ok (.iload_n 0, 1) := by decide +kernel
theorem d_P_isInSet_2 : decode cc_P_isInSet 2 = .ok (.iushr, 1) := by decide +kernel
theorem d_P_isInSet_3 : decode cc_P_isInSet 3 = .ok (.iconst 1, 1) := by decide +kernel
theorem d_P_isInSet_4 : decode cc_P_isInSet 4 = .ok (.iand, 1) := by decide +kernel
theorem d_P_isInSet_5 : decode cc_P_isInSet 5 = .ok (.iconst 1, 1) := by decide +kernel
theorem d_P_isInSet_6 : decode cc_P_isInSet 6 = .ok (.if_icmp .ne 7, 3) := by decide +kernel
theorem d_P_isInSet_9 : decode cc_P_isInSet 9 = .ok (.iconst 1, 1) := by decide +kernel
theorem d_P_isInSet_10 : decode cc_P_isInSet 10 = .ok (.goto 4, 3) := by decide +kernel
theorem d_P_isInSet_13 : decode cc_P_isInSet 13 = .ok (.iconst 0, 1) := by decide +kernel
theorem d_P_isInSet_14 : decode cc_P_isInSet 14 = .ok (.ireturn, 1) := by decide +kernel
theorem d_P_pair_0 : decode cc_P_pair 0 = .ok (.iload_n 0, 1) := by decide +kernel
theorem d_P_pair_1 : decode cc_P_pair 1 = .ok (.bipush 10, 2) := by decide +kernel
theorem d_P_pair_3 : decode cc_P_pair 3 = .ok (.imul, 1) := by decide +kernel
theorem d_P_pair_4 : decode cc_P_pair 4 = .ok (.iload_n 1, 1) := by decide +kernel
theorem d_P_pair_5 : decode cc_P_pair 5 = .ok (.iadd, 1) := by decide +kernel
theorem d_P_pair_6 : decode cc_P_pair 6 = .ok (.ireturn, 1) := by decide +kernel
theorem d_P_orNone_0 : decode cc_P_orNone 0 = .ok (.iload_n 0, 1) := by decide +kernel
theorem d_P_orNone_1 : decode cc_P_orNone 1 = .ok (.ldc 196, 2) := by decide +kernel
theorem d_P_orNone_3 : decode cc_P_orNone 3 = .ok (.if_icmp .lt 7, 3) := by decide +kernel
theorem d_P_orNone_6 : decode cc_P_orNone 6 = .ok (.iconst (-1), 1) := by decide +kernel
theorem d_P_orNone_7 : decode cc_P_orNone 7 = .ok (.goto 4, 3) := by decide +kernel
theorem d_P_orNone_10 : decode cc_P_orNone 10 = .ok (.iload_n 0, 1) := by decide +kernel
theorem d_P_orNone_11 : decode cc_P_orNone 11 = .ok (.ireturn, 1) := by decide +kernel
theorem d_F_init_0 : decode cc_F_init 0 = .ok (.aload_n 0, 1) := by decide +kernel
theorem d_F_init_1 : decode cc_F_init 1 = .ok (.invokespecial 3, 3) := by decide +kernel
theorem d_F_init_4 : decode cc_F_init 4 = .ok (.aload_n 0, 1) := by decide +kernel
theorem d_F_init_5 : decode cc_F_init 5 = .ok (.bipush 6, 2) := by decide +kernel
theorem d_F_init_7 : decode cc_F_init 7 = .ok (.newarray .int, 2) := by decide +kernel
theorem d_F_init_9 : decode cc_F_init 9 = .ok (.putfield 9, 3) := by decide +kernel
theorem d_F_init_12 : decode cc_F_init 12 = .ok (.aload_n 0, 1) := by decide +kernel
theorem d_F_init_13 : decode cc_F_init 13 = .ok (.bipush 6, 2) := by decide +kernel
theorem d_F_init_15 : decode cc_F_init 15 = .ok (.newarray .int, 2) := by decide +kernel
theorem d_F_init_17 : decode cc_F_init 17 = .ok (.putfield 15, 3) := by decide +kernel
theorem d_F_init_20 : decode cc_F_init 20 = .ok (.aload_n 0, 1) := by decide +kernel
theorem d_F_init_21 : decode cc_F_init 21 = .ok (.bipush 6, 2) := by decide +kernel
theorem d_F_init_23 : decode cc_F_init 23 = .ok (.newarray .int, 2) := by decide +kernel
theorem d_F_init_25 : decode cc_F_init 25 = .ok (.putfield 18, 3) := by decide +kernel
theorem d_F_init_28 : decode cc_F_init 28 = .ok (.aload_n 0, 1) := by decide +kernel
theorem d_F_init_29 : decode cc_F_init 29 = .ok (.bipush 6, 2) := by decide +kernel
theorem d_F_init_31 : decode cc_F_init 31 = .ok (.newarray .int, 2) := by decide +kernel
theorem d_F_init_33 : decode cc_F_init 33 = .ok (.putfield 21, 3) := by decide +kernel
theorem d_F_init_36 : decode cc_F_init 36 = .ok (.aload_n 0, 1) := by decide +kernel
theorem d_F_init_37 : decode cc_F_init 37 = .ok (.iconst 0, 1) := by decide +kernel
theorem d_F_init_38 : decode cc_F_init 38 = .ok (.putfield 24, 3) := by decide +kernel
theorem d_F_init_41 : decode cc_F_init 41 = .ok (.return_, 1) := by decide +kernel
theorem d_F_most_0 : decode cc_F_most 0 = .ok (.aload_n 0, 1) := by decide +kernel
theorem d_F_most_1 : decode cc_F_most 1 = .ok (.aload_n 1, 1) := by decide +kernel
theorem d_F_most_2 : decode cc_F_most 2 = .ok (.invokevirtual 28, 3) := by decide +kernel
theorem d_F_most_5 : decode cc_F_most 5 = .ok (.aload_n 0, 1) := by decide +kernel
theorem d_F_most_6 : decode cc_F_most 6 = .ok (.aload_n 1, 1) := by decide +kernel
theorem d_F_most_7 : decode cc_F_most 7 = .ok (.iload_n 2, 1) := by decide +kernel
theorem d_F_most_8 : decode cc_F_most 8 = .ok (.invokevirtual 32, 3) := by decide +kernel
theorem d_F_most_11 : decode cc_F_most 11 = .ok (.iconst 0, 1) := by decide +kernel
theorem d_F_most_12 : decode cc_F_most 12 = .ok (.istore_n 3, 1) := by decide +kernel
theorem d_F_most_13 : decode cc_F_most 13 = .ok (.iconst 0, 1) := by decide +kernel
theorem d_F_most_14 : decode cc_F_most 14 = .ok (.istore 4, 2) := by decide +kernel
theorem d_F_most_16 : decode cc_F_most 16 = .ok (.iload 4, 2) := by decide +kernel
theorem d_F_most_18 : decode cc_F_most 18 = .ok (.iconst 1, 1) := by decide +kernel
theorem d_F_most_19 : decode cc_F_most 19 = .ok (.aload_n 0, 1) := by decide +kernel
theorem d_F_most_20 : decode cc_F_most 20 = .ok (.getfield 24, 3) := by decide +kernel
theorem d_F_most_23 : decode cc_F_most 23 = .ok (.ishl, 1) := by decide +kernel
theorem d_F_most_24 : decode cc_F_most 24 = .ok (.if_icmp .ge 33, 3) := by decide +kernel
theorem d_F_most_27 : decode cc_F_most 27 = .ok (.iload 4, 2) := by decide +kernel
theorem d_F_most_29 : decode cc_F_most 29 = .ok (.invokestatic 36, 3) := by decide +kernel
theorem d_F_most_32 : decode cc_F_most 32 = .ok (.iload_n 3, 1) := by decide +kernel
theorem d_F_most_33 : decode cc_F_most 33 = .ok (.if_icmp .le 18, 3) := by decide +kernel
theorem d_F_most_36 : decode cc_F_most 36 = .ok (.aload_n 0, 1) := by decide +kernel
theorem d_F_most_37 : decode cc_F_most 37 = .ok (.iload 4, 2) := by decide +kernel
theorem d_F_most_39 : decode cc_F_most 39 = .ok (.invokevirtual 42, 3) := by decide +kernel
theorem d_F_most_42 : decode cc_F_most 42 = .ok (.ifCond .eq 9, 3) := by decide +kernel
theorem d_F_most_45 : decode cc_F_most 45 = .ok (.iload 4, 2) := by decide +kernel
theorem d_F_most_47 : decode cc_F_most 47 = .ok (.invokestatic 36, 3) := by decide +kernel
theorem d_F_most_50 : decode cc_F_most 50 = .ok (.istore_n 3, 1) := by decide +kernel
theorem d_F_most_51 : decode cc_F_most 51 = .ok (.iinc 4 1, 3) := by decide +kernel
theorem d_F_most_54 : decode cc_F_most 54 = .ok (.goto (-38), 3) := by decide +kernel
theorem d_F_most_57 : decode cc_F_most 57 = .ok (.iload_n 3, 1) := by decide +kernel
theorem d_F_most_58 : decode cc_F_most 58 = .ok (.ireturn, 1) := by decide +kernel
theorem d_F_countFree_0 : decode cc_F_countFree 0 = .ok (.iconst 0, 1) := by decide +kernel
theorem d_F_countFree_1 : decode cc_F_countFree 1 = .ok (.istore_n 2, 1) := by decide +kernel
theorem d_F_countFree_2 : decode cc_F_countFree 2 = .ok (.iload_n 2, 1) := by decide +kernel
theorem d_F_countFree_3 : decode cc_F_countFree 3 = .ok (.bipush 6, 2) := by decide +kernel
theorem d_F_countFree_5 : decode cc_F_countFree 5 = .ok (.if_icmp .ge 20, 3) := by decide +kernel
theorem d_F_countFree_8 : decode cc_F_countFree 8 = .ok (.aload_n 0, 1) := by decide +kernel
theorem d_F_countFree_9 : decode cc_F_countFree 9 = .ok (.getfield 18, 3) := by decide +kernel
theorem d_F_countFree_12 : decode cc_F_countFree 12 = .ok (.iload_n 2, 1) := by decide +kernel
theorem d_F_countFree_13 : decode cc_F_countFree 13 = .ok (.aload_n 1, 1) := by decide +kernel
theorem d_F_countFree_14 : decode cc_F_countFree 14 = .ok (.iload_n 2, 1) := by decide +kernel
theorem d_F_countFree_15 : decode cc_F_countFree 15 = .ok (.invokevirtual 46, 3) := by decide +kernel
theorem d_F_countFree_18 : decode cc_F_countFree 18 = .ok (.iastore, 1) := by decide +kernel
theorem d_F_countFree_19 : decode cc_F_countFree 19 = .ok (.iinc 2 1, 3) := by decide +kernel
theorem d_F_countFree_22 : decode cc_F_countFree 22 = .ok (.goto (-20), 3) := by decide +kernel
theorem d_F_countFree_25 : decode cc_F_countFree 25 = .ok (.return_, 1) := by decide +kernel
theorem d_F_chooseOpen_0 : decode cc_F_chooseOpen 0 = .ok (.aload_n 0, 1) := by decide +kernel
theorem d_F_chooseOpen_1 : decode cc_F_chooseOpen 1 = .ok (.iconst 0, 1) := by decide +kernel
theorem d_F_chooseOpen_2 : decode cc_F_chooseOpen 2 = .ok (.putfield 24, 3) := by decide +kernel
theorem d_F_chooseOpen_5 : decode cc_F_chooseOpen 5 = .ok (.iconst 0, 1) := by decide +kernel
theorem d_F_chooseOpen_6 : decode cc_F_chooseOpen 6 = .ok (.istore_n 3, 1) := by decide +kernel
theorem d_F_chooseOpen_7 : decode cc_F_chooseOpen 7 = .ok (.iload_n 3, 1) := by decide +kernel
theorem d_F_chooseOpen_8 : decode cc_F_chooseOpen 8 = .ok (.bipush 10, 2) := by decide +kernel
theorem d_F_chooseOpen_10 : decode cc_F_chooseOpen 10 = .ok (.if_icmp .ge 81, 3) := by decide +kernel
theorem d_F_chooseOpen_13 : decode cc_F_chooseOpen 13 = .ok (.aload_n 0, 1) := by decide +kernel
theorem d_F_chooseOpen_14 : decode cc_F_chooseOpen 14 = .ok (.getfield 24, 3) := by decide +kernel
theorem d_F_chooseOpen_17 : decode cc_F_chooseOpen 17 = .ok (.bipush 6, 2) := by decide +kernel
theorem d_F_chooseOpen_19 : decode cc_F_chooseOpen 19 = .ok (.if_icmp .ge 72, 3) := by decide +kernel
theorem d_F_chooseOpen_22 : decode cc_F_chooseOpen 22 = .ok (.iload_n 3, 1) := by decide +kernel
theorem d_F_chooseOpen_23 : decode cc_F_chooseOpen 23 = .ok (.iload_n 2, 1) := by decide +kernel
theorem d_F_chooseOpen_24 : decode cc_F_chooseOpen 24 = .ok (.invokestatic 51, 3) := by decide +kernel
theorem d_F_chooseOpen_27 : decode cc_F_chooseOpen 27 = .ok (.ifCond .eq 58, 3) := by decide +kernel
theorem d_F_chooseOpen_30 : decode cc_F_chooseOpen 30 = .ok (.aload_n 1, 1) := by decide +kernel
theorem d_F_chooseOpen_31 : decode cc_F_chooseOpen 31 = .ok (.iload_n 3, 1) := by decide +kernel
theorem d_F_chooseOpen_32 : decode cc_F_chooseOpen 32 = .ok (.invokevirtual 55, 3) := by decide +kernel
theorem d_F_chooseOpen_35 : decode cc_F_chooseOpen 35 = .ok (.ifCond .eq 50, 3) := by decide +kernel
theorem d_F_chooseOpen_38 : decode cc_F_chooseOpen 38 = .ok (.aload_n 0, 1) := by decide +kernel
theorem d_F_chooseOpen_39 : decode cc_F_chooseOpen 39 = .ok (.getfield 9, 3) := by decide +kernel
theorem d_F_chooseOpen_42 : decode cc_F_chooseOpen 42 = .ok (.aload_n 0, 1) := by decide +kernel
theorem d_F_chooseOpen_43 : decode cc_F_chooseOpen 43 = .ok (.getfield 24, 3) := by decide +kernel
theorem d_F_chooseOpen_46 : decode cc_F_chooseOpen 46 = .ok (.aload_n 1, 1) := by decide +kernel
theorem d_F_chooseOpen_47 : decode cc_F_chooseOpen 47 = .ok (.getfield 58, 3) := by decide +kernel
theorem d_F_chooseOpen_50 : decode cc_F_chooseOpen 50 = .ok (.iload_n 3, 1) := by decide +kernel
theorem d_F_chooseOpen_51 : decode cc_F_chooseOpen 51 = .ok (.iaload, 1) := by decide +kernel
theorem d_F_chooseOpen_52 : decode cc_F_chooseOpen 52 = .ok (.aload_n 1, 1) := by decide +kernel
theorem d_F_chooseOpen_53 : decode cc_F_chooseOpen 53 = .ok (.getfield 61, 3) := by decide +kernel
theorem d_F_chooseOpen_56 : decode cc_F_chooseOpen 56 = .ok (.iload_n 3, 1) := by decide +kernel
theorem d_F_chooseOpen_57 : decode cc_F_chooseOpen 57 = .ok (.iaload, 1) := by decide +kernel
theorem d_F_chooseOpen_58 : decode cc_F_chooseOpen 58 = .ok (.isub, 1) := by decide +kernel
theorem d_F_chooseOpen_59 : decode cc_F_chooseOpen 59 = .ok (.iastore, 1) := by decide +kernel
theorem d_F_chooseOpen_60 : decode cc_F_chooseOpen 60 = .ok (.aload_n 0, 1) := by decide +kernel
theorem d_F_chooseOpen_61 : decode cc_F_chooseOpen 61 = .ok (.getfield 15, 3) := by decide +kernel
theorem d_F_chooseOpen_64 : decode cc_F_chooseOpen 64 = .ok (.aload_n 0, 1) := by decide +kernel
theorem d_F_chooseOpen_65 : decode cc_F_chooseOpen 65 = .ok (.getfield 24, 3) := by decide +kernel
theorem d_F_chooseOpen_68 : decode cc_F_chooseOpen 68 = .ok (.aload_n 1, 1) := by decide +kernel
theorem d_F_chooseOpen_69 : decode cc_F_chooseOpen 69 = .ok (.getfield 64, 3) := by decide +kernel
theorem d_F_chooseOpen_72 : decode cc_F_chooseOpen 72 = .ok (.iload_n 3, 1) := by decide +kernel
theorem d_F_chooseOpen_73 : decode cc_F_chooseOpen 73 = .ok (.iaload, 1) := by decide +kernel
theorem d_F_chooseOpen_74 : decode cc_F_chooseOpen 74 = .ok (.iastore, 1) := by decide +kernel
theorem d_F_chooseOpen_75 : decode cc_F_chooseOpen 75 = .ok (.aload_n 0, 1) := by decide +kernel
theorem d_F_chooseOpen_76 : decode cc_F_chooseOpen 76 = .ok (.dup, 1) := by decide +kernel
theorem d_F_chooseOpen_77 : decode cc_F_chooseOpen 77 = .ok (.getfield 24, 3) := by decide +kernel
theorem d_F_chooseOpen_80 : decode cc_F_chooseOpen 80 = .ok (.iconst 1, 1) := by decide +kernel
theorem d_F_chooseOpen_81 : decode cc_F_chooseOpen 81 = .ok (.iadd, 1) := by decide +kernel
theorem d_F_chooseOpen_82 : decode cc_F_chooseOpen 82 = .ok (.putfield 24, 3) := by decide +kernel
theorem d_F_chooseOpen_85 : decode cc_F_chooseOpen 85 = .ok (.iinc 3 1, 3) := by decide +kernel
theorem d_F_chooseOpen_88 : decode cc_F_chooseOpen 88 = .ok (.goto (-81), 3) := by decide +kernel
theorem d_F_chooseOpen_91 : decode cc_F_chooseOpen 91 = .ok (.return_, 1) := by decide +kernel
theorem d_F_isEnoughFor_0 : decode cc_F_isEnoughFor 0 = .ok (.aload_n 0, 1) := by decide +kernel
theorem d_F_isEnoughFor_1 : decode cc_F_isEnoughFor 1 = .ok (.getfield 18, 3) := by decide +kernel
theorem d_F_isEnoughFor_4 : decode cc_F_isEnoughFor 4 = .ok (.iconst 0, 1) := by decide +kernel
theorem d_F_isEnoughFor_5 : decode cc_F_isEnoughFor 5 = .ok (.aload_n 0, 1) := by decide +kernel
theorem d_F_isEnoughFor_6 : decode cc_F_isEnoughFor 6 = .ok (.getfield 21, 3) := by decide +kernel
theorem d_F_isEnoughFor_9 : decode cc_F_isEnoughFor 9 = .ok (.iconst 0, 1) := by decide +kernel
theorem d_F_isEnoughFor_10 : decode cc_F_isEnoughFor 10 = .ok (.bipush 6, 2) := by decide +kernel
theorem d_F_isEnoughFor_12 : decode cc_F_isEnoughFor 12 = .ok (.invokestatic 67, 3) := by decide +kernel
theorem d_F_isEnoughFor_15 : decode cc_F_isEnoughFor 15 = .ok (.iconst 0, 1) := by decide +kernel
theorem d_F_isEnoughFor_16 : decode cc_F_isEnoughFor 16 = .ok (.istore_n 2, 1) := by decide +kernel
theorem d_F_isEnoughFor_17 : decode cc_F_isEnoughFor 17 = .ok (.iload_n 2, 1) := by decide +kernel
theorem d_F_isEnoughFor_18 : decode cc_F_isEnoughFor 18 = .ok (.aload_n 0, 1) := by decide +kernel
theorem d_F_isEnoughFor_19 : decode cc_F_isEnoughFor 19 = .ok (.getfield 24, 3) := by decide +kernel
theorem d_F_isEnoughFor_22 : decode cc_F_isEnoughFor 22 = .ok (.if_icmp .ge 53, 3) := by decide +kernel
theorem d_F_isEnoughFor_25 : decode cc_F_isEnoughFor 25 = .ok (.iload_n 2, 1) := by decide +kernel
theorem d_F_isEnoughFor_26 : decode cc_F_isEnoughFor 26 = .ok (.iload_n 1, 1) := by decide +kernel
theorem d_F_isEnoughFor_27 : decode cc_F_isEnoughFor 27 = .ok (.invokestatic 51, 3) := by decide +kernel
theorem d_F_isEnoughFor_30 : decode cc_F_isEnoughFor 30 = .ok (.ifCond .eq 39, 3) := by decide +kernel
theorem d_F_isEnoughFor_33 : decode cc_F_isEnoughFor 33 = .ok (.aload_n 0, 1) := by decide +kernel
theorem d_F_isEnoughFor_34 : decode cc_F_isEnoughFor 34 = .ok (.getfield 21, 3) := by decide +kernel
theorem d_F_isEnoughFor_37 : decode cc_F_isEnoughFor 37 = .ok (.aload_n 0, 1) := by decide +kernel
theorem d_F_isEnoughFor_38 : decode cc_F_isEnoughFor 38 = .ok (.getfield 15, 3) := by decide +kernel
theorem d_F_isEnoughFor_41 : decode cc_F_isEnoughFor 41 = .ok (.iload_n 2, 1) := by decide +kernel
theorem d_F_isEnoughFor_42 : decode cc_F_isEnoughFor 42 = .ok (.iaload, 1) := by decide +kernel
theorem d_F_isEnoughFor_43 : decode cc_F_isEnoughFor 43 = .ok (.dup2, 1) := by decide +kernel
theorem d_F_isEnoughFor_44 : decode cc_F_isEnoughFor 44 = .ok (.iaload, 1) := by decide +kernel
theorem d_F_isEnoughFor_45 : decode cc_F_isEnoughFor 45 = .ok (.aload_n 0, 1) := by decide +kernel
theorem d_F_isEnoughFor_46 : decode cc_F_isEnoughFor 46 = .ok (.getfield 9, 3) := by decide +kernel
theorem d_F_isEnoughFor_49 : decode cc_F_isEnoughFor 49 = .ok (.iload_n 2, 1) := by decide +kernel
theorem d_F_isEnoughFor_50 : decode cc_F_isEnoughFor 50 = .ok (.iaload, 1) := by decide +kernel
theorem d_F_isEnoughFor_51 : decode cc_F_isEnoughFor 51 = .ok (.isub, 1) := by decide +kernel
theorem d_F_isEnoughFor_52 : decode cc_F_isEnoughFor 52 = .ok (.iastore, 1) := by decide +kernel
theorem d_F_isEnoughFor_53 : decode cc_F_isEnoughFor 53 = .ok (.aload_n 0, 1) := by decide +kernel
theorem d_F_isEnoughFor_54 : decode cc_F_isEnoughFor 54 = .ok (.getfield 21, 3) := by decide +kernel
theorem d_F_isEnoughFor_57 : decode cc_F_isEnoughFor 57 = .ok (.aload_n 0, 1) := by decide +kernel
theorem d_F_isEnoughFor_58 : decode cc_F_isEnoughFor 58 = .ok (.getfield 15, 3) := by decide +kernel
theorem d_F_isEnoughFor_61 : decode cc_F_isEnoughFor 61 = .ok (.iload_n 2, 1) := by decide +kernel
theorem d_F_isEnoughFor_62 : decode cc_F_isEnoughFor 62 = .ok (.iaload, 1) := by decide +kernel
theorem d_F_isEnoughFor_63 : decode cc_F_isEnoughFor 63 = .ok (.iaload, 1) := by decide +kernel
theorem d_F_isEnoughFor_64 : decode cc_F_isEnoughFor 64 = .ok (.ifCond .ge 5, 3) := by decide +kernel
theorem d_F_isEnoughFor_67 : decode cc_F_isEnoughFor 67 = .ok (.iconst 0, 1) := by decide +kernel
theorem d_F_isEnoughFor_68 : decode cc_F_isEnoughFor 68 = .ok (.ireturn, 1) := by decide +kernel
theorem d_F_isEnoughFor_69 : decode cc_F_isEnoughFor 69 = .ok (.iinc 2 1, 3) := by decide +kernel
theorem d_F_isEnoughFor_72 : decode cc_F_isEnoughFor 72 = .ok (.goto (-55), 3) := by decide +kernel
theorem d_F_isEnoughFor_75 : decode cc_F_isEnoughFor 75 = .ok (.iconst 1, 1) := by decide +kernel
theorem d_F_isEnoughFor_76 : decode cc_F_isEnoughFor 76 = .ok (.ireturn, 1) := by decide +kernel
theorem d_H_init_0 : decode cc_H_init 0 = .ok (.aload_n 0, 1) := by decide +kernel
theorem d_H_init_1 : decode cc_H_init 1 = .ok (.invokespecial 3, 3) := by decide +kernel
theorem d_H_init_4 : decode cc_H_init 4 = .ok (.aload_n 0, 1) := by decide +kernel
theorem d_H_init_5 : decode cc_H_init 5 = .ok (.bipush 20, 2) := by decide +kernel
theorem d_H_init_7 : decode cc_H_init 7 = .ok (.newarray .int, 2) := by decide +kernel
theorem d_H_init_9 : decode cc_H_init 9 = .ok (.putfield 9, 3) := by decide +kernel
theorem d_H_init_12 : decode cc_H_init 12 = .ok (.aload_n 0, 1) := by decide +kernel
theorem d_H_init_13 : decode cc_H_init 13 = .ok (.bipush 20, 2) := by decide +kernel
theorem d_H_init_15 : decode cc_H_init 15 = .ok (.newarray .int, 2) := by decide +kernel
theorem d_H_init_17 : decode cc_H_init 17 = .ok (.putfield 15, 3) := by decide +kernel
theorem d_H_init_20 : decode cc_H_init 20 = .ok (.aload_n 0, 1) := by decide +kernel
theorem d_H_init_21 : decode cc_H_init 21 = .ok (.bipush 20, 2) := by decide +kernel
theorem d_H_init_23 : decode cc_H_init 23 = .ok (.newarray .int, 2) := by decide +kernel
theorem d_H_init_25 : decode cc_H_init 25 = .ok (.putfield 18, 3) := by decide +kernel
theorem d_H_init_28 : decode cc_H_init 28 = .ok (.aload_n 0, 1) := by decide +kernel
theorem d_H_init_29 : decode cc_H_init 29 = .ok (.bipush 10, 2) := by decide +kernel
theorem d_H_init_31 : decode cc_H_init 31 = .ok (.newarray .int, 2) := by decide +kernel
theorem d_H_init_33 : decode cc_H_init 33 = .ok (.putfield 21, 3) := by decide +kernel
theorem d_H_init_36 : decode cc_H_init 36 = .ok (.aload_n 0, 1) := by decide +kernel
theorem d_H_init_37 : decode cc_H_init 37 = .ok (.bipush 10, 2) := by decide +kernel
theorem d_H_init_39 : decode cc_H_init 39 = .ok (.newarray .int, 2) := by decide +kernel
theorem d_H_init_41 : decode cc_H_init 41 = .ok (.putfield 24, 3) := by decide +kernel
theorem d_H_init_44 : decode cc_H_init 44 = .ok (.aload_n 0, 1) := by decide +kernel
theorem d_H_init_45 : decode cc_H_init 45 = .ok (.bipush 10, 2) := by decide +kernel
theorem d_H_init_47 : decode cc_H_init 47 = .ok (.newarray .int, 2) := by decide +kernel
theorem d_H_init_49 : decode cc_H_init 49 = .ok (.putfield 27, 3) := by decide +kernel
theorem d_H_init_52 : decode cc_H_init 52 = .ok (.aload_n 0, 1) := by decide +kernel
theorem d_H_init_53 : decode cc_H_init 53 = .ok (.iconst 4, 1) := by decide +kernel
theorem d_H_init_54 : decode cc_H_init 54 = .ok (.newarray .int, 2) := by decide +kernel
theorem d_H_init_56 : decode cc_H_init 56 = .ok (.putfield 30, 3) := by decide +kernel
theorem d_H_init_59 : decode cc_H_init 59 = .ok (.aload_n 0, 1) := by decide +kernel
theorem d_H_init_60 : decode cc_H_init 60 = .ok (.bipush 100, 2) := by decide +kernel
theorem d_H_init_62 : decode cc_H_init 62 = .ok (.newarray .int, 2) := by decide +kernel
theorem d_H_init_64 : decode cc_H_init 64 = .ok (.putfield 33, 3) := by decide +kernel
theorem d_H_init_67 : decode cc_H_init 67 = .ok (.return_, 1) := by decide +kernel
theorem d_H_empty_0 : decode cc_H_empty 0 = .ok (.aload_n 0, 1) := by decide +kernel
theorem d_H_empty_1 : decode cc_H_empty 1 = .ok (.getfield 9, 3) := by decide +kernel
theorem d_H_empty_4 : decode cc_H_empty 4 = .ok (.iconst (-1), 1) := by decide +kernel
theorem d_H_empty_5 : decode cc_H_empty 5 = .ok (.invokestatic 36, 3) := by decide +kernel
theorem d_H_empty_8 : decode cc_H_empty 8 = .ok (.aload_n 0, 1) := by decide +kernel
theorem d_H_empty_9 : decode cc_H_empty 9 = .ok (.getfield 18, 3) := by decide +kernel
theorem d_H_empty_12 : decode cc_H_empty 12 = .ok (.iconst (-1), 1) := by decide +kernel
theorem d_H_empty_13 : decode cc_H_empty 13 = .ok (.invokestatic 36, 3) := by decide +kernel
theorem d_H_empty_16 : decode cc_H_empty 16 = .ok (.aload_n 0, 1) := by decide +kernel
theorem d_H_empty_17 : decode cc_H_empty 17 = .ok (.getfield 21, 3) := by decide +kernel
theorem d_H_empty_20 : decode cc_H_empty 20 = .ok (.iconst 0, 1) := by decide +kernel
theorem d_H_empty_21 : decode cc_H_empty 21 = .ok (.invokestatic 36, 3) := by decide +kernel
theorem d_H_empty_24 : decode cc_H_empty 24 = .ok (.aload_n 0, 1) := by decide +kernel
theorem d_H_empty_25 : decode cc_H_empty 25 = .ok (.getfield 27, 3) := by decide +kernel
theorem d_H_empty_28 : decode cc_H_empty 28 = .ok (.iconst 0, 1) := by decide +kernel
theorem d_H_empty_29 : decode cc_H_empty 29 = .ok (.invokestatic 36, 3) := by decide +kernel
theorem d_H_empty_32 : decode cc_H_empty 32 = .ok (.aload_n 0, 1) := by decide +kernel
theorem d_H_empty_33 : decode cc_H_empty 33 = .ok (.getfield 30, 3) := by decide +kernel
theorem d_H_empty_36 : decode cc_H_empty 36 = .ok (.iconst 0, 1) := by decide +kernel
theorem d_H_empty_37 : decode cc_H_empty 37 = .ok (.invokestatic 36, 3) := by decide +kernel
theorem d_H_empty_40 : decode cc_H_empty 40 = .ok (.aload_n 0, 1) := by decide +kernel
theorem d_H_empty_41 : decode cc_H_empty 41 = .ok (.getfield 33, 3) := by decide +kernel
theorem d_H_empty_44 : decode cc_H_empty 44 = .ok (.iconst 0, 1) := by decide +kernel
theorem d_H_empty_45 : decode cc_H_empty 45 = .ok (.invokestatic 36, 3) := by decide +kernel
theorem d_H_empty_48 : decode cc_H_empty 48 = .ok (.return_, 1) := by decide +kernel
theorem d_H_take_0 : decode cc_H_take 0 = .ok (.aload_n 0, 1) := by decide +kernel
theorem d_H_take_1 : decode cc_H_take 1 = .ok (.iload_n 1, 1) := by decide +kernel
theorem d_H_take_2 : decode cc_H_take 2 = .ok (.iload_n 2, 1) := by decide +kernel
theorem d_H_take_3 : decode cc_H_take 3 = .ok (.iload_n 3, 1) := by decide +kernel
theorem d_H_take_4 : decode cc_H_take 4 = .ok (.invokevirtual 42, 3) := by decide +kernel
theorem d_H_take_7 : decode cc_H_take 7 = .ok (.ifCond .ne 5, 3) := by decide +kernel
theorem d_H_take_10 : decode cc_H_take 10 = .ok (.iconst 0, 1) := by decide +kernel
theorem d_H_take_11 : decode cc_H_take 11 = .ok (.ireturn, 1) := by decide +kernel
theorem d_H_take_12 : decode cc_H_take 12 = .ok (.aload_n 0, 1) := by decide +kernel
theorem d_H_take_13 : decode cc_H_take 13 = .ok (.iload_n 1, 1) := by decide +kernel
theorem d_H_take_14 : decode cc_H_take 14 = .ok (.iload_n 2, 1) := by decide +kernel
theorem d_H_take_15 : decode cc_H_take 15 = .ok (.iload_n 3, 1) := by decide +kernel
theorem d_H_take_16 : decode cc_H_take 16 = .ok (.iload 4, 2) := by decide +kernel
theorem d_H_take_18 : decode cc_H_take 18 = .ok (.invokevirtual 46, 3) := by decide +kernel
theorem d_H_take_21 : decode cc_H_take 21 = .ok (.iconst 1, 1) := by decide +kernel
theorem d_H_take_22 : decode cc_H_take 22 = .ok (.ireturn, 1) := by decide +kernel
theorem d_H_isPossible_0 : decode cc_H_isPossible 0 = .ok (.iload_n 1, 1) := by decide +kernel
theorem d_H_isPossible_1 : decode cc_H_isPossible 1 = .ok (.tableswitch 152 0 6 #[43, 57, 63, 90, 104, 152, 141], 43) := by decide +kernel
theorem d_H_isPossible_44 : decode cc_H_isPossible 44 = .ok (.aload_n 0, 1) := by decide +kernel
theorem d_H_isPossible_45 : decode cc_H_isPossible 45 = .ok (.iload_n 2, 1) := by decide +kernel
theorem d_H_isPossible_46 : decode cc_H_isPossible 46 = .ok (.invokevirtual 50, 3) := by decide +kernel
theorem d_H_isPossible_49 : decode cc_H_isPossible 49 = .ok (.ifCond .ne 7, 3) := by decide +kernel
theorem d_H_isPossible_52 : decode cc_H_isPossible 52 = .ok (.iconst 1, 1) := by decide +kernel
theorem d_H_isPossible_53 : decode cc_H_isPossible 53 = .ok (.goto 4, 3) := by decide +kernel
theorem d_H_isPossible_56 : decode cc_H_isPossible 56 = .ok (.iconst 0, 1) := by decide +kernel
theorem d_H_isPossible_57 : decode cc_H_isPossible 57 = .ok (.ireturn, 1) := by decide +kernel
theorem d_H_isPossible_58 : decode cc_H_isPossible 58 = .ok (.aload_n 0, 1) := by decide +kernel
theorem d_H_isPossible_59 : decode cc_H_isPossible 59 = .ok (.iload_n 2, 1) := by decide +kernel
theorem d_H_isPossible_60 : decode cc_H_isPossible 60 = .ok (.invokevirtual 50, 3) := by decide +kernel
theorem d_H_isPossible_63 : decode cc_H_isPossible 63 = .ok (.ireturn, 1) := by decide +kernel
theorem d_H_isPossible_64 : decode cc_H_isPossible 64 = .ok (.aload_n 0, 1) := by decide +kernel
theorem d_H_isPossible_65 : decode cc_H_isPossible 65 = .ok (.iload_n 2, 1) := by decide +kernel
theorem d_H_isPossible_66 : decode cc_H_isPossible 66 = .ok (.invokevirtual 50, 3) := by decide +kernel
theorem d_H_isPossible_69 : decode cc_H_isPossible 69 = .ok (.ifCond .eq 20, 3) := by decide +kernel
theorem d_H_isPossible_72 : decode cc_H_isPossible 72 = .ok (.aload_n 0, 1) := by decide +kernel
theorem d_H_isPossible_73 : decode cc_H_isPossible 73 = .ok (.aload_n 0, 1) := by decide +kernel
theorem d_H_isPossible_74 : decode cc_H_isPossible 74 = .ok (.getfield 18, 3) := by decide +kernel
theorem d_H_isPossible_77 : decode cc_H_isPossible 77 = .ok (.iload_n 2, 1) := by decide +kernel
theorem d_H_isPossible_78 : decode cc_H_isPossible 78 = .ok (.iaload, 1) := by decide +kernel
theorem d_H_isPossible_79 : decode cc_H_isPossible 79 = .ok (.invokevirtual 54, 3) := by decide +kernel
theorem d_H_isPossible_82 : decode cc_H_isPossible 82 = .ok (.ifCond .ne 7, 3) := by decide +kernel
theorem d_H_isPossible_85 : decode cc_H_isPossible 85 = .ok (.iconst 1, 1) := by decide +kernel
theorem d_H_isPossible_86 : decode cc_H_isPossible 86 = .ok (.goto 4, 3) := by decide +kernel
theorem d_H_isPossible_89 : decode cc_H_isPossible 89 = .ok (.iconst 0, 1) := by decide +kernel
theorem d_H_isPossible_90 : decode cc_H_isPossible 90 = .ok (.ireturn, 1) := by decide +kernel
theorem d_H_isPossible_91 : decode cc_H_isPossible 91 = .ok (.aload_n 0, 1) := by decide +kernel
theorem d_H_isPossible_92 : decode cc_H_isPossible 92 = .ok (.iload_n 2, 1) := by decide +kernel
theorem d_H_isPossible_93 : decode cc_H_isPossible 93 = .ok (.invokevirtual 57, 3) := by decide +kernel
theorem d_H_isPossible_96 : decode cc_H_isPossible 96 = .ok (.ifCond .ne 7, 3) := by decide +kernel
theorem d_H_isPossible_99 : decode cc_H_isPossible 99 = .ok (.iconst 1, 1) := by decide +kernel
theorem d_H_isPossible_100 : decode cc_H_isPossible 100 = .ok (.goto 4, 3) := by decide +kernel
theorem d_H_isPossible_103 : decode cc_H_isPossible 103 = .ok (.iconst 0, 1) := by decide +kernel
theorem d_H_isPossible_104 : decode cc_H_isPossible 104 = .ok (.ireturn, 1) := by decide +kernel
theorem d_H_isPossible_105 : decode cc_H_isPossible 105 = .ok (.aload_n 0, 1) := by decide +kernel
theorem d_H_isPossible_106 : decode cc_H_isPossible 106 = .ok (.iload_n 2, 1) := by decide +kernel
theorem d_H_isPossible_107 : decode cc_H_isPossible 107 = .ok (.invokevirtual 60, 3) := by decide +kernel
theorem d_H_isPossible_110 : decode cc_H_isPossible 110 = .ok (.ifCond .eq 30, 3) := by decide +kernel
theorem d_H_isPossible_113 : decode cc_H_isPossible 113 = .ok (.aload_n 0, 1) := by decide +kernel
theorem d_H_isPossible_114 : decode cc_H_isPossible 114 = .ok (.iload_n 3, 1) := by decide +kernel
theorem d_H_isPossible_115 : decode cc_H_isPossible 115 = .ok (.invokevirtual 54, 3) := by decide +kernel
theorem d_H_isPossible_118 : decode cc_H_isPossible 118 = .ok (.ifCond .eq 22, 3) := by decide +kernel
theorem d_H_isPossible_121 : decode cc_H_isPossible 121 = .ok (.aload_n 0, 1) := by decide +kernel
theorem d_H_isPossible_122 : decode cc_H_isPossible 122 = .ok (.getfield 15, 3) := by decide +kernel
theorem d_H_isPossible_125 : decode cc_H_isPossible 125 = .ok (.iload_n 2, 1) := by decide +kernel
theorem d_H_isPossible_126 : decode cc_H_isPossible 126 = .ok (.iaload, 1) := by decide +kernel
theorem d_H_isPossible_127 : decode cc_H_isPossible 127 = .ok (.aload_n 0, 1) := by decide +kernel
theorem d_H_isPossible_128 : decode cc_H_isPossible 128 = .ok (.getfield 24, 3) := by decide +kernel
theorem d_H_isPossible_131 : decode cc_H_isPossible 131 = .ok (.iload_n 3, 1) := by decide +kernel
theorem d_H_isPossible_132 : decode cc_H_isPossible 132 = .ok (.iaload, 1) := by decide +kernel
theorem d_H_isPossible_133 : decode cc_H_isPossible 133 = .ok (.if_icmp .ne 7, 3) := by decide +kernel
theorem d_H_isPossible_136 : decode cc_H_isPossible 136 = .ok (.iconst 1, 1) := by decide +kernel
theorem d_H_isPossible_137 : decode cc_H_isPossible 137 = .ok (.goto 4, 3) := by decide +kernel
theorem d_H_isPossible_140 : decode cc_H_isPossible 140 = .ok (.iconst 0, 1) := by decide +kernel
theorem d_H_isPossible_141 : decode cc_H_isPossible 141 = .ok (.ireturn, 1) := by decide +kernel
theorem d_H_isPossible_142 : decode cc_H_isPossible 142 = .ok (.iload_n 2, 1) := by decide +kernel
theorem d_H_isPossible_143 : decode cc_H_isPossible 143 = .ok (.iload_n 3, 1) := by decide +kernel
theorem d_H_isPossible_144 : decode cc_H_isPossible 144 = .ok (.if_icmp .eq 7, 3) := by decide +kernel
theorem d_H_isPossible_147 : decode cc_H_isPossible 147 = .ok (.iconst 1, 1) := by decide +kernel
theorem d_H_isPossible_148 : decode cc_H_isPossible 148 = .ok (.goto 4, 3) := by decide +kernel
theorem d_H_isPossible_151 : decode cc_H_isPossible 151 = .ok (.iconst 0, 1) := by decide +kernel
theorem d_H_isPossible_152 : decode cc_H_isPossible 152 = .ok (.ireturn, 1) := by decide +kernel
theorem d_H_isPossible_153 : decode cc_H_isPossible 153 = .ok (.iconst 1, 1) := by decide +kernel
theorem d_H_isPossible_154 : decode cc_H_isPossible 154 = .ok (.ireturn, 1) := by decide +kernel
theorem d_H_happen_0 : decode cc_H_happen 0 = .ok (.iload_n 1, 1) := by decide +kernel
theorem d_H_happen_1 : decode cc_H_happen 1 = .ok (.tableswitch 150 0 6 #[43, 54, 64, 72, 90, 110, 123], 43) := by decide +kernel
theorem d_H_happen_44 : decode cc_H_happen 44 = .ok (.aload_n 0, 1) := by decide +kernel
theorem d_H_happen_45 : decode cc_H_happen 45 = .ok (.iload_n 2, 1) := by decide +kernel
theorem d_H_happen_46 : decode cc_H_happen 46 = .ok (.iload_n 3, 1) := by decide +kernel
theorem d_H_happen_47 : decode cc_H_happen 47 = .ok (.iload 4, 2) := by decide +kernel
theorem d_H_happen_49 : decode cc_H_happen 49 = .ok (.invokevirtual 63, 3) := by decide +kernel
theorem d_H_happen_52 : decode cc_H_happen 52 = .ok (.goto 99, 3) := by decide +kernel
theorem d_H_happen_55 : decode cc_H_happen 55 = .ok (.aload_n 0, 1) := by decide +kernel
theorem d_H_happen_56 : decode cc_H_happen 56 = .ok (.getfield 9, 3) := by decide +kernel
theorem d_H_happen_59 : decode cc_H_happen 59 = .ok (.iload_n 2, 1) := by decide +kernel
theorem d_H_happen_60 : decode cc_H_happen 60 = .ok (.iload_n 3, 1) := by decide +kernel
theorem d_H_happen_61 : decode cc_H_happen 61 = .ok (.iastore, 1) := by decide +kernel
theorem d_H_happen_62 : decode cc_H_happen 62 = .ok (.goto 89, 3) := by decide +kernel
theorem d_H_happen_65 : decode cc_H_happen 65 = .ok (.aload_n 0, 1) := by decide +kernel
theorem d_H_happen_66 : decode cc_H_happen 66 = .ok (.iload_n 2, 1) := by decide +kernel
theorem d_H_happen_67 : decode cc_H_happen 67 = .ok (.invokevirtual 67, 3) := by decide +kernel
theorem d_H_happen_70 : decode cc_H_happen 70 = .ok (.goto 81, 3) := by decide +kernel
theorem d_H_happen_73 : decode cc_H_happen 73 = .ok (.aload_n 0, 1) := by decide +kernel
theorem d_H_happen_74 : decode cc_H_happen 74 = .ok (.getfield 21, 3) := by decide +kernel
theorem d_H_happen_77 : decode cc_H_happen 77 = .ok (.iload_n 2, 1) := by decide +kernel
theorem d_H_happen_78 : decode cc_H_happen 78 = .ok (.iload_n 3, 1) := by decide +kernel
theorem d_H_happen_79 : decode cc_H_happen 79 = .ok (.iastore, 1) := by decide +kernel
theorem d_H_happen_80 : decode cc_H_happen 80 = .ok (.aload_n 0, 1) := by decide +kernel
theorem d_H_happen_81 : decode cc_H_happen 81 = .ok (.getfield 24, 3) := by decide +kernel
theorem d_H_happen_84 : decode cc_H_happen 84 = .ok (.iload_n 2, 1) := by decide +kernel
theorem d_H_happen_85 : decode cc_H_happen 85 = .ok (.iload 4, 2) := by decide +kernel
theorem d_H_happen_87 : decode cc_H_happen 87 = .ok (.iastore, 1) := by decide +kernel
theorem d_H_happen_88 : decode cc_H_happen 88 = .ok (.goto 63, 3) := by decide +kernel
theorem d_H_happen_91 : decode cc_H_happen 91 = .ok (.aload_n 0, 1) := by decide +kernel
theorem d_H_happen_92 : decode cc_H_happen 92 = .ok (.getfield 18, 3) := by decide +kernel
theorem d_H_happen_95 : decode cc_H_happen 95 = .ok (.iload_n 2, 1) := by decide +kernel
theorem d_H_happen_96 : decode cc_H_happen 96 = .ok (.iload_n 3, 1) := by decide +kernel
theorem d_H_happen_97 : decode cc_H_happen 97 = .ok (.iastore, 1) := by decide +kernel
theorem d_H_happen_98 : decode cc_H_happen 98 = .ok (.aload_n 0, 1) := by decide +kernel
theorem d_H_happen_99 : decode cc_H_happen 99 = .ok (.getfield 27, 3) := by decide +kernel
theorem d_H_happen_102 : decode cc_H_happen 102 = .ok (.iload_n 3, 1) := by decide +kernel
theorem d_H_happen_103 : decode cc_H_happen 103 = .ok (.dup2, 1) := by decide +kernel
theorem d_H_happen_104 : decode cc_H_happen 104 = .ok (.iaload, 1) := by decide +kernel
theorem d_H_happen_105 : decode cc_H_happen 105 = .ok (.iconst 1, 1) := by decide +kernel
theorem d_H_happen_106 : decode cc_H_happen 106 = .ok (.iadd, 1) := by decide +kernel
theorem d_H_happen_107 : decode cc_H_happen 107 = .ok (.iastore, 1) := by decide +kernel
theorem d_H_happen_108 : decode cc_H_happen 108 = .ok (.goto 43, 3) := by decide +kernel
theorem d_H_happen_111 : decode cc_H_happen 111 = .ok (.aload_n 0, 1) := by decide +kernel
theorem d_H_happen_112 : decode cc_H_happen 112 = .ok (.getfield 30, 3) := by decide +kernel
theorem d_H_happen_115 : decode cc_H_happen 115 = .ok (.iload_n 2, 1) := by decide +kernel
theorem d_H_happen_116 : decode cc_H_happen 116 = .ok (.dup2, 1) := by decide +kernel
theorem d_H_happen_117 : decode cc_H_happen 117 = .ok (.iaload, 1) := by decide +kernel
theorem d_H_happen_118 : decode cc_H_happen 118 = .ok (.iload_n 3, 1) := by decide +kernel
theorem d_H_happen_119 : decode cc_H_happen 119 = .ok (.iadd, 1) := by decide +kernel
theorem d_H_happen_120 : decode cc_H_happen 120 = .ok (.iastore, 1) := by decide +kernel
theorem d_H_happen_121 : decode cc_H_happen 121 = .ok (.goto 30, 3) := by decide +kernel
theorem d_H_happen_124 : decode cc_H_happen 124 = .ok (.aload_n 0, 1) := by decide +kernel
theorem d_H_happen_125 : decode cc_H_happen 125 = .ok (.getfield 33, 3) := by decide +kernel
theorem d_H_happen_128 : decode cc_H_happen 128 = .ok (.iload_n 2, 1) := by decide +kernel
theorem d_H_happen_129 : decode cc_H_happen 129 = .ok (.iload_n 3, 1) := by decide +kernel
theorem d_H_happen_130 : decode cc_H_happen 130 = .ok (.invokestatic 71, 3) := by decide +kernel
theorem d_H_happen_133 : decode cc_H_happen 133 = .ok (.iload 4, 2) := by decide +kernel
theorem d_H_happen_135 : decode cc_H_happen 135 = .ok (.iastore, 1) := by decide +kernel
theorem d_H_happen_136 : decode cc_H_happen 136 = .ok (.aload_n 0, 1) := by decide +kernel
theorem d_H_happen_137 : decode cc_H_happen 137 = .ok (.getfield 33, 3) := by decide +kernel
theorem d_H_happen_140 : decode cc_H_happen 140 = .ok (.iload_n 3, 1) := by decide +kernel
theorem d_H_happen_141 : decode cc_H_happen 141 = .ok (.iload_n 2, 1) := by decide +kernel
theorem d_H_happen_142 : decode cc_H_happen 142 = .ok (.invokestatic 71, 3) := by decide +kernel
theorem d_H_happen_145 : decode cc_H_happen 145 = .ok (.iload 4, 2) := by decide +kernel
theorem d_H_happen_147 : decode cc_H_happen 147 = .ok (.iastore, 1) := by decide +kernel
theorem d_H_happen_148 : decode cc_H_happen 148 = .ok (.goto 3, 3) := by decide +kernel
theorem d_H_happen_151 : decode cc_H_happen 151 = .ok (.return_, 1) := by decide +kernel
theorem d_H_come_0 : decode cc_H_come 0 = .ok (.aload_n 0, 1) := by decide +kernel
theorem d_H_come_1 : decode cc_H_come 1 = .ok (.getfield 9, 3) := by decide +kernel
theorem d_H_come_4 : decode cc_H_come 4 = .ok (.iload_n 1, 1) := by decide +kernel
theorem d_H_come_5 : decode cc_H_come 5 = .ok (.iload_n 3, 1) := by decide +kernel
theorem d_H_come_6 : decode cc_H_come 6 = .ok (.iastore, 1) := by decide +kernel
theorem d_H_come_7 : decode cc_H_come 7 = .ok (.aload_n 0, 1) := by decide +kernel
theorem d_H_come_8 : decode cc_H_come 8 = .ok (.getfield 15, 3) := by decide +kernel
theorem d_H_come_11 : decode cc_H_come 11 = .ok (.iload_n 1, 1) := by decide +kernel
theorem d_H_come_12 : decode cc_H_come 12 = .ok (.iload_n 2, 1) := by decide +kernel
theorem d_H_come_13 : decode cc_H_come 13 = .ok (.iastore, 1) := by decide +kernel
theorem d_H_come_14 : decode cc_H_come 14 = .ok (.return_, 1) := by decide +kernel
theorem d_H_leave_0 : decode cc_H_leave 0 = .ok (.aload_n 0, 1) := by decide +kernel
theorem d_H_leave_1 : decode cc_H_leave 1 = .ok (.getfield 9, 3) := by decide +kernel
theorem d_H_leave_4 : decode cc_H_leave 4 = .ok (.iload_n 1, 1) := by decide +kernel
theorem d_H_leave_5 : decode cc_H_leave 5 = .ok (.iconst (-1), 1) := by decide +kernel
theorem d_H_leave_6 : decode cc_H_leave 6 = .ok (.iastore, 1) := by decide +kernel
theorem d_H_leave_7 : decode cc_H_leave 7 = .ok (.aload_n 0, 1) := by decide +kernel
theorem d_H_leave_8 : decode cc_H_leave 8 = .ok (.getfield 18, 3) := by decide +kernel
theorem d_H_leave_11 : decode cc_H_leave 11 = .ok (.iload_n 1, 1) := by decide +kernel
theorem d_H_leave_12 : decode cc_H_leave 12 = .ok (.iconst (-1), 1) := by decide +kernel
theorem d_H_leave_13 : decode cc_H_leave 13 = .ok (.iastore, 1) := by decide +kernel
theorem d_H_leave_14 : decode cc_H_leave 14 = .ok (.return_, 1) := by decide +kernel
theorem d_H_isInside_0 : decode cc_H_isInside 0 = .ok (.aload_n 0, 1) := by decide +kernel
theorem d_H_isInside_1 : decode cc_H_isInside 1 = .ok (.getfield 9, 3) := by decide +kernel
theorem d_H_isInside_4 : decode cc_H_isInside 4 = .ok (.iload_n 1, 1) := by decide +kernel
theorem d_H_isInside_5 : decode cc_H_isInside 5 = .ok (.iaload, 1) := by decide +kernel
theorem d_H_isInside_6 : decode cc_H_isInside 6 = .ok (.iconst (-1), 1) := by decide +kernel
theorem d_H_isInside_7 : decode cc_H_isInside 7 = .ok (.if_icmp .eq 7, 3) := by decide +kernel
theorem d_H_isInside_10 : decode cc_H_isInside 10 = .ok (.iconst 1, 1) := by decide +kernel
theorem d_H_isInside_11 : decode cc_H_isInside 11 = .ok (.goto 4, 3) := by decide +kernel
theorem d_H_isInside_14 : decode cc_H_isInside 14 = .ok (.iconst 0, 1) := by decide +kernel
theorem d_H_isInside_15 : decode cc_H_isInside 15 = .ok (.ireturn, 1) := by decide +kernel
theorem d_H_isFree_0 : decode cc_H_isFree 0 = .ok (.aload_n 0, 1) := by decide +kernel
theorem d_H_isFree_1 : decode cc_H_isFree 1 = .ok (.iload_n 1, 1) := by decide +kernel
theorem d_H_isFree_2 : decode cc_H_isFree 2 = .ok (.invokevirtual 50, 3) := by decide +kernel
theorem d_H_isFree_5 : decode cc_H_isFree 5 = .ok (.ifCond .eq 17, 3) := by decide +kernel
theorem d_H_isFree_8 : decode cc_H_isFree 8 = .ok (.aload_n 0, 1) := by decide +kernel
theorem d_H_isFree_9 : decode cc_H_isFree 9 = .ok (.getfield 18, 3) := by decide +kernel
theorem d_H_isFree_12 : decode cc_H_isFree 12 = .ok (.iload_n 1, 1) := by decide +kernel
theorem d_H_isFree_13 : decode cc_H_isFree 13 = .ok (.iaload, 1) := by decide +kernel
theorem d_H_isFree_14 : decode cc_H_isFree 14 = .ok (.iconst (-1), 1) := by decide +kernel
theorem d_H_isFree_15 : decode cc_H_isFree 15 = .ok (.if_icmp .ne 7, 3) := by decide +kernel
theorem d_H_isFree_18 : decode cc_H_isFree 18 = .ok (.iconst 1, 1) := by decide +kernel
theorem d_H_isFree_19 : decode cc_H_isFree 19 = .ok (.goto 4, 3) := by decide +kernel
theorem d_H_isFree_22 : decode cc_H_isFree 22 = .ok (.iconst 0, 1) := by decide +kernel
theorem d_H_isFree_23 : decode cc_H_isFree 23 = .ok (.ireturn, 1) := by decide +kernel
theorem d_H_isTold_0 : decode cc_H_isTold 0 = .ok (.iload_n 1, 1) := by decide +kernel
theorem d_H_isTold_1 : decode cc_H_isTold 1 = .ok (.ifCond .lt 22, 3) := by decide +kernel
theorem d_H_isTold_4 : decode cc_H_isTold 4 = .ok (.iload_n 1, 1) := by decide +kernel
theorem d_H_isTold_5 : decode cc_H_isTold 5 = .ok (.bipush 10, 2) := by decide +kernel
theorem d_H_isTold_7 : decode cc_H_isTold 7 = .ok (.if_icmp .ge 16, 3) := by decide +kernel
theorem d_H_isTold_10 : decode cc_H_isTold 10 = .ok (.aload_n 0, 1) := by decide +kernel
theorem d_H_isTold_11 : decode cc_H_isTold 11 = .ok (.getfield 21, 3) := by decide +kernel
theorem d_H_isTold_14 : decode cc_H_isTold 14 = .ok (.iload_n 1, 1) := by decide +kernel
theorem d_H_isTold_15 : decode cc_H_isTold 15 = .ok (.iaload, 1) := by decide +kernel
theorem d_H_isTold_16 : decode cc_H_isTold 16 = .ok (.ifCond .le 7, 3) := by decide +kernel
theorem d_H_isTold_19 : decode cc_H_isTold 19 = .ok (.iconst 1, 1) := by decide +kernel
theorem d_H_isTold_20 : decode cc_H_isTold 20 = .ok (.goto 4, 3) := by decide +kernel
theorem d_H_isTold_23 : decode cc_H_isTold 23 = .ok (.iconst 0, 1) := by decide +kernel
theorem d_H_isTold_24 : decode cc_H_isTold 24 = .ok (.ireturn, 1) := by decide +kernel
theorem d_H_isOpen_0 : decode cc_H_isOpen 0 = .ok (.aload_n 0, 1) := by decide +kernel
theorem d_H_isOpen_1 : decode cc_H_isOpen 1 = .ok (.iload_n 1, 1) := by decide +kernel
theorem d_H_isOpen_2 : decode cc_H_isOpen 2 = .ok (.invokevirtual 57, 3) := by decide +kernel
theorem d_H_isOpen_5 : decode cc_H_isOpen 5 = .ok (.ifCond .eq 22, 3) := by decide +kernel
theorem d_H_isOpen_8 : decode cc_H_isOpen 8 = .ok (.aload_n 0, 1) := by decide +kernel
theorem d_H_isOpen_9 : decode cc_H_isOpen 9 = .ok (.getfield 27, 3) := by decide +kernel
theorem d_H_isOpen_12 : decode cc_H_isOpen 12 = .ok (.iload_n 1, 1) := by decide +kernel
theorem d_H_isOpen_13 : decode cc_H_isOpen 13 = .ok (.iaload, 1) := by decide +kernel
theorem d_H_isOpen_14 : decode cc_H_isOpen 14 = .ok (.aload_n 0, 1) := by decide +kernel
theorem d_H_isOpen_15 : decode cc_H_isOpen 15 = .ok (.getfield 21, 3) := by decide +kernel
theorem d_H_isOpen_18 : decode cc_H_isOpen 18 = .ok (.iload_n 1, 1) := by decide +kernel
theorem d_H_isOpen_19 : decode cc_H_isOpen 19 = .ok (.iaload, 1) := by decide +kernel
theorem d_H_isOpen_20 : decode cc_H_isOpen 20 = .ok (.if_icmp .ge 7, 3) := by decide +kernel
theorem d_H_isOpen_23 : decode cc_H_isOpen 23 = .ok (.iconst 1, 1) := by decide +kernel
theorem d_H_isOpen_24 : decode cc_H_isOpen 24 = .ok (.goto 4, 3) := by decide +kernel
theorem d_H_isOpen_27 : decode cc_H_isOpen 27 = .ok (.iconst 0, 1) := by decide +kernel
theorem d_H_isOpen_28 : decode cc_H_isOpen 28 = .ok (.ireturn, 1) := by decide +kernel
theorem d_H_isFull_0 : decode cc_H_isFull 0 = .ok (.aload_n 0, 1) := by decide +kernel
theorem d_H_isFull_1 : decode cc_H_isFull 1 = .ok (.iload_n 1, 1) := by decide +kernel
theorem d_H_isFull_2 : decode cc_H_isFull 2 = .ok (.invokevirtual 57, 3) := by decide +kernel
theorem d_H_isFull_5 : decode cc_H_isFull 5 = .ok (.ifCond .eq 22, 3) := by decide +kernel
theorem d_H_isFull_8 : decode cc_H_isFull 8 = .ok (.aload_n 0, 1) := by decide +kernel
theorem d_H_isFull_9 : decode cc_H_isFull 9 = .ok (.getfield 27, 3) := by decide +kernel
theorem d_H_isFull_12 : decode cc_H_isFull 12 = .ok (.iload_n 1, 1) := by decide +kernel
theorem d_H_isFull_13 : decode cc_H_isFull 13 = .ok (.iaload, 1) := by decide +kernel
theorem d_H_isFull_14 : decode cc_H_isFull 14 = .ok (.aload_n 0, 1) := by decide +kernel
theorem d_H_isFull_15 : decode cc_H_isFull 15 = .ok (.getfield 21, 3) := by decide +kernel
theorem d_H_isFull_18 : decode cc_H_isFull 18 = .ok (.iload_n 1, 1) := by decide +kernel
theorem d_H_isFull_19 : decode cc_H_isFull 19 = .ok (.iaload, 1) := by decide +kernel
theorem d_H_isFull_20 : decode cc_H_isFull 20 = .ok (.if_icmp .lt 7, 3) := by decide +kernel
theorem d_H_isFull_23 : decode cc_H_isFull 23 = .ok (.iconst 1, 1) := by decide +kernel
theorem d_H_isFull_24 : decode cc_H_isFull 24 = .ok (.goto 4, 3) := by decide +kernel
theorem d_H_isFull_27 : decode cc_H_isFull 27 = .ok (.iconst 0, 1) := by decide +kernel
theorem d_H_isFull_28 : decode cc_H_isFull 28 = .ok (.ireturn, 1) := by decide +kernel
theorem d_H_unitsAt_0 : decode cc_H_unitsAt 0 = .ok (.iconst 0, 1) := by decide +kernel
theorem d_H_unitsAt_1 : decode cc_H_unitsAt 1 = .ok (.istore_n 3, 1) := by decide +kernel
theorem d_H_unitsAt_2 : decode cc_H_unitsAt 2 = .ok (.iconst 0, 1) := by decide +kernel
theorem d_H_unitsAt_3 : decode cc_H_unitsAt 3 = .ok (.istore 4, 2) := by decide +kernel
theorem d_H_unitsAt_5 : decode cc_H_unitsAt 5 = .ok (.iload 4, 2) := by decide +kernel
theorem d_H_unitsAt_7 : decode cc_H_unitsAt 7 = .ok (.bipush 20, 2) := by decide +kernel
theorem d_H_unitsAt_9 : decode cc_H_unitsAt 9 = .ok (.if_icmp .ge 49, 3) := by decide +kernel
theorem d_H_unitsAt_12 : decode cc_H_unitsAt 12 = .ok (.aload_n 0, 1) := by decide +kernel
theorem d_H_unitsAt_13 : decode cc_H_unitsAt 13 = .ok (.iload 4, 2) := by decide +kernel
theorem d_H_unitsAt_15 : decode cc_H_unitsAt 15 = .ok (.invokevirtual 50, 3) := by decide +kernel
theorem d_H_unitsAt_18 : decode cc_H_unitsAt 18 = .ok (.ifCond .eq 34, 3) := by decide +kernel
theorem d_H_unitsAt_21 : decode cc_H_unitsAt 21 = .ok (.aload_n 0, 1) := by decide +kernel
theorem d_H_unitsAt_22 : decode cc_H_unitsAt 22 = .ok (.getfield 9, 3) := by decide +kernel
theorem d_H_unitsAt_25 : decode cc_H_unitsAt 25 = .ok (.iload 4, 2) := by decide +kernel
theorem d_H_unitsAt_27 : decode cc_H_unitsAt 27 = .ok (.iaload, 1) := by decide +kernel
theorem d_H_unitsAt_28 : decode cc_H_unitsAt 28 = .ok (.iload_n 1, 1) := by decide +kernel
theorem d_H_unitsAt_29 : decode cc_H_unitsAt 29 = .ok (.invokestatic 75, 3) := by decide +kernel
theorem d_H_unitsAt_32 : decode cc_H_unitsAt 32 = .ok (.ifCond .eq 20, 3) := by decide +kernel
theorem d_H_unitsAt_35 : decode cc_H_unitsAt 35 = .ok (.aload_n 0, 1) := by decide +kernel
theorem d_H_unitsAt_36 : decode cc_H_unitsAt 36 = .ok (.getfield 15, 3) := by decide +kernel
theorem d_H_unitsAt_39 : decode cc_H_unitsAt 39 = .ok (.iload 4, 2) := by decide +kernel
theorem d_H_unitsAt_41 : decode cc_H_unitsAt 41 = .ok (.iaload, 1) := by decide +kernel
theorem d_H_unitsAt_42 : decode cc_H_unitsAt 42 = .ok (.iload_n 2, 1) := by decide +kernel
theorem d_H_unitsAt_43 : decode cc_H_unitsAt 43 = .ok (.invokestatic 75, 3) := by decide +kernel
theorem d_H_unitsAt_46 : decode cc_H_unitsAt 46 = .ok (.ifCond .eq 6, 3) := by decide +kernel
theorem d_H_unitsAt_49 : decode cc_H_unitsAt 49 = .ok (.iinc 3 1, 3) := by decide +kernel
theorem d_H_unitsAt_52 : decode cc_H_unitsAt 52 = .ok (.iinc 4 1, 3) := by decide +kernel
theorem d_H_unitsAt_55 : decode cc_H_unitsAt 55 = .ok (.goto (-50), 3) := by decide +kernel
theorem d_H_unitsAt_58 : decode cc_H_unitsAt 58 = .ok (.iload_n 3, 1) := by decide +kernel
theorem d_H_unitsAt_59 : decode cc_H_unitsAt 59 = .ok (.ireturn, 1) := by decide +kernel
theorem d_H_isAsked_0 : decode cc_H_isAsked 0 = .ok (.iload_n 1, 1) := by decide +kernel
theorem d_H_isAsked_1 : decode cc_H_isAsked 1 = .ok (.iconst (-1), 1) := by decide +kernel
theorem d_H_isAsked_2 : decode cc_H_isAsked 2 = .ok (.if_icmp .eq 8, 3) := by decide +kernel
theorem d_H_isAsked_5 : decode cc_H_isAsked 5 = .ok (.iload_n 1, 1) := by decide +kernel
theorem d_H_isAsked_6 : decode cc_H_isAsked 6 = .ok (.iload_n 0, 1) := by decide +kernel
theorem d_H_isAsked_7 : decode cc_H_isAsked 7 = .ok (.if_icmp .ne 7, 3) := by decide +kernel
theorem d_H_isAsked_10 : decode cc_H_isAsked 10 = .ok (.iconst 1, 1) := by decide +kernel
theorem d_H_isAsked_11 : decode cc_H_isAsked 11 = .ok (.goto 4, 3) := by decide +kernel
theorem d_H_isAsked_14 : decode cc_H_isAsked 14 = .ok (.iconst 0, 1) := by decide +kernel
theorem d_H_isAsked_15 : decode cc_H_isAsked 15 = .ok (.ireturn, 1) := by decide +kernel
theorem d_H_freeUnits_0 : decode cc_H_freeUnits 0 = .ok (.iconst 0, 1) := by decide +kernel
theorem d_H_freeUnits_1 : decode cc_H_freeUnits 1 = .ok (.istore_n 2, 1) := by decide +kernel
theorem d_H_freeUnits_2 : decode cc_H_freeUnits 2 = .ok (.iconst 0, 1) := by decide +kernel
theorem d_H_freeUnits_3 : decode cc_H_freeUnits 3 = .ok (.istore_n 3, 1) := by decide +kernel
theorem d_H_freeUnits_4 : decode cc_H_freeUnits 4 = .ok (.iload_n 3, 1) := by decide +kernel
theorem d_H_freeUnits_5 : decode cc_H_freeUnits 5 = .ok (.bipush 20, 2) := by decide +kernel
theorem d_H_freeUnits_7 : decode cc_H_freeUnits 7 = .ok (.if_icmp .ge 30, 3) := by decide +kernel
theorem d_H_freeUnits_10 : decode cc_H_freeUnits 10 = .ok (.aload_n 0, 1) := by decide +kernel
theorem d_H_freeUnits_11 : decode cc_H_freeUnits 11 = .ok (.iload_n 3, 1) := by decide +kernel
theorem d_H_freeUnits_12 : decode cc_H_freeUnits 12 = .ok (.invokevirtual 60, 3) := by decide +kernel
theorem d_H_freeUnits_15 : decode cc_H_freeUnits 15 = .ok (.ifCond .eq 16, 3) := by decide +kernel
theorem d_H_freeUnits_18 : decode cc_H_freeUnits 18 = .ok (.aload_n 0, 1) := by decide +kernel
theorem d_H_freeUnits_19 : decode cc_H_freeUnits 19 = .ok (.getfield 15, 3) := by decide +kernel
theorem d_H_freeUnits_22 : decode cc_H_freeUnits 22 = .ok (.iload_n 3, 1) := by decide +kernel
theorem d_H_freeUnits_23 : decode cc_H_freeUnits 23 = .ok (.iaload, 1) := by decide +kernel
theorem d_H_freeUnits_24 : decode cc_H_freeUnits 24 = .ok (.iload_n 1, 1) := by decide +kernel
theorem d_H_freeUnits_25 : decode cc_H_freeUnits 25 = .ok (.if_icmp .ne 6, 3) := by decide +kernel
theorem d_H_freeUnits_28 : decode cc_H_freeUnits 28 = .ok (.iinc 2 1, 3) := by decide +kernel
theorem d_H_freeUnits_31 : decode cc_H_freeUnits 31 = .ok (.iinc 3 1, 3) := by decide +kernel
theorem d_H_freeUnits_34 : decode cc_H_freeUnits 34 = .ok (.goto (-30), 3) := by decide +kernel
theorem d_H_freeUnits_37 : decode cc_H_freeUnits 37 = .ok (.iload_n 2, 1) := by decide +kernel
theorem d_H_freeUnits_38 : decode cc_H_freeUnits 38 = .ok (.ireturn, 1) := by decide +kernel
theorem d_H_placesOfUnitsGivenTo_0 : decode cc_H_placesOfUnitsGivenTo 0 = .ok (.iconst 0, 1) := by decide +kernel
theorem d_H_placesOfUnitsGivenTo_1 : decode cc_H_placesOfUnitsGivenTo 1 = .ok (.istore_n 2, 1) := by decide +kernel
theorem d_H_placesOfUnitsGivenTo_2 : decode cc_H_placesOfUnitsGivenTo 2 = .ok (.iconst 0, 1) := by decide +kernel
theorem d_H_placesOfUnitsGivenTo_3 : decode cc_H_placesOfUnitsGivenTo 3 = .ok (.istore_n 3, 1) := by decide +kernel
theorem d_H_placesOfUnitsGivenTo_4 : decode cc_H_placesOfUnitsGivenTo 4 = .ok (.iload_n 3, 1) := by decide +kernel
theorem d_H_placesOfUnitsGivenTo_5 : decode cc_H_placesOfUnitsGivenTo 5 = .ok (.bipush 20, 2) := by decide +kernel
theorem d_H_placesOfUnitsGivenTo_7 : decode cc_H_placesOfUnitsGivenTo 7 = .ok (.if_icmp .ge 38, 3) := by decide +kernel
theorem d_H_placesOfUnitsGivenTo_10 : decode cc_H_placesOfUnitsGivenTo 10 = .ok (.aload_n 0, 1) := by decide +kernel
theorem d_H_placesOfUnitsGivenTo_11 : decode cc_H_placesOfUnitsGivenTo 11 = .ok (.iload_n 3, 1) := by decide +kernel
theorem d_H_placesOfUnitsGivenTo_12 : decode cc_H_placesOfUnitsGivenTo 12 = .ok (.invokevirtual 50, 3) := by decide +kernel
theorem d_H_placesOfUnitsGivenTo_15 : decode cc_H_placesOfUnitsGivenTo 15 = .ok (.ifCond .eq 24, 3) := by decide +kernel
theorem d_H_placesOfUnitsGivenTo_18 : decode cc_H_placesOfUnitsGivenTo 18 = .ok (.aload_n 0, 1) := by decide +kernel
theorem d_H_placesOfUnitsGivenTo_19 : decode cc_H_placesOfUnitsGivenTo 19 = .ok (.getfield 18, 3) := by decide +kernel
theorem d_H_placesOfUnitsGivenTo_22 : decode cc_H_placesOfUnitsGivenTo 22 = .ok (.iload_n 3, 1) := by decide +kernel
theorem d_H_placesOfUnitsGivenTo_23 : decode cc_H_placesOfUnitsGivenTo 23 = .ok (.iaload, 1) := by decide +kernel
theorem d_H_placesOfUnitsGivenTo_24 : decode cc_H_placesOfUnitsGivenTo 24 = .ok (.iload_n 1, 1) := by decide +kernel
theorem d_H_placesOfUnitsGivenTo_25 : decode cc_H_placesOfUnitsGivenTo 25 = .ok (.if_icmp .ne 14, 3) := by decide +kernel
theorem d_H_placesOfUnitsGivenTo_28 : decode cc_H_placesOfUnitsGivenTo 28 = .ok (.iload_n 2, 1) := by decide +kernel
theorem d_H_placesOfUnitsGivenTo_29 : decode cc_H_placesOfUnitsGivenTo 29 = .ok (.iconst 1, 1) := by decide +kernel
theorem d_H_placesOfUnitsGivenTo_30 : decode cc_H_placesOfUnitsGivenTo 30 = .ok (.aload_n 0, 1) := by decide +kernel
theorem d_H_placesOfUnitsGivenTo_31 : decode cc_H_placesOfUnitsGivenTo 31 = .ok (.getfield 9, 3) := by decide +kernel
theorem d_H_placesOfUnitsGivenTo_34 : decode cc_H_placesOfUnitsGivenTo 34 = .ok (.iload_n 3, 1) := by decide +kernel
theorem d_H_placesOfUnitsGivenTo_35 : decode cc_H_placesOfUnitsGivenTo 35 = .ok (.iaload, 1) := by decide +kernel
theorem d_H_placesOfUnitsGivenTo_36 : decode cc_H_placesOfUnitsGivenTo 36 = .ok (.ishl, 1) := by decide +kernel
theorem d_H_placesOfUnitsGivenTo_37 : decode cc_H_placesOfUnitsGivenTo 37 = .ok (.ior, 1) := by decide +kernel
theorem d_H_placesOfUnitsGivenTo_38 : decode cc_H_placesOfUnitsGivenTo 38 = .ok (.istore_n 2, 1) := by decide +kernel
theorem d_H_placesOfUnitsGivenTo_39 : decode cc_H_placesOfUnitsGivenTo 39 = .ok (.iinc 3 1, 3) := by decide +kernel
theorem d_H_placesOfUnitsGivenTo_42 : decode cc_H_placesOfUnitsGivenTo 42 = .ok (.goto (-38), 3) := by decide +kernel
theorem d_H_placesOfUnitsGivenTo_45 : decode cc_H_placesOfUnitsGivenTo 45 = .ok (.iload_n 2, 1) := by decide +kernel
theorem d_H_placesOfUnitsGivenTo_46 : decode cc_H_placesOfUnitsGivenTo 46 = .ok (.ireturn, 1) := by decide +kernel
theorem d_H_toldOrders_0 : decode cc_H_toldOrders 0 = .ok (.iconst 0, 1) := by decide +kernel
theorem d_H_toldOrders_1 : decode cc_H_toldOrders 1 = .ok (.istore_n 1, 1) := by decide +kernel
theorem d_H_toldOrders_2 : decode cc_H_toldOrders 2 = .ok (.iconst 0, 1) := by decide +kernel
theorem d_H_toldOrders_3 : decode cc_H_toldOrders 3 = .ok (.istore_n 2, 1) := by decide +kernel
theorem d_H_toldOrders_4 : decode cc_H_toldOrders 4 = .ok (.iload_n 2, 1) := by decide +kernel
theorem d_H_toldOrders_5 : decode cc_H_toldOrders 5 = .ok (.bipush 10, 2) := by decide +kernel
theorem d_H_toldOrders_7 : decode cc_H_toldOrders 7 = .ok (.if_icmp .ge 20, 3) := by decide +kernel
theorem d_H_toldOrders_10 : decode cc_H_toldOrders 10 = .ok (.aload_n 0, 1) := by decide +kernel
theorem d_H_toldOrders_11 : decode cc_H_toldOrders 11 = .ok (.iload_n 2, 1) := by decide +kernel
theorem d_H_toldOrders_12 : decode cc_H_toldOrders 12 = .ok (.invokevirtual 57, 3) := by decide +kernel
theorem d_H_toldOrders_15 : decode cc_H_toldOrders 15 = .ok (.ifCond .eq 6, 3) := by decide +kernel
theorem d_H_toldOrders_18 : decode cc_H_toldOrders 18 = .ok (.iinc 1 1, 3) := by decide +kernel
theorem d_H_toldOrders_21 : decode cc_H_toldOrders 21 = .ok (.iinc 2 1, 3) := by decide +kernel
theorem d_H_toldOrders_24 : decode cc_H_toldOrders 24 = .ok (.goto (-20), 3) := by decide +kernel
theorem d_H_toldOrders_27 : decode cc_H_toldOrders 27 = .ok (.iload_n 1, 1) := by decide +kernel
theorem d_H_toldOrders_28 : decode cc_H_toldOrders 28 = .ok (.ireturn, 1) := by decide +kernel
theorem d_H_fullOrders_0 : decode cc_H_fullOrders 0 = .ok (.iconst 0, 1) := by decide +kernel
theorem d_H_fullOrders_1 : decode cc_H_fullOrders 1 = .ok (.istore_n 1, 1) := by decide +kernel
theorem d_H_fullOrders_2 : decode cc_H_fullOrders 2 = .ok (.iconst 0, 1) := by decide +kernel
theorem d_H_fullOrders_3 : decode cc_H_fullOrders 3 = .ok (.istore_n 2, 1) := by decide +kernel
theorem d_H_fullOrders_4 : decode cc_H_fullOrders 4 = .ok (.iload_n 2, 1) := by decide +kernel
theorem d_H_fullOrders_5 : decode cc_H_fullOrders 5 = .ok (.bipush 10, 2) := by decide +kernel
theorem d_H_fullOrders_7 : decode cc_H_fullOrders 7 = .ok (.if_icmp .ge 20, 3) := by decide +kernel
theorem d_H_fullOrders_10 : decode cc_H_fullOrders 10 = .ok (.aload_n 0, 1) := by decide +kernel
theorem d_H_fullOrders_11 : decode cc_H_fullOrders 11 = .ok (.iload_n 2, 1) := by decide +kernel
theorem d_H_fullOrders_12 : decode cc_H_fullOrders 12 = .ok (.invokevirtual 79, 3) := by decide +kernel
theorem d_H_fullOrders_15 : decode cc_H_fullOrders 15 = .ok (.ifCond .eq 6, 3) := by decide +kernel
theorem d_H_fullOrders_18 : decode cc_H_fullOrders 18 = .ok (.iinc 1 1, 3) := by decide +kernel
theorem d_H_fullOrders_21 : decode cc_H_fullOrders 21 = .ok (.iinc 2 1, 3) := by decide +kernel
theorem d_H_fullOrders_24 : decode cc_H_fullOrders 24 = .ok (.goto (-20), 3) := by decide +kernel
theorem d_H_fullOrders_27 : decode cc_H_fullOrders 27 = .ok (.iload_n 1, 1) := by decide +kernel
theorem d_H_fullOrders_28 : decode cc_H_fullOrders 28 = .ok (.ireturn, 1) := by decide +kernel
theorem d_H_linkedPairs_0 : decode cc_H_linkedPairs 0 = .ok (.iconst 0, 1) := by decide +kernel
theorem d_H_linkedPairs_1 : decode cc_H_linkedPairs 1 = .ok (.istore_n 1, 1) := by decide +kernel
theorem d_H_linkedPairs_2 : decode cc_H_linkedPairs 2 = .ok (.iconst 0, 1) := by decide +kernel
theorem d_H_linkedPairs_3 : decode cc_H_linkedPairs 3 = .ok (.istore_n 2, 1) := by decide +kernel
theorem d_H_linkedPairs_4 : decode cc_H_linkedPairs 4 = .ok (.iload_n 2, 1) := by decide +kernel
theorem d_H_linkedPairs_5 : decode cc_H_linkedPairs 5 = .ok (.bipush 10, 2) := by decide +kernel
theorem d_H_linkedPairs_7 : decode cc_H_linkedPairs 7 = .ok (.if_icmp .ge 41, 3) := by decide +kernel
theorem d_H_linkedPairs_10 : decode cc_H_linkedPairs 10 = .ok (.iload_n 2, 1) := by decide +kernel
theorem d_H_linkedPairs_11 : decode cc_H_linkedPairs 11 = .ok (.iconst 1, 1) := by decide +kernel
theorem d_H_linkedPairs_12 : decode cc_H_linkedPairs 12 = .ok (.iadd, 1) := by decide +kernel
theorem d_H_linkedPairs_13 : decode cc_H_linkedPairs 13 = .ok (.istore_n 3, 1) := by decide +kernel
theorem d_H_linkedPairs_14 : decode cc_H_linkedPairs 14 = .ok (.iload_n 3, 1) := by decide +kernel
theorem d_H_linkedPairs_15 : decode cc_H_linkedPairs 15 = .ok (.bipush 10, 2) := by decide +kernel
theorem d_H_linkedPairs_17 : decode cc_H_linkedPairs 17 = .ok (.if_icmp .ge 25, 3) := by decide +kernel
theorem d_H_linkedPairs_20 : decode cc_H_linkedPairs 20 = .ok (.aload_n 0, 1) := by decide +kernel
theorem d_H_linkedPairs_21 : decode cc_H_linkedPairs 21 = .ok (.getfield 33, 3) := by decide +kernel
theorem d_H_linkedPairs_24 : decode cc_H_linkedPairs 24 = .ok (.iload_n 2, 1) := by decide +kernel
theorem d_H_linkedPairs_25 : decode cc_H_linkedPairs 25 = .ok (.iload_n 3, 1) := by decide +kernel
theorem d_H_linkedPairs_26 : decode cc_H_linkedPairs 26 = .ok (.invokestatic 71, 3) := by decide +kernel
theorem d_H_linkedPairs_29 : decode cc_H_linkedPairs 29 = .ok (.iaload, 1) := by decide +kernel
theorem d_H_linkedPairs_30 : decode cc_H_linkedPairs 30 = .ok (.ifCond .le 6, 3) := by decide +kernel
theorem d_H_linkedPairs_33 : decode cc_H_linkedPairs 33 = .ok (.iinc 1 1, 3) := by decide +kernel
theorem d_H_linkedPairs_36 : decode cc_H_linkedPairs 36 = .ok (.iinc 3 1, 3) := by decide +kernel
theorem d_H_linkedPairs_39 : decode cc_H_linkedPairs 39 = .ok (.goto (-25), 3) := by decide +kernel
theorem d_H_linkedPairs_42 : decode cc_H_linkedPairs 42 = .ok (.iinc 2 1, 3) := by decide +kernel
theorem d_H_linkedPairs_45 : decode cc_H_linkedPairs 45 = .ok (.goto (-41), 3) := by decide +kernel
theorem d_H_linkedPairs_48 : decode cc_H_linkedPairs 48 = .ok (.iload_n 1, 1) := by decide +kernel
theorem d_H_linkedPairs_49 : decode cc_H_linkedPairs 49 = .ok (.ireturn, 1) := by decide +kernel
theorem d_Y_init_0 : decode cc_Y_init 0 = .ok (.aload_n 0, 1) := by decide +kernel
theorem d_Y_init_1 : decode cc_Y_init 1 = .ok (.invokespecial 3, 3) := by decide +kernel
theorem d_Y_init_4 : decode cc_Y_init 4 = .ok (.aload_n 0, 1) := by decide +kernel
theorem d_Y_init_5 : decode cc_Y_init 5 = .ok (.bipush 100, 2) := by decide +kernel
theorem d_Y_init_7 : decode cc_Y_init 7 = .ok (.newarray .int, 2) := by decide +kernel
theorem d_Y_init_9 : decode cc_Y_init 9 = .ok (.putfield 9, 3) := by decide +kernel
theorem d_Y_init_12 : decode cc_Y_init 12 = .ok (.return_, 1) := by decide +kernel
theorem d_Y_measure_0 : decode cc_Y_measure 0 = .ok (.aload_n 0, 1) := by decide +kernel
theorem d_Y_measure_1 : decode cc_Y_measure 1 = .ok (.aload_n 1, 1) := by decide +kernel
theorem d_Y_measure_2 : decode cc_Y_measure 2 = .ok (.invokevirtual 15, 3) := by decide +kernel
theorem d_Y_measure_5 : decode cc_Y_measure 5 = .ok (.iconst 0, 1) := by decide +kernel
theorem d_Y_measure_6 : decode cc_Y_measure 6 = .ok (.istore_n 2, 1) := by decide +kernel
theorem d_Y_measure_7 : decode cc_Y_measure 7 = .ok (.iload_n 2, 1) := by decide +kernel
theorem d_Y_measure_8 : decode cc_Y_measure 8 = .ok (.bipush 10, 2) := by decide +kernel
theorem d_Y_measure_10 : decode cc_Y_measure 10 = .ok (.if_icmp .ge 29, 3) := by decide +kernel
theorem d_Y_measure_13 : decode cc_Y_measure 13 = .ok (.iconst 0, 1) := by decide +kernel
theorem d_Y_measure_14 : decode cc_Y_measure 14 = .ok (.istore_n 3, 1) := by decide +kernel
theorem d_Y_measure_15 : decode cc_Y_measure 15 = .ok (.iload_n 3, 1) := by decide +kernel
theorem d_Y_measure_16 : decode cc_Y_measure 16 = .ok (.bipush 10, 2) := by decide +kernel
theorem d_Y_measure_18 : decode cc_Y_measure 18 = .ok (.if_icmp .ge 15, 3) := by decide +kernel
theorem d_Y_measure_21 : decode cc_Y_measure 21 = .ok (.aload_n 0, 1) := by decide +kernel
theorem d_Y_measure_22 : decode cc_Y_measure 22 = .ok (.iload_n 2, 1) := by decide +kernel
theorem d_Y_measure_23 : decode cc_Y_measure 23 = .ok (.iload_n 3, 1) := by decide +kernel
theorem d_Y_measure_24 : decode cc_Y_measure 24 = .ok (.invokevirtual 19, 3) := by decide +kernel
theorem d_Y_measure_27 : decode cc_Y_measure 27 = .ok (.iinc 3 1, 3) := by decide +kernel
theorem d_Y_measure_30 : decode cc_Y_measure 30 = .ok (.goto (-15), 3) := by decide +kernel
theorem d_Y_measure_33 : decode cc_Y_measure 33 = .ok (.iinc 2 1, 3) := by decide +kernel
theorem d_Y_measure_36 : decode cc_Y_measure 36 = .ok (.goto (-29), 3) := by decide +kernel
theorem d_Y_measure_39 : decode cc_Y_measure 39 = .ok (.return_, 1) := by decide +kernel
theorem d_Y_layLinks_0 : decode cc_Y_layLinks 0 = .ok (.iconst 0, 1) := by decide +kernel
theorem d_Y_layLinks_1 : decode cc_Y_layLinks 1 = .ok (.istore_n 2, 1) := by decide +kernel
theorem d_Y_layLinks_2 : decode cc_Y_layLinks 2 = .ok (.iload_n 2, 1) := by decide +kernel
theorem d_Y_layLinks_3 : decode cc_Y_layLinks 3 = .ok (.bipush 10, 2) := by decide +kernel
theorem d_Y_layLinks_5 : decode cc_Y_layLinks 5 = .ok (.if_icmp .ge 68, 3) := by decide +kernel
theorem d_Y_layLinks_8 : decode cc_Y_layLinks 8 = .ok (.iconst 0, 1) := by decide +kernel
theorem d_Y_layLinks_9 : decode cc_Y_layLinks 9 = .ok (.istore_n 3, 1) := by decide +kernel
theorem d_Y_layLinks_10 : decode cc_Y_layLinks 10 = .ok (.iload_n 3, 1) := by decide +kernel
theorem d_Y_layLinks_11 : decode cc_Y_layLinks 11 = .ok (.bipush 10, 2) := by decide +kernel
theorem d_Y_layLinks_13 : decode cc_Y_layLinks 13 = .ok (.if_icmp .ge 43, 3) := by decide +kernel
theorem d_Y_layLinks_16 : decode cc_Y_layLinks 16 = .ok (.aload_n 1, 1) := by decide +kernel
theorem d_Y_layLinks_17 : decode cc_Y_layLinks 17 = .ok (.getfield 23, 3) := by decide +kernel
theorem d_Y_layLinks_20 : decode cc_Y_layLinks 20 = .ok (.iload_n 2, 1) := by decide +kernel
theorem d_Y_layLinks_21 : decode cc_Y_layLinks 21 = .ok (.iload_n 3, 1) := by decide +kernel
theorem d_Y_layLinks_22 : decode cc_Y_layLinks 22 = .ok (.invokestatic 28, 3) := by decide +kernel
theorem d_Y_layLinks_25 : decode cc_Y_layLinks 25 = .ok (.iaload, 1) := by decide +kernel
theorem d_Y_layLinks_26 : decode cc_Y_layLinks 26 = .ok (.istore 4, 2) := by decide +kernel
theorem d_Y_layLinks_28 : decode cc_Y_layLinks 28 = .ok (.aload_n 0, 1) := by decide +kernel
theorem d_Y_layLinks_29 : decode cc_Y_layLinks 29 = .ok (.getfield 9, 3) := by decide +kernel
theorem d_Y_layLinks_32 : decode cc_Y_layLinks 32 = .ok (.iload_n 2, 1) := by decide +kernel
theorem d_Y_layLinks_33 : decode cc_Y_layLinks 33 = .ok (.iload_n 3, 1) := by decide +kernel
theorem d_Y_layLinks_34 : decode cc_Y_layLinks 34 = .ok (.invokestatic 28, 3) := by decide +kernel
theorem d_Y_layLinks_37 : decode cc_Y_layLinks 37 = .ok (.iload 4, 2) := by decide +kernel
theorem d_Y_layLinks_39 : decode cc_Y_layLinks 39 = .ok (.ifCond .le 8, 3) := by decide +kernel
theorem d_Y_layLinks_42 : decode cc_Y_layLinks 42 = .ok (.iload 4, 2) := by decide +kernel
theorem d_Y_layLinks_44 : decode cc_Y_layLinks 44 = .ok (.goto 5, 3) := by decide +kernel
theorem d_Y_layLinks_47 : decode cc_Y_layLinks 47 = .ok (.ldc 32, 2) := by decide +kernel
theorem d_Y_layLinks_49 : decode cc_Y_layLinks 49 = .ok (.iastore, 1) := by decide +kernel
theorem d_Y_layLinks_50 : decode cc_Y_layLinks 50 = .ok (.iinc 3 1, 3) := by decide +kernel
theorem d_Y_layLinks_53 : decode cc_Y_layLinks 53 = .ok (.goto (-43), 3) := by decide +kernel
theorem d_Y_layLinks_56 : decode cc_Y_layLinks 56 = .ok (.aload_n 0, 1) := by decide +kernel
theorem d_Y_layLinks_57 : decode cc_Y_layLinks 57 = .ok (.getfield 9, 3) := by decide +kernel
theorem d_Y_layLinks_60 : decode cc_Y_layLinks 60 = .ok (.iload_n 2, 1) := by decide +kernel
theorem d_Y_layLinks_61 : decode cc_Y_layLinks 61 = .ok (.iload_n 2, 1) := by decide +kernel
theorem d_Y_layLinks_62 : decode cc_Y_layLinks 62 = .ok (.invokestatic 28, 3) := by decide +kernel
theorem d_Y_layLinks_65 : decode cc_Y_layLinks 65 = .ok (.iconst 0, 1) := by decide +kernel
theorem d_Y_layLinks_66 : decode cc_Y_layLinks 66 = .ok (.iastore, 1) := by decide +kernel
theorem d_Y_layLinks_67 : decode cc_Y_layLinks 67 = .ok (.iinc 2 1, 3) := by decide +kernel
theorem d_Y_layLinks_70 : decode cc_Y_layLinks 70 = .ok (.goto (-68), 3) := by decide +kernel
theorem d_Y_layLinks_73 : decode cc_Y_layLinks 73 = .ok (.return_, 1) := by decide +kernel
theorem d_Y_shortenVia_0 : decode cc_Y_shortenVia 0 = .ok (.aload_n 0, 1) := by decide +kernel
theorem d_Y_shortenVia_1 : decode cc_Y_shortenVia 1 = .ok (.getfield 9, 3) := by decide +kernel
theorem d_Y_shortenVia_4 : decode cc_Y_shortenVia 4 = .ok (.iload_n 2, 1) := by decide +kernel
theorem d_Y_shortenVia_5 : decode cc_Y_shortenVia 5 = .ok (.iload_n 1, 1) := by decide +kernel
theorem d_Y_shortenVia_6 : decode cc_Y_shortenVia 6 = .ok (.invokestatic 28, 3) := by decide +kernel
theorem d_Y_shortenVia_9 : decode cc_Y_shortenVia 9 = .ok (.iaload, 1) := by decide +kernel
theorem d_Y_shortenVia_10 : decode cc_Y_shortenVia 10 = .ok (.istore_n 3, 1) := by decide +kernel
theorem d_Y_shortenVia_11 : decode cc_Y_shortenVia 11 = .ok (.iload_n 3, 1) := by decide +kernel
theorem d_Y_shortenVia_12 : decode cc_Y_shortenVia 12 = .ok (.ldc 32, 2) := by decide +kernel
theorem d_Y_shortenVia_14 : decode cc_Y_shortenVia 14 = .ok (.if_icmp .lt 4, 3) := by decide +kernel
theorem d_Y_shortenVia_17 : decode cc_Y_shortenVia 17 = .ok (.return_, 1) := by decide +kernel
theorem d_Y_shortenVia_18 : decode cc_Y_shortenVia 18 = .ok (.iconst 0, 1) := by decide +kernel
theorem d_Y_shortenVia_19 : decode cc_Y_shortenVia 19 = .ok (.istore 4, 2) := by decide +kernel
theorem d_Y_shortenVia_21 : decode cc_Y_shortenVia 21 = .ok (.iload 4, 2) := by decide +kernel
theorem d_Y_shortenVia_23 : decode cc_Y_shortenVia 23 = .ok (.bipush 10, 2) := by decide +kernel
theorem d_Y_shortenVia_25 : decode cc_Y_shortenVia 25 = .ok (.if_icmp .ge 51, 3) := by decide +kernel
theorem d_Y_shortenVia_28 : decode cc_Y_shortenVia 28 = .ok (.iload_n 3, 1) := by decide +kernel
theorem d_Y_shortenVia_29 : decode cc_Y_shortenVia 29 = .ok (.aload_n 0, 1) := by decide +kernel
theorem d_Y_shortenVia_30 : decode cc_Y_shortenVia 30 = .ok (.getfield 9, 3) := by decide +kernel
theorem d_Y_shortenVia_33 : decode cc_Y_shortenVia 33 = .ok (.iload_n 1, 1) := by decide +kernel
theorem d_Y_shortenVia_34 : decode cc_Y_shortenVia 34 = .ok (.iload 4, 2) := by decide +kernel
theorem d_Y_shortenVia_36 : decode cc_Y_shortenVia 36 = .ok (.invokestatic 28, 3) := by decide +kernel
theorem d_Y_shortenVia_39 : decode cc_Y_shortenVia 39 = .ok (.iaload, 1) := by decide +kernel
theorem d_Y_shortenVia_40 : decode cc_Y_shortenVia 40 = .ok (.iadd, 1) := by decide +kernel
theorem d_Y_shortenVia_41 : decode cc_Y_shortenVia 41 = .ok (.istore 5, 2) := by decide +kernel
theorem d_Y_shortenVia_43 : decode cc_Y_shortenVia 43 = .ok (.aload_n 0, 1) := by decide +kernel
theorem d_Y_shortenVia_44 : decode cc_Y_shortenVia 44 = .ok (.getfield 9, 3) := by decide +kernel
theorem d_Y_shortenVia_47 : decode cc_Y_shortenVia 47 = .ok (.iload_n 2, 1) := by decide +kernel
theorem d_Y_shortenVia_48 : decode cc_Y_shortenVia 48 = .ok (.iload 4, 2) := by decide +kernel
theorem d_Y_shortenVia_50 : decode cc_Y_shortenVia 50 = .ok (.invokestatic 28, 3) := by decide +kernel
theorem d_Y_shortenVia_53 : decode cc_Y_shortenVia 53 = .ok (.aload_n 0, 1) := by decide +kernel
theorem d_Y_shortenVia_54 : decode cc_Y_shortenVia 54 = .ok (.getfield 9, 3) := by decide +kernel
theorem d_Y_shortenVia_57 : decode cc_Y_shortenVia 57 = .ok (.iload_n 2, 1) := by decide +kernel
theorem d_Y_shortenVia_58 : decode cc_Y_shortenVia 58 = .ok (.iload 4, 2) := by decide +kernel
theorem d_Y_shortenVia_60 : decode cc_Y_shortenVia 60 = .ok (.invokestatic 28, 3) := by decide +kernel
theorem d_Y_shortenVia_63 : decode cc_Y_shortenVia 63 = .ok (.iaload, 1) := by decide +kernel
theorem d_Y_shortenVia_64 : decode cc_Y_shortenVia 64 = .ok (.iload 5, 2) := by decide +kernel
theorem d_Y_shortenVia_66 : decode cc_Y_shortenVia 66 = .ok (.invokestatic 33, 3) := by decide +kernel
theorem d_Y_shortenVia_69 : decode cc_Y_shortenVia 69 = .ok (.iastore, 1) := by decide +kernel
theorem d_Y_shortenVia_70 : decode cc_Y_shortenVia 70 = .ok (.iinc 4 1, 3) := by decide +kernel
theorem d_Y_shortenVia_73 : decode cc_Y_shortenVia 73 = .ok (.goto (-52), 3) := by decide +kernel
theorem d_Y_shortenVia_76 : decode cc_Y_shortenVia 76 = .ok (.return_, 1) := by decide +kernel
theorem d_Y_between_0 : decode cc_Y_between 0 = .ok (.aload_n 0, 1) := by decide +kernel
theorem d_Y_between_1 : decode cc_Y_between 1 = .ok (.getfield 9, 3) := by decide +kernel
theorem d_Y_between_4 : decode cc_Y_between 4 = .ok (.iload_n 1, 1) := by decide +kernel
theorem d_Y_between_5 : decode cc_Y_between 5 = .ok (.iload_n 2, 1) := by decide +kernel
theorem d_Y_between_6 : decode cc_Y_between 6 = .ok (.invokestatic 28, 3) := by decide +kernel
theorem d_Y_between_9 : decode cc_Y_between 9 = .ok (.iaload, 1) := by decide +kernel
theorem d_Y_between_10 : decode cc_Y_between 10 = .ok (.ireturn, 1) := by decide +kernel
theorem d_Y_fewestThrough_0 : decode cc_Y_fewestThrough 0 = .ok (.aload_n 0, 1) := by decide +kernel
theorem d_Y_fewestThrough_1 : decode cc_Y_fewestThrough 1 = .ok (.getfield 9, 3) := by decide +kernel
theorem d_Y_fewestThrough_4 : decode cc_Y_fewestThrough 4 = .ok (.iload_n 1, 1) := by decide +kernel
theorem d_Y_fewestThrough_5 : decode cc_Y_fewestThrough 5 = .ok (.iload_n 2, 1) := by decide +kernel
theorem d_Y_fewestThrough_6 : decode cc_Y_fewestThrough 6 = .ok (.iconst 4, 1) := by decide +kernel
theorem d_Y_fewestThrough_7 : decode cc_Y_fewestThrough 7 = .ok (.invokestatic 38, 3) := by decide +kernel
theorem d_Y_fewestThrough_10 : decode cc_Y_fewestThrough 10 = .ok (.ireturn, 1) := by decide +kernel
theorem d_Y_fewest_0 : decode cc_Y_fewest 0 = .ok (.iload_n 2, 1) := by decide +kernel
theorem d_Y_fewest_1 : decode cc_Y_fewest 1 = .ok (.ifCond .ne 5, 3) := by decide +kernel
theorem d_Y_fewest_4 : decode cc_Y_fewest 4 = .ok (.iconst 0, 1) := by decide +kernel
theorem d_Y_fewest_5 : decode cc_Y_fewest 5 = .ok (.ireturn, 1) := by decide +kernel
theorem d_Y_fewest_6 : decode cc_Y_fewest 6 = .ok (.iload_n 3, 1) := by decide +kernel
theorem d_Y_fewest_7 : decode cc_Y_fewest 7 = .ok (.ifCond .gt 6, 3) := by decide +kernel
theorem d_Y_fewest_10 : decode cc_Y_fewest 10 = .ok (.ldc 32, 2) := by decide +kernel
theorem d_Y_fewest_12 : decode cc_Y_fewest 12 = .ok (.ireturn, 1) := by decide +kernel
theorem d_Y_fewest_13 : decode cc_Y_fewest 13 = .ok (.ldc 32, 2) := by decide +kernel
theorem d_Y_fewest_15 : decode cc_Y_fewest 15 = .ok (.istore 4, 2) := by decide +kernel
theorem d_Y_fewest_17 : decode cc_Y_fewest 17 = .ok (.iconst 0, 1) := by decide +kernel
theorem d_Y_fewest_18 : decode cc_Y_fewest 18 = .ok (.istore 5, 2) := by decide +kernel
theorem d_Y_fewest_20 : decode cc_Y_fewest 20 = .ok (.iload 5, 2) := by decide +kernel
theorem d_Y_fewest_22 : decode cc_Y_fewest 22 = .ok (.bipush 10, 2) := by decide +kernel
theorem d_Y_fewest_24 : decode cc_Y_fewest 24 = .ok (.if_icmp .ge 55, 3) := by decide +kernel
theorem d_Y_fewest_27 : decode cc_Y_fewest 27 = .ok (.iload 5, 2) := by decide +kernel
theorem d_Y_fewest_29 : decode cc_Y_fewest 29 = .ok (.iload_n 2, 1) := by decide +kernel
theorem d_Y_fewest_30 : decode cc_Y_fewest 30 = .ok (.invokestatic 42, 3) := by decide +kernel
theorem d_Y_fewest_33 : decode cc_Y_fewest 33 = .ok (.ifCond .eq 40, 3) := by decide +kernel
theorem d_Y_fewest_36 : decode cc_Y_fewest 36 = .ok (.aload_n 0, 1) := by decide +kernel
theorem d_Y_fewest_37 : decode cc_Y_fewest 37 = .ok (.iload 5, 2) := by decide +kernel
theorem d_Y_fewest_39 : decode cc_Y_fewest 39 = .ok (.iload_n 2, 1) := by decide +kernel
theorem d_Y_fewest_40 : decode cc_Y_fewest 40 = .ok (.iconst 1, 1) := by decide +kernel
theorem d_Y_fewest_41 : decode cc_Y_fewest 41 = .ok (.iload 5, 2) := by decide +kernel
theorem d_Y_fewest_43 : decode cc_Y_fewest 43 = .ok (.ishl, 1) := by decide +kernel
theorem d_Y_fewest_44 : decode cc_Y_fewest 44 = .ok (.iconst (-1), 1) := by decide +kernel
theorem d_Y_fewest_45 : decode cc_Y_fewest 45 = .ok (.ixor, 1) := by decide +kernel
theorem d_Y_fewest_46 : decode cc_Y_fewest 46 = .ok (.iand, 1) := by decide +kernel
theorem d_Y_fewest_47 : decode cc_Y_fewest 47 = .ok (.iload_n 3, 1) := by decide +kernel
theorem d_Y_fewest_48 : decode cc_Y_fewest 48 = .ok (.iconst 1, 1) := by decide +kernel
theorem d_Y_fewest_49 : decode cc_Y_fewest 49 = .ok (.isub, 1) := by decide +kernel
theorem d_Y_fewest_50 : decode cc_Y_fewest 50 = .ok (.invokestatic 38, 3) := by decide +kernel
theorem d_Y_fewest_53 : decode cc_Y_fewest 53 = .ok (.istore 6, 2) := by decide +kernel
theorem d_Y_fewest_55 : decode cc_Y_fewest 55 = .ok (.iload 4, 2) := by decide +kernel
theorem d_Y_fewest_57 : decode cc_Y_fewest 57 = .ok (.aload_n 0, 1) := by decide +kernel
theorem d_Y_fewest_58 : decode cc_Y_fewest 58 = .ok (.iload_n 1, 1) := by decide +kernel
theorem d_Y_fewest_59 : decode cc_Y_fewest 59 = .ok (.iload 5, 2) := by decide +kernel
theorem d_Y_fewest_61 : decode cc_Y_fewest 61 = .ok (.invokestatic 28, 3) := by decide +kernel
theorem d_Y_fewest_64 : decode cc_Y_fewest 64 = .ok (.iaload, 1) := by decide +kernel
theorem d_Y_fewest_65 : decode cc_Y_fewest 65 = .ok (.iload 6, 2) := by decide +kernel
theorem d_Y_fewest_67 : decode cc_Y_fewest 67 = .ok (.iadd, 1) := by decide +kernel
theorem d_Y_fewest_68 : decode cc_Y_fewest 68 = .ok (.invokestatic 33, 3) := by decide +kernel
theorem d_Y_fewest_71 : decode cc_Y_fewest 71 = .ok (.istore 4, 2) := by decide +kernel
theorem d_Y_fewest_73 : decode cc_Y_fewest 73 = .ok (.iinc 5 1, 3) := by decide +kernel
theorem d_Y_fewest_76 : decode cc_Y_fewest 76 = .ok (.goto (-56), 3) := by decide +kernel
theorem d_Y_fewest_79 : decode cc_Y_fewest 79 = .ok (.iload 4, 2) := by decide +kernel
theorem d_Y_fewest_81 : decode cc_Y_fewest 81 = .ok (.ireturn, 1) := by decide +kernel
theorem d_JI_bitCount_0 : decode cc_JI_bitCount 0 = .ok (.iload_n 0, 1) := by decide +kernel
theorem d_JI_bitCount_1 : decode cc_JI_bitCount 1 = .ok (.iload_n 0, 1) := by decide +kernel
theorem d_JI_bitCount_2 : decode cc_JI_bitCount 2 = .ok (.iconst 1, 1) := by decide +kernel
theorem d_JI_bitCount_3 : decode cc_JI_bitCount 3 = .ok (.iushr, 1) := by decide +kernel
theorem d_JI_bitCount_4 : decode cc_JI_bitCount 4 = .ok (.ldc_w 265, 3) := by decide +kernel
theorem d_JI_bitCount_7 : decode cc_JI_bitCount 7 = .ok (.iand, 1) := by decide +kernel
theorem d_JI_bitCount_8 : decode cc_JI_bitCount 8 = .ok (.isub, 1) := by decide +kernel
theorem d_JI_bitCount_9 : decode cc_JI_bitCount 9 = .ok (.istore_n 0, 1) := by decide +kernel
theorem d_JI_bitCount_10 : decode cc_JI_bitCount 10 = .ok (.iload_n 0, 1) := by decide +kernel
theorem d_JI_bitCount_11 : decode cc_JI_bitCount 11 = .ok (.ldc_w 266, 3) := by decide +kernel
theorem d_JI_bitCount_14 : decode cc_JI_bitCount 14 = .ok (.iand, 1) := by decide +kernel
theorem d_JI_bitCount_15 : decode cc_JI_bitCount 15 = .ok (.iload_n 0, 1) := by decide +kernel
theorem d_JI_bitCount_16 : decode cc_JI_bitCount 16 = .ok (.iconst 2, 1) := by decide +kernel
theorem d_JI_bitCount_17 : decode cc_JI_bitCount 17 = .ok (.iushr, 1) := by decide +kernel
theorem d_JI_bitCount_18 : decode cc_JI_bitCount 18 = .ok (.ldc_w 266, 3) := by decide +kernel
theorem d_JI_bitCount_21 : decode cc_JI_bitCount 21 = .ok (.iand, 1) := by decide +kernel
theorem d_JI_bitCount_22 : decode cc_JI_bitCount 22 = .ok (.iadd, 1) := by decide +kernel
theorem d_JI_bitCount_23 : decode cc_JI_bitCount 23 = .ok (.istore_n 0, 1) := by decide +kernel
theorem d_JI_bitCount_24 : decode cc_JI_bitCount 24 = .ok (.iload_n 0, 1) := by decide +kernel
theorem d_JI_bitCount_25 : decode cc_JI_bitCount 25 = .ok (.iload_n 0, 1) := by decide +kernel
theorem d_JI_bitCount_26 : decode cc_JI_bitCount 26 = .ok (.iconst 4, 1) := by decide +kernel
theorem d_JI_bitCount_27 : decode cc_JI_bitCount 27 = .ok (.iushr, 1) := by decide +kernel
theorem d_JI_bitCount_28 : decode cc_JI_bitCount 28 = .ok (.iadd, 1) := by decide +kernel
theorem d_JI_bitCount_29 : decode cc_JI_bitCount 29 = .ok (.ldc_w 267, 3) := by decide +kernel
theorem d_JI_bitCount_32 : decode cc_JI_bitCount 32 = .ok (.iand, 1) := by decide +kernel
theorem d_JI_bitCount_33 : decode cc_JI_bitCount 33 = .ok (.istore_n 0, 1) := by decide +kernel
theorem d_JI_bitCount_34 : decode cc_JI_bitCount 34 = .ok (.iload_n 0, 1) := by decide +kernel
theorem d_JI_bitCount_35 : decode cc_JI_bitCount 35 = .ok (.iload_n 0, 1) := by decide +kernel
theorem d_JI_bitCount_36 : decode cc_JI_bitCount 36 = .ok (.bipush 8, 2) := by decide +kernel
theorem d_JI_bitCount_38 : decode cc_JI_bitCount 38 = .ok (.iushr, 1) := by decide +kernel
theorem d_JI_bitCount_39 : decode cc_JI_bitCount 39 = .ok (.iadd, 1) := by decide +kernel
theorem d_JI_bitCount_40 : decode cc_JI_bitCount 40 = .ok (.istore_n 0, 1) := by decide +kernel
theorem d_JI_bitCount_41 : decode cc_JI_bitCount 41 = .ok (.iload_n 0, 1) := by decide +kernel
theorem d_JI_bitCount_42 : decode cc_JI_bitCount 42 = .ok (.iload_n 0, 1) := by decide +kernel
theorem d_JI_bitCount_43 : decode cc_JI_bitCount 43 = .ok (.bipush 16, 2) := by decide +kernel
theorem d_JI_bitCount_45 : decode cc_JI_bitCount 45 = .ok (.iushr, 1) := by decide +kernel
theorem d_JI_bitCount_46 : decode cc_JI_bitCount 46 = .ok (.iadd, 1) := by decide +kernel
theorem d_JI_bitCount_47 : decode cc_JI_bitCount 47 = .ok (.istore_n 0, 1) := by decide +kernel
theorem d_JI_bitCount_48 : decode cc_JI_bitCount 48 = .ok (.iload_n 0, 1) := by decide +kernel
theorem d_JI_bitCount_49 : decode cc_JI_bitCount 49 = .ok (.bipush 63, 2) := by decide +kernel
theorem d_JI_bitCount_51 : decode cc_JI_bitCount 51 = .ok (.iand, 1) := by decide +kernel
theorem d_JI_bitCount_52 : decode cc_JI_bitCount 52 = .ok (.ireturn, 1) := by decide +kernel
theorem d_JA_fill_0 : decode cc_JA_fill 0 = .ok (.iconst 0, 1) := by decide +kernel
theorem d_JA_fill_1 : decode cc_JA_fill 1 = .ok (.istore_n 2, 1) := by decide +kernel
theorem d_JA_fill_2 : decode cc_JA_fill 2 = .ok (.aload_n 0, 1) := by decide +kernel
theorem d_JA_fill_3 : decode cc_JA_fill 3 = .ok (.arraylength, 1) := by decide +kernel
theorem d_JA_fill_4 : decode cc_JA_fill 4 = .ok (.istore_n 3, 1) := by decide +kernel
theorem d_JA_fill_5 : decode cc_JA_fill 5 = .ok (.iload_n 2, 1) := by decide +kernel
theorem d_JA_fill_6 : decode cc_JA_fill 6 = .ok (.iload_n 3, 1) := by decide +kernel
theorem d_JA_fill_7 : decode cc_JA_fill 7 = .ok (.if_icmp .ge 13, 3) := by decide +kernel
theorem d_JA_fill_10 : decode cc_JA_fill 10 = .ok (.aload_n 0, 1) := by decide +kernel
theorem d_JA_fill_11 : decode cc_JA_fill 11 = .ok (.iload_n 2, 1) := by decide +kernel
theorem d_JA_fill_12 : decode cc_JA_fill 12 = .ok (.iload_n 1, 1) := by decide +kernel
theorem d_JA_fill_13 : decode cc_JA_fill 13 = .ok (.iastore, 1) := by decide +kernel
theorem d_JA_fill_14 : decode cc_JA_fill 14 = .ok (.iinc 2 1, 3) := by decide +kernel
theorem d_JA_fill_17 : decode cc_JA_fill 17 = .ok (.goto (-12), 3) := by decide +kernel
theorem d_JA_fill_20 : decode cc_JA_fill 20 = .ok (.return_, 1) := by decide +kernel
end
section
abbrev SP : Type := (Nat → Int32) × Int32 × Int32 × (Nat → Int32) × (Nat → Int32) × (Nat → Int32) × (Nat → Int32) × (Nat → Int32) × (Nat → Int32) × (Nat → Int32) × (Nat → Int32) × (Nat → Int32) × (Nat → Int32) × (Nat → Int32) × (Nat → Int32) × Int32 × (Nat → Int32)
abbrev g_row (σ : SP) : Nat → Int32 := σ.1
abbrev u_row (σ : SP) (v : Nat → Int32) : SP := (v, σ.2)
abbrev g_ec (σ : SP) : Int32 := σ.2.1
abbrev u_ec (σ : SP) (v : Int32) : SP := (σ.1, v, σ.2.2)
abbrev g_rc (σ : SP) : Int32 := σ.2.2.1
abbrev u_rc (σ : SP) (v : Int32) : SP := (σ.1, σ.2.1, v, σ.2.2.2)
abbrev g_pl (σ : SP) : Nat → Int32 := σ.2.2.2.1
abbrev u_pl (σ : SP) (v : Nat → Int32) : SP := (σ.1, σ.2.1, σ.2.2.1, v, σ.2.2.2.2)
abbrev g_gd (σ : SP) : Nat → Int32 := σ.2.2.2.2.1
abbrev u_gd (σ : SP) (v : Nat → Int32) : SP := (σ.1, σ.2.1, σ.2.2.1, σ.2.2.2.1, v, σ.2.2.2.2.2)
abbrev g_gv (σ : SP) : Nat → Int32 := σ.2.2.2.2.2.1
abbrev u_gv (σ : SP) (v : Nat → Int32) : SP := (σ.1, σ.2.1, σ.2.2.1, σ.2.2.2.1, σ.2.2.2.2.1, v, σ.2.2.2.2.2.2)
abbrev g_wa (σ : SP) : Nat → Int32 := σ.2.2.2.2.2.2.1
abbrev u_wa (σ : SP) (v : Nat → Int32) : SP := (σ.1, σ.2.1, σ.2.2.1, σ.2.2.2.1, σ.2.2.2.2.1, σ.2.2.2.2.2.1, v, σ.2.2.2.2.2.2.2)
abbrev g_gw (σ : SP) : Nat → Int32 := σ.2.2.2.2.2.2.2.1
abbrev u_gw (σ : SP) (v : Nat → Int32) : SP := (σ.1, σ.2.1, σ.2.2.1, σ.2.2.2.1, σ.2.2.2.2.1, σ.2.2.2.2.2.1, σ.2.2.2.2.2.2.1, v, σ.2.2.2.2.2.2.2.2)
abbrev g_gt (σ : SP) : Nat → Int32 := σ.2.2.2.2.2.2.2.2.1
abbrev u_gt (σ : SP) (v : Nat → Int32) : SP := (σ.1, σ.2.1, σ.2.2.1, σ.2.2.2.1, σ.2.2.2.2.1, σ.2.2.2.2.2.1, σ.2.2.2.2.2.2.1, σ.2.2.2.2.2.2.2.1, v, σ.2.2.2.2.2.2.2.2.2)
abbrev g_ce (σ : SP) : Nat → Int32 := σ.2.2.2.2.2.2.2.2.2.1
abbrev u_ce (σ : SP) (v : Nat → Int32) : SP := (σ.1, σ.2.1, σ.2.2.1, σ.2.2.2.1, σ.2.2.2.2.1, σ.2.2.2.2.2.1, σ.2.2.2.2.2.2.1, σ.2.2.2.2.2.2.2.1, σ.2.2.2.2.2.2.2.2.1, v, σ.2.2.2.2.2.2.2.2.2.2)
abbrev g_lk (σ : SP) : Nat → Int32 := σ.2.2.2.2.2.2.2.2.2.2.1
abbrev u_lk (σ : SP) (v : Nat → Int32) : SP := (σ.1, σ.2.1, σ.2.2.1, σ.2.2.2.1, σ.2.2.2.2.1, σ.2.2.2.2.2.1, σ.2.2.2.2.2.2.1, σ.2.2.2.2.2.2.2.1, σ.2.2.2.2.2.2.2.2.1, σ.2.2.2.2.2.2.2.2.2.1, v, σ.2.2.2.2.2.2.2.2.2.2.2)
abbrev g_la (σ : SP) : Nat → Int32 := σ.2.2.2.2.2.2.2.2.2.2.2.1
abbrev u_la (σ : SP) (v : Nat → Int32) : SP := (σ.1, σ.2.1, σ.2.2.1, σ.2.2.2.1, σ.2.2.2.2.1, σ.2.2.2.2.2.1, σ.2.2.2.2.2.2.1, σ.2.2.2.2.2.2.2.1, σ.2.2.2.2.2.2.2.2.1, σ.2.2.2.2.2.2.2.2.2.1, σ.2.2.2.2.2.2.2.2.2.2.1, v, σ.2.2.2.2.2.2.2.2.2.2.2.2)
abbrev g_go (σ : SP) : Nat → Int32 := σ.2.2.2.2.2.2.2.2.2.2.2.2.1
abbrev u_go (σ : SP) (v : Nat → Int32) : SP := (σ.1, σ.2.1, σ.2.2.1, σ.2.2.2.1, σ.2.2.2.2.1, σ.2.2.2.2.2.1, σ.2.2.2.2.2.2.1, σ.2.2.2.2.2.2.2.1, σ.2.2.2.2.2.2.2.2.1, σ.2.2.2.2.2.2.2.2.2.1, σ.2.2.2.2.2.2.2.2.2.2.1, σ.2.2.2.2.2.2.2.2.2.2.2.1, v, σ.2.2.2.2.2.2.2.2.2.2.2.2.2)
abbrev g_fr (σ : SP) : Nat → Int32 := σ.2.2.2.2.2.2.2.2.2.2.2.2.2.1
abbrev u_fr (σ : SP) (v : Nat → Int32) : SP := (σ.1, σ.2.1, σ.2.2.1, σ.2.2.2.1, σ.2.2.2.2.1, σ.2.2.2.2.2.1, σ.2.2.2.2.2.2.1, σ.2.2.2.2.2.2.2.1, σ.2.2.2.2.2.2.2.2.1, σ.2.2.2.2.2.2.2.2.2.1, σ.2.2.2.2.2.2.2.2.2.2.1, σ.2.2.2.2.2.2.2.2.2.2.2.1, σ.2.2.2.2.2.2.2.2.2.2.2.2.1, v, σ.2.2.2.2.2.2.2.2.2.2.2.2.2.2)
abbrev g_le (σ : SP) : Nat → Int32 := σ.2.2.2.2.2.2.2.2.2.2.2.2.2.2.1
abbrev u_le (σ : SP) (v : Nat → Int32) : SP := (σ.1, σ.2.1, σ.2.2.1, σ.2.2.2.1, σ.2.2.2.2.1, σ.2.2.2.2.2.1, σ.2.2.2.2.2.2.1, σ.2.2.2.2.2.2.2.1, σ.2.2.2.2.2.2.2.2.1, σ.2.2.2.2.2.2.2.2.2.1, σ.2.2.2.2.2.2.2.2.2.2.1, σ.2.2.2.2.2.2.2.2.2.2.2.1, σ.2.2.2.2.2.2.2.2.2.2.2.2.1, σ.2.2.2.2.2.2.2.2.2.2.2.2.2.1, v, σ.2.2.2.2.2.2.2.2.2.2.2.2.2.2.2)
abbrev g_sz (σ : SP) : Int32 := σ.2.2.2.2.2.2.2.2.2.2.2.2.2.2.2.1
abbrev u_sz (σ : SP) (v : Int32) : SP := (σ.1, σ.2.1, σ.2.2.1, σ.2.2.2.1, σ.2.2.2.2.1, σ.2.2.2.2.2.1, σ.2.2.2.2.2.2.1, σ.2.2.2.2.2.2.2.1, σ.2.2.2.2.2.2.2.2.1, σ.2.2.2.2.2.2.2.2.2.1, σ.2.2.2.2.2.2.2.2.2.2.1, σ.2.2.2.2.2.2.2.2.2.2.2.1, σ.2.2.2.2.2.2.2.2.2.2.2.2.1, σ.2.2.2.2.2.2.2.2.2.2.2.2.2.1, σ.2.2.2.2.2.2.2.2.2.2.2.2.2.2.1, v, σ.2.2.2.2.2.2.2.2.2.2.2.2.2.2.2.2)
abbrev g_se (σ : SP) : Nat → Int32 := σ.2.2.2.2.2.2.2.2.2.2.2.2.2.2.2.2
abbrev u_se (σ : SP) (v : Nat → Int32) : SP := (σ.1, σ.2.1, σ.2.2.1, σ.2.2.2.1, σ.2.2.2.2.1, σ.2.2.2.2.2.1, σ.2.2.2.2.2.2.1, σ.2.2.2.2.2.2.2.1, σ.2.2.2.2.2.2.2.2.1, σ.2.2.2.2.2.2.2.2.2.1, σ.2.2.2.2.2.2.2.2.2.2.1, σ.2.2.2.2.2.2.2.2.2.2.2.1, σ.2.2.2.2.2.2.2.2.2.2.2.2.1, σ.2.2.2.2.2.2.2.2.2.2.2.2.2.1, σ.2.2.2.2.2.2.2.2.2.2.2.2.2.2.1, σ.2.2.2.2.2.2.2.2.2.2.2.2.2.2.2.1, v)
def wP (ad : Nat → Nat) (cA : ClassId) (σ : SP) : va_W := [(ad 0, .inr (0, [.ref (ad 1), .int (g_ec σ), .int (g_rc σ), .ref (ad 2), .ref (ad 11), .ref (ad 16)])), (ad 1, .inl (cA, 240, .inl (g_row σ))), (ad 2, .inr (1, [.ref (ad 3), .ref (ad 4), .ref (ad 5), .ref (ad 6), .ref (ad 7), .ref (ad 8), .ref (ad 9), .ref (ad 10)])), (ad 3, .inl (cA, 20, .inl (g_pl σ))), (ad 4, .inl (cA, 20, .inl (g_gd σ))), (ad 5, .inl (cA, 20, .inl (g_gv σ))), (ad 6, .inl (cA, 10, .inl (g_wa σ))), (ad 7, .inl (cA, 10, .inl (g_gw σ))), (ad 8, .inl (cA, 10, .inl (g_gt σ))), (ad 9, .inl (cA, 4, .inl (g_ce σ))), (ad 10, .inl (cA, 100, .inl (g_lk σ))), (ad 11, .inr (2, [.ref (ad 12), .ref (ad 13), .ref (ad 14), .ref (ad 15), .int (g_sz σ)])), (ad 12, .inl (cA, 6, .inl (g_la σ))), (ad 13, .inl (cA, 6, .inl (g_go σ))), (ad 14, .inl (cA, 6, .inl (g_fr σ))), (ad 15, .inl (cA, 6, .inl (g_le σ))), (ad 16, .inr (3, [.ref (ad 17)])), (ad 17, .inl (cA, 100, .inl (g_se σ)))]
end
section
set_option maxRecDepth 100000 in
theorem tw_255 : Cond.methodLink "PlainWarehouse" (91 : Nat) ({ cls := "PlainWarehouse", name := "isUnit", desc := "(I)Z" } : MethodName) ∈ WS := ws_in 255 rfl rfl
set_option maxRecDepth 100000 in
theorem tw_256 : Cond.static ({ cls := "PlainWarehouse", name := "isUnit", desc := "(I)Z" } : MethodName) ∈ WS := ws_in 256 rfl rfl
set_option maxRecDepth 100000 in
theorem tw_258 : Cond.methodLink "PlainWarehouse" (165 : Nat) ({ cls := "PlainWarehouse", name := "isWithin", desc := "(III)Z" } : MethodName) ∈ WS := ws_in 258 rfl rfl
set_option maxRecDepth 100000 in
theorem tw_259 : Cond.static ({ cls := "PlainWarehouse", name := "isWithin", desc := "(III)Z" } : MethodName) ∈ WS := ws_in 259 rfl rfl
set_option maxRecDepth 100000 in
theorem tw_261 : Cond.methodLink "PlainWarehouse" (74 : Nat) ({ cls := "PlainWarehouse", name := "isGood", desc := "(I)Z" } : MethodName) ∈ WS := ws_in 261 rfl rfl
set_option maxRecDepth 100000 in
theorem tw_262 : Cond.static ({ cls := "PlainWarehouse", name := "isGood", desc := "(I)Z" } : MethodName) ∈ WS := ws_in 262 rfl rfl
set_option maxRecDepth 100000 in
theorem tw_264 : Cond.methodLink "PlainWarehouse" (68 : Nat) ({ cls := "PlainWarehouse", name := "isPlace", desc := "(I)Z" } : MethodName) ∈ WS := ws_in 264 rfl rfl
set_option maxRecDepth 100000 in
theorem tw_265 : Cond.static ({ cls := "PlainWarehouse", name := "isPlace", desc := "(I)Z" } : MethodName) ∈ WS := ws_in 265 rfl rfl
set_option maxRecDepth 100000 in
theorem tw_267 : Cond.methodLink "PlainWarehouse" (193 : Nat) ({ cls := "PlainWarehouse", name := "isOrder", desc := "(I)Z" } : MethodName) ∈ WS := ws_in 267 rfl rfl
set_option maxRecDepth 100000 in
theorem tw_268 : Cond.static ({ cls := "PlainWarehouse", name := "isOrder", desc := "(I)Z" } : MethodName) ∈ WS := ws_in 268 rfl rfl
set_option maxRecDepth 100000 in
theorem tw_270 : Cond.methodLink "PlainWarehouse" (149 : Nat) ({ cls := "PlainWarehouse", name := "isOwner", desc := "(I)Z" } : MethodName) ∈ WS := ws_in 270 rfl rfl
set_option maxRecDepth 100000 in
theorem tw_271 : Cond.static ({ cls := "PlainWarehouse", name := "isOwner", desc := "(I)Z" } : MethodName) ∈ WS := ws_in 271 rfl rfl
set_option maxRecDepth 100000 in
theorem tw_433 : Cond.constant "java/lang/Integer" (265 : Nat) (1431655765 : Int32) ∈ WS := ws_in 433 rfl rfl
set_option maxRecDepth 100000 in
theorem tw_434 : Cond.constant "java/lang/Integer" (266 : Nat) (858993459 : Int32) ∈ WS := ws_in 434 rfl rfl
set_option maxRecDepth 100000 in
theorem tw_435 : Cond.constant "java/lang/Integer" (267 : Nat) (252645135 : Int32) ∈ WS := ws_in 435 rfl rfl
set_option maxRecDepth 100000 in
theorem tw_490 : Cond.constant "PlainWarehouse" (196 : Nat) (1000000 : Int32) ∈ WS := ws_in 490 rfl rfl
def rm_JA_fill : Room := { frames := 0, cells := 0, slots := 0, locals := 0 }
set_option maxHeartbeats 4000000 in
set_option maxRecDepth 100000 in
theorem wl_JA_fill {x : JX} {w : va_W} {a n q0 : Nat} {cA : ClassId} {f : Nat → Int32} {v : Int32} (C : jC x cc_JA_fill 4 "java/util/Arrays") (hT : (jT x)[0]? = some (cA, .int)) (hr : (jt x).sig.returnType = none) (hq : q0 < w.length) (hn : n < 2 ^ 31)
    (E : jE x 0 0 none (w.set q0 (a, .inl (cA, n, .inl (fil n v f))))) : ∀ k i : Nat, i + k = n → jW x 4 0 0 5 [(0, .ref a), (1, .int v), (2, .int (nI i)), (3, .int (nI n))] [] (w.set q0 (a, .inl (cA, n, .inl (fil i v f)))) := by
  intro k
  induction k with
  | zero =>
    intro i hi
    have hi : i = n := by omega
    subst hi
    refine j_iload_n C 2 d_JA_fill_5 rfl rfl rfl ?_
    refine j_iload_n C 3 d_JA_fill_6 rfl rfl rfl ?_
    refine j_icmp_ge (tgt := 20) (MA := some ()) (MB := none) (res := ()) C d_JA_fill_7 (by decide) rfl (by rw [if_pos (nI_le (Nat.le_refl _) hn)]) (fun _ => ?_) (fun h => by cases h)
    exact j_vret C E hr d_JA_fill_20
  | succ k ih =>
    intro i hi
    have hlt : i < n := by omega
    refine j_iload_n C 2 d_JA_fill_5 rfl rfl rfl ?_
    refine j_iload_n C 3 d_JA_fill_6 rfl rfl rfl ?_
    refine j_icmp_ge (tgt := 20) (MA := none) (MB := some ()) (res := ()) C d_JA_fill_7 (by decide) rfl (by rw [if_neg (nI_ge hlt hn)]) (fun h => by cases h) (fun _ => ?_)
    refine j_aload_n C 0 d_JA_fill_10 rfl rfl rfl ?_
    refine j_iload_n C 2 d_JA_fill_11 rfl rfl rfl ?_
    refine j_iload_n C 1 d_JA_fill_12 rfl rfl rfl ?_
    refine j_iast (τ := Unit) (t0 := ()) (B := fun _ => some ()) (res := ()) C (fun _ => w.set q0 (a, .inl (cA, n, .inl (fil (i + 1) v f)))) q0 0 (List.getElem?_set_self hq) hT d_JA_fill_13 rfl (by unfold mck mlet; rw [if_pos]; rw [nI_toInt (by omega)]; constructor <;> omega) (by rw [List.set_set, fil_s (by omega)]) (fun _ _ => ?_)
    refine j_iinc (v' := nI (i + 1)) (lv' := [(2, .int (nI (i + 1))), (0, .ref a), (1, .int v), (3, .int (nI n))]) C 2 d_JA_fill_14 rfl rfl (nI_1 i) (by decide) rfl ?_
    refine j_goto (tgt := 5) C d_JA_fill_17 (by decide) ?_
    exact j_sub [1, 2, 0, 3] rfl (ih (i + 1) (by omega))
set_option maxHeartbeats 4000000 in
set_option maxRecDepth 100000 in
theorem ct_JA_fill (l : Launch) (D : va_G) (tys : List (ClassId × FieldType)) {w : va_W} {a n : Nat} (q0 : Nat) {cA : ClassId} {f : Nat → Int32} (v : Int32) (hT : tys[0]? = some (cA, .int)) (hq : w[q0]? = some (a, .inl (cA, n, .inl f))) (hn : n < 2 ^ 31) : jM l y_JA_fill ws_JA_fill rm_JA_fill D tys [.ref a, .int v] w none (w.set q0 (a, .inl (cA, n, .inl (fil n v f)))) := by
  have hlt : q0 < w.length := (List.getElem?_eq_some_iff.mp hq).1
  refine j_of (lv := [(0, .ref a), (1, .int v)]) (by decide +kernel) rfl (Nat.le_of_ble_eq_true rfl) rfl (fun x _ _ hT' hR C hr _ E => ?_)
  have hT2 : (jT x)[0]? = some (cA, .int) := by rw [hT']; exact hT
  refine j_iconst (v := 0) C d_JA_fill_0 rfl (by decide) ?_
  refine j_istore_n (lv' := [(2, .int 0), (0, .ref a), (1, .int v)]) C d_JA_fill_1 rfl rfl (by decide) rfl ?_
  refine j_aload_n C 1 d_JA_fill_2 rfl rfl rfl ?_
  refine j_alen (v := nI n) C q0 0 hq hT2 rfl d_JA_fill_3 rfl ?_
  refine j_istore_n (lv' := [(3, .int (nI n)), (2, .int 0), (0, .ref a), (1, .int v)]) C d_JA_fill_4 rfl rfl (by decide) rfl ?_
  have hw : w = w.set q0 (a, .inl (cA, n, .inl (fil 0 v f))) := by
    rw [fil_0]
    obtain ⟨h1, h2⟩ := List.getElem?_eq_some_iff.mp hq
    rw [← h2, List.set_getElem_self]
  rw [hw]
  have K := wl_JA_fill (v := v) (f := f) C hT2 hr hlt hn E n 0 (by omega)
  exact j_sub [2, 3, 1, 0] rfl K
theorem j_fill {x : JX} {cc : ByteArray} {nL kc ks : Nat} {own : String} {pc pc' : Nat} {lv : List (Nat × Value)} {st : List Value} {w : va_W} (C : jC x cc nL own) {rm0 : Room} (hR : jR x = rm0) {index : Nat} (hlk : Cond.methodLink own index y_JA_fill ∈ WS) (hs : Cond.static y_JA_fill ∈ WS) {a n : Nat} {cA : ClassId} {f : Nat → Int32} {v : Int32} (q0 : Nat) (ha : w[q0]? = some (a, .inl (cA, n, .inl f))) (hn : n < 2 ^ 31) (hT : (jT x)[0]? = some (cA, .int)) (hrm : rm_JA_fill.frames + 1 ≤ rm0.frames ∧ 8 + (4 + 11) + rm_JA_fill.locals ≤ rm0.locals) (hW : (st.map fun v => v.category).sum ≤ 8) (hf : kc ≤ rm0.cells ∧ ks ≤ rm0.slots) (hd : decode cc pc = .ok (.invokestatic index, 3)) (hp : pc + 3 = pc') {α τ : Type} {res : α} {B : τ → Option α} {t0 : τ} (wf : τ → va_W) (h : mlet t0 B = some res) (hw : w.set q0 (a, .inl (cA, n, .inl (fil n v f))) = wf t0) (K : ∀ t : τ, B t = some res → jW x nL kc ks pc' lv st (wf t)) : jW x nL kc ks pc lv (.int v :: .ref a :: st) w :=
  j_callS C hR (As := [.ref a, .int v]) (ct_JA_fill (jl x) (jD x) (jT x) q0 v hT ha hn) kf_JA_fill hrm hlk hs (rest := st) rfl rfl hW hf ⟨rfl, rfl⟩ hd hp (st1 := st) rfl (by rw [hw]; exact K t0 h)

def rm_P_isWithin : Room := { frames := 0, cells := 0, slots := 0, locals := 0 }
def m_P_isWithin (a0 : Int32) (a1 : Int32) (a2 : Int32) : Option (Int32) :=
  (if a0 < a1 then some (0 : Int32) else (if a2 < a0 then some (0 : Int32) else some (1 : Int32)))
set_option maxHeartbeats 4000000 in
set_option maxRecDepth 100000 in
theorem w_P_isWithin {x : JX} {w : va_W} (C : jC x cc_P_isWithin 3 "PlainWarehouse") (hR : jR x = rm_P_isWithin)  (a0 : Int32) (a1 : Int32) (a2 : Int32) {r : Int32} (hr : (jt x).sig.returnType = some .boolean) (E : jE x 0 0 (some (.int r)) (w)) (h : m_P_isWithin a0 a1 a2 = some r) : jW x 3 0 0 0 [(0, .int a0), (1, .int a1), (2, .int a2)] [] (w) := by
  unfold m_P_isWithin at h
  refine j_iload_n C 0 d_P_isWithin_0 rfl rfl rfl ?_
  refine j_iload_n C 1 d_P_isWithin_1 rfl rfl rfl ?_
  refine j_icmp_lt (tgt := 14) C d_P_isWithin_2 (by decide) rfl h (fun h => ?_) (fun h => ?_)
  · refine j_iconst (v := 0) C d_P_isWithin_14 rfl (by decide) ?_
    cases h
    exact j_zret C E hr rfl d_P_isWithin_15
  · refine j_iload_n C 0 d_P_isWithin_5 rfl rfl rfl ?_
    refine j_iload_n C 2 d_P_isWithin_6 rfl rfl rfl ?_
    refine j_icmp_gt (tgt := 14) C d_P_isWithin_7 (by decide) rfl h (fun h => ?_) (fun h => ?_)
    · refine j_iconst (v := 0) C d_P_isWithin_14 rfl (by decide) ?_
      cases h
      exact j_zret C E hr rfl d_P_isWithin_15
    · refine j_iconst (v := 1) C d_P_isWithin_10 rfl (by decide) ?_
      refine j_goto (tgt := 15) C d_P_isWithin_11 (by decide) ?_
      cases h
      exact j_zret C E hr rfl d_P_isWithin_15
theorem ct_P_isWithin (l : Launch) (D : va_G) (tys : List (ClassId × FieldType)) {w : va_W} (a0 : Int32) (a1 : Int32) (a2 : Int32) {r : Int32} (h : m_P_isWithin a0 a1 a2 = some r) : jM l y_P_isWithin ws_P_isWithin rm_P_isWithin D tys [.int a0, .int a1, .int a2] (w) (some (.int r)) (w) :=
  j_of (by decide +kernel) rfl (Nat.le_of_ble_eq_true rfl) rfl (fun x _ _ _ hR C hr _ E => w_P_isWithin C hR a0 a1 a2 hr E h)
def rm_P_isUnit : Room := { frames := 1, cells := 0, slots := 0, locals := 22 }
def m_P_isUnit (a0 : Int32) : Option (Int32) :=
  (mb1 (m_P_isWithin a0 (0 : Int32) (19 : Int32)) fun r1 => (mzr r1 (some r1)))
set_option maxHeartbeats 4000000 in
set_option maxRecDepth 100000 in
theorem w_P_isUnit {x : JX} {w : va_W} (C : jC x cc_P_isUnit 1 "PlainWarehouse") (hR : jR x = rm_P_isUnit)  (a0 : Int32) {r : Int32} (hr : (jt x).sig.returnType = some .boolean) (E : jE x 0 0 (some (.int r)) (w)) (h : m_P_isUnit a0 = some r) : jW x 1 0 0 0 [(0, .int a0)] [] (w) := by
  unfold m_P_isUnit at h
  refine j_iload_n C 0 d_P_isUnit_0 rfl rfl rfl ?_
  refine j_iconst (v := 0) C d_P_isUnit_1 rfl (by decide) ?_
  refine j_bipush (v := 19) C d_P_isUnit_2 rfl (by decide) ?_
  obtain ⟨r1, h2, h⟩ := mb1_some h
  refine j_callS C hR (As := [.int a0, .int (0 : Int32), .int (19 : Int32)]) (ct_P_isWithin (jl x) (jD x) (jT x) a0 (0 : Int32) (19 : Int32) h2) kf_P_isWithin (by decide) tw_258 tw_259 (rest := []) rfl rfl (Nat.le_of_ble_eq_true rfl) (by decide) ⟨rfl, rfl⟩ d_P_isUnit_4 rfl (st1 := [.int r1]) rfl ?_
  obtain ⟨hz, h⟩ := mzr_some h
  cases h
  exact j_zret C E hr hz d_P_isUnit_7
theorem ct_P_isUnit (l : Launch) (D : va_G) (tys : List (ClassId × FieldType)) {w : va_W} (a0 : Int32) {r : Int32} (h : m_P_isUnit a0 = some r) : jM l y_P_isUnit ws_P_isUnit rm_P_isUnit D tys [.int a0] (w) (some (.int r)) (w) :=
  j_of (by decide +kernel) rfl (Nat.le_of_ble_eq_true rfl) rfl (fun x _ _ _ hR C hr _ E => w_P_isUnit C hR a0 hr E h)
def rm_P_isGood : Room := { frames := 1, cells := 0, slots := 0, locals := 22 }
def m_P_isGood (a0 : Int32) : Option (Int32) :=
  (mb1 (m_P_isWithin a0 (0 : Int32) (5 : Int32)) fun r1 => (mzr r1 (some r1)))
set_option maxHeartbeats 4000000 in
set_option maxRecDepth 100000 in
theorem w_P_isGood {x : JX} {w : va_W} (C : jC x cc_P_isGood 1 "PlainWarehouse") (hR : jR x = rm_P_isGood)  (a0 : Int32) {r : Int32} (hr : (jt x).sig.returnType = some .boolean) (E : jE x 0 0 (some (.int r)) (w)) (h : m_P_isGood a0 = some r) : jW x 1 0 0 0 [(0, .int a0)] [] (w) := by
  unfold m_P_isGood at h
  refine j_iload_n C 0 d_P_isGood_0 rfl rfl rfl ?_
  refine j_iconst (v := 0) C d_P_isGood_1 rfl (by decide) ?_
  refine j_iconst (v := 5) C d_P_isGood_2 rfl (by decide) ?_
  obtain ⟨r1, h2, h⟩ := mb1_some h
  refine j_callS C hR (As := [.int a0, .int (0 : Int32), .int (5 : Int32)]) (ct_P_isWithin (jl x) (jD x) (jT x) a0 (0 : Int32) (5 : Int32) h2) kf_P_isWithin (by decide) tw_258 tw_259 (rest := []) rfl rfl (Nat.le_of_ble_eq_true rfl) (by decide) ⟨rfl, rfl⟩ d_P_isGood_3 rfl (st1 := [.int r1]) rfl ?_
  obtain ⟨hz, h⟩ := mzr_some h
  cases h
  exact j_zret C E hr hz d_P_isGood_6
theorem ct_P_isGood (l : Launch) (D : va_G) (tys : List (ClassId × FieldType)) {w : va_W} (a0 : Int32) {r : Int32} (h : m_P_isGood a0 = some r) : jM l y_P_isGood ws_P_isGood rm_P_isGood D tys [.int a0] (w) (some (.int r)) (w) :=
  j_of (by decide +kernel) rfl (Nat.le_of_ble_eq_true rfl) rfl (fun x _ _ _ hR C hr _ E => w_P_isGood C hR a0 hr E h)
def rm_P_isPlace : Room := { frames := 1, cells := 0, slots := 0, locals := 22 }
def m_P_isPlace (a0 : Int32) : Option (Int32) :=
  (mb1 (m_P_isWithin a0 (0 : Int32) (9 : Int32)) fun r1 => (mzr r1 (some r1)))
set_option maxHeartbeats 4000000 in
set_option maxRecDepth 100000 in
theorem w_P_isPlace {x : JX} {w : va_W} (C : jC x cc_P_isPlace 1 "PlainWarehouse") (hR : jR x = rm_P_isPlace)  (a0 : Int32) {r : Int32} (hr : (jt x).sig.returnType = some .boolean) (E : jE x 0 0 (some (.int r)) (w)) (h : m_P_isPlace a0 = some r) : jW x 1 0 0 0 [(0, .int a0)] [] (w) := by
  unfold m_P_isPlace at h
  refine j_iload_n C 0 d_P_isPlace_0 rfl rfl rfl ?_
  refine j_iconst (v := 0) C d_P_isPlace_1 rfl (by decide) ?_
  refine j_bipush (v := 9) C d_P_isPlace_2 rfl (by decide) ?_
  obtain ⟨r1, h2, h⟩ := mb1_some h
  refine j_callS C hR (As := [.int a0, .int (0 : Int32), .int (9 : Int32)]) (ct_P_isWithin (jl x) (jD x) (jT x) a0 (0 : Int32) (9 : Int32) h2) kf_P_isWithin (by decide) tw_258 tw_259 (rest := []) rfl rfl (Nat.le_of_ble_eq_true rfl) (by decide) ⟨rfl, rfl⟩ d_P_isPlace_4 rfl (st1 := [.int r1]) rfl ?_
  obtain ⟨hz, h⟩ := mzr_some h
  cases h
  exact j_zret C E hr hz d_P_isPlace_7
theorem ct_P_isPlace (l : Launch) (D : va_G) (tys : List (ClassId × FieldType)) {w : va_W} (a0 : Int32) {r : Int32} (h : m_P_isPlace a0 = some r) : jM l y_P_isPlace ws_P_isPlace rm_P_isPlace D tys [.int a0] (w) (some (.int r)) (w) :=
  j_of (by decide +kernel) rfl (Nat.le_of_ble_eq_true rfl) rfl (fun x _ _ _ hR C hr _ E => w_P_isPlace C hR a0 hr E h)
def rm_P_isOrder : Room := { frames := 1, cells := 0, slots := 0, locals := 22 }
def m_P_isOrder (a0 : Int32) : Option (Int32) :=
  (mb1 (m_P_isWithin a0 (0 : Int32) (9 : Int32)) fun r1 => (mzr r1 (some r1)))
set_option maxHeartbeats 4000000 in
set_option maxRecDepth 100000 in
theorem w_P_isOrder {x : JX} {w : va_W} (C : jC x cc_P_isOrder 1 "PlainWarehouse") (hR : jR x = rm_P_isOrder)  (a0 : Int32) {r : Int32} (hr : (jt x).sig.returnType = some .boolean) (E : jE x 0 0 (some (.int r)) (w)) (h : m_P_isOrder a0 = some r) : jW x 1 0 0 0 [(0, .int a0)] [] (w) := by
  unfold m_P_isOrder at h
  refine j_iload_n C 0 d_P_isOrder_0 rfl rfl rfl ?_
  refine j_iconst (v := 0) C d_P_isOrder_1 rfl (by decide) ?_
  refine j_bipush (v := 9) C d_P_isOrder_2 rfl (by decide) ?_
  obtain ⟨r1, h2, h⟩ := mb1_some h
  refine j_callS C hR (As := [.int a0, .int (0 : Int32), .int (9 : Int32)]) (ct_P_isWithin (jl x) (jD x) (jT x) a0 (0 : Int32) (9 : Int32) h2) kf_P_isWithin (by decide) tw_258 tw_259 (rest := []) rfl rfl (Nat.le_of_ble_eq_true rfl) (by decide) ⟨rfl, rfl⟩ d_P_isOrder_4 rfl (st1 := [.int r1]) rfl ?_
  obtain ⟨hz, h⟩ := mzr_some h
  cases h
  exact j_zret C E hr hz d_P_isOrder_7
theorem ct_P_isOrder (l : Launch) (D : va_G) (tys : List (ClassId × FieldType)) {w : va_W} (a0 : Int32) {r : Int32} (h : m_P_isOrder a0 = some r) : jM l y_P_isOrder ws_P_isOrder rm_P_isOrder D tys [.int a0] (w) (some (.int r)) (w) :=
  j_of (by decide +kernel) rfl (Nat.le_of_ble_eq_true rfl) rfl (fun x _ _ _ hR C hr _ E => w_P_isOrder C hR a0 hr E h)
def rm_P_isOwner : Room := { frames := 1, cells := 0, slots := 0, locals := 22 }
def m_P_isOwner (a0 : Int32) : Option (Int32) :=
  (mb1 (m_P_isWithin a0 (0 : Int32) (3 : Int32)) fun r1 => (mzr r1 (some r1)))
set_option maxHeartbeats 4000000 in
set_option maxRecDepth 100000 in
theorem w_P_isOwner {x : JX} {w : va_W} (C : jC x cc_P_isOwner 1 "PlainWarehouse") (hR : jR x = rm_P_isOwner)  (a0 : Int32) {r : Int32} (hr : (jt x).sig.returnType = some .boolean) (E : jE x 0 0 (some (.int r)) (w)) (h : m_P_isOwner a0 = some r) : jW x 1 0 0 0 [(0, .int a0)] [] (w) := by
  unfold m_P_isOwner at h
  refine j_iload_n C 0 d_P_isOwner_0 rfl rfl rfl ?_
  refine j_iconst (v := 0) C d_P_isOwner_1 rfl (by decide) ?_
  refine j_iconst (v := 3) C d_P_isOwner_2 rfl (by decide) ?_
  obtain ⟨r1, h2, h⟩ := mb1_some h
  refine j_callS C hR (As := [.int a0, .int (0 : Int32), .int (3 : Int32)]) (ct_P_isWithin (jl x) (jD x) (jT x) a0 (0 : Int32) (3 : Int32) h2) kf_P_isWithin (by decide) tw_258 tw_259 (rest := []) rfl rfl (Nat.le_of_ble_eq_true rfl) (by decide) ⟨rfl, rfl⟩ d_P_isOwner_3 rfl (st1 := [.int r1]) rfl ?_
  obtain ⟨hz, h⟩ := mzr_some h
  cases h
  exact j_zret C E hr hz d_P_isOwner_6
theorem ct_P_isOwner (l : Launch) (D : va_G) (tys : List (ClassId × FieldType)) {w : va_W} (a0 : Int32) {r : Int32} (h : m_P_isOwner a0 = some r) : jM l y_P_isOwner ws_P_isOwner rm_P_isOwner D tys [.int a0] (w) (some (.int r)) (w) :=
  j_of (by decide +kernel) rfl (Nat.le_of_ble_eq_true rfl) rfl (fun x _ _ _ hR C hr _ E => w_P_isOwner C hR a0 hr E h)
def rm_P_isInSet : Room := { frames := 0, cells := 0, slots := 0, locals := 0 }
def m_P_isInSet (a0 : Int32) (a1 : Int32) : Option (Int32) :=
  (if ((((a1).toUInt32 >>> ((a0).toUInt32 &&& Int32.toUInt32 31)).toInt32) &&& (1 : Int32)) = (1 : Int32) then some (1 : Int32) else some (0 : Int32))
set_option maxHeartbeats 4000000 in
set_option maxRecDepth 100000 in
theorem w_P_isInSet {x : JX} {w : va_W} (C : jC x cc_P_isInSet 2 "PlainWarehouse") (hR : jR x = rm_P_isInSet)  (a0 : Int32) (a1 : Int32) {r : Int32} (hr : (jt x).sig.returnType = some .boolean) (E : jE x 0 0 (some (.int r)) (w)) (h : m_P_isInSet a0 a1 = some r) : jW x 2 0 0 0 [(0, .int a0), (1, .int a1)] [] (w) := by
  unfold m_P_isInSet at h
  refine j_iload_n C 1 d_P_isInSet_0 rfl rfl rfl ?_
  refine j_iload_n C 0 d_P_isInSet_1 rfl rfl rfl ?_
  refine j_iushr C d_P_isInSet_2 rfl ?_
  refine j_iconst (v := 1) C d_P_isInSet_3 rfl (by decide) ?_
  refine j_iand C d_P_isInSet_4 rfl ?_
  refine j_iconst (v := 1) C d_P_isInSet_5 rfl (by decide) ?_
  refine j_icmp_ne (tgt := 13) C d_P_isInSet_6 (by decide) rfl h (fun h => ?_) (fun h => ?_)
  · refine j_iconst (v := 0) C d_P_isInSet_13 rfl (by decide) ?_
    cases h
    exact j_zret C E hr rfl d_P_isInSet_14
  · refine j_iconst (v := 1) C d_P_isInSet_9 rfl (by decide) ?_
    refine j_goto (tgt := 14) C d_P_isInSet_10 (by decide) ?_
    cases h
    exact j_zret C E hr rfl d_P_isInSet_14
theorem ct_P_isInSet (l : Launch) (D : va_G) (tys : List (ClassId × FieldType)) {w : va_W} (a0 : Int32) (a1 : Int32) {r : Int32} (h : m_P_isInSet a0 a1 = some r) : jM l y_P_isInSet ws_P_isInSet rm_P_isInSet D tys [.int a0, .int a1] (w) (some (.int r)) (w) :=
  j_of (by decide +kernel) rfl (Nat.le_of_ble_eq_true rfl) rfl (fun x _ _ _ hR C hr _ E => w_P_isInSet C hR a0 a1 hr E h)
def rm_P_pair : Room := { frames := 0, cells := 0, slots := 0, locals := 0 }
def m_P_pair (a0 : Int32) (a1 : Int32) : Option (Int32) :=
  some ((a0 * (10 : Int32)) + a1)
set_option maxHeartbeats 4000000 in
set_option maxRecDepth 100000 in
theorem w_P_pair {x : JX} {w : va_W} (C : jC x cc_P_pair 2 "PlainWarehouse") (hR : jR x = rm_P_pair)  (a0 : Int32) (a1 : Int32) {r : Int32} (hr : (jt x).sig.returnType = some .int) (E : jE x 0 0 (some (.int r)) (w)) (h : m_P_pair a0 a1 = some r) : jW x 2 0 0 0 [(0, .int a0), (1, .int a1)] [] (w) := by
  unfold m_P_pair at h
  refine j_iload_n C 0 d_P_pair_0 rfl rfl rfl ?_
  refine j_bipush (v := 10) C d_P_pair_1 rfl (by decide) ?_
  refine j_imul C d_P_pair_3 rfl ?_
  refine j_iload_n C 1 d_P_pair_4 rfl rfl rfl ?_
  refine j_iadd C d_P_pair_5 rfl ?_
  cases h
  exact j_iret C E hr d_P_pair_6
theorem ct_P_pair (l : Launch) (D : va_G) (tys : List (ClassId × FieldType)) {w : va_W} (a0 : Int32) (a1 : Int32) {r : Int32} (h : m_P_pair a0 a1 = some r) : jM l y_P_pair ws_P_pair rm_P_pair D tys [.int a0, .int a1] (w) (some (.int r)) (w) :=
  j_of (by decide +kernel) rfl (Nat.le_of_ble_eq_true rfl) rfl (fun x _ _ _ hR C hr _ E => w_P_pair C hR a0 a1 hr E h)
def rm_P_orNone : Room := { frames := 0, cells := 0, slots := 0, locals := 0 }
def m_P_orNone (a0 : Int32) : Option (Int32) :=
  (if a0 < (1000000 : Int32) then some a0 else some (-1 : Int32))
set_option maxHeartbeats 4000000 in
set_option maxRecDepth 100000 in
theorem w_P_orNone {x : JX} {w : va_W} (C : jC x cc_P_orNone 1 "PlainWarehouse") (hR : jR x = rm_P_orNone)  (a0 : Int32) {r : Int32} (hr : (jt x).sig.returnType = some .int) (E : jE x 0 0 (some (.int r)) (w)) (h : m_P_orNone a0 = some r) : jW x 1 0 0 0 [(0, .int a0)] [] (w) := by
  unfold m_P_orNone at h
  refine j_iload_n C 0 d_P_orNone_0 rfl rfl rfl ?_
  refine j_ldc (v := 1000000) C d_P_orNone_1 rfl tw_490 ?_
  refine j_icmp_lt (tgt := 10) C d_P_orNone_3 (by decide) rfl h (fun h => ?_) (fun h => ?_)
  · refine j_iload_n C 0 d_P_orNone_10 rfl rfl rfl ?_
    cases h
    exact j_iret C E hr d_P_orNone_11
  · refine j_iconst (v := (-1)) C d_P_orNone_6 rfl (by decide) ?_
    refine j_goto (tgt := 11) C d_P_orNone_7 (by decide) ?_
    cases h
    exact j_iret C E hr d_P_orNone_11
theorem ct_P_orNone (l : Launch) (D : va_G) (tys : List (ClassId × FieldType)) {w : va_W} (a0 : Int32) {r : Int32} (h : m_P_orNone a0 = some r) : jM l y_P_orNone ws_P_orNone rm_P_orNone D tys [.int a0] (w) (some (.int r)) (w) :=
  j_of (by decide +kernel) rfl (Nat.le_of_ble_eq_true rfl) rfl (fun x _ _ _ hR C hr _ E => w_P_orNone C hR a0 hr E h)
def rm_P_isInRange : Room := { frames := 2, cells := 0, slots := 0, locals := 42 }
def m_P_isInRange (a0 : Int32) (a1 : Int32) (a2 : Int32) (a3 : Int32) : Option (Int32) :=
  (if a0 = 0 then (mb1 (m_P_isUnit a1) fun r1 => (if r1 = 0 then some (0 : Int32) else (mb1 (m_P_isGood a2) fun r3 => (if r3 = 0 then some (0 : Int32) else (mb1 (m_P_isPlace a3) fun r5 => (if r5 = 0 then some (0 : Int32) else some (1 : Int32))))))) else (if a0 = 1 then (mb1 (m_P_isUnit a1) fun r7 => (if r7 = 0 then some (0 : Int32) else (mb1 (m_P_isPlace a2) fun r9 => (if r9 = 0 then some (0 : Int32) else (if a3 = 0 then some (1 : Int32) else some (0 : Int32)))))) else (if a0 = 2 then (mb1 (m_P_isUnit a1) fun r11 => (if r11 = 0 then some (0 : Int32) else (if a2 = 0 then (if a3 = 0 then some (1 : Int32) else some (0 : Int32)) else some (0 : Int32)))) else (if a0 = 3 then (mb1 (m_P_isOrder a1) fun r13 => (if r13 = 0 then some (0 : Int32) else (mb1 (m_P_isWithin a2 (1 : Int32) (9 : Int32)) fun r15 => (if r15 = 0 then some (0 : Int32) else (mb1 (m_P_isGood a3) fun r17 => (if r17 = 0 then some (0 : Int32) else some (1 : Int32))))))) else (if a0 = 4 then (mb1 (m_P_isUnit a1) fun r19 => (if r19 = 0 then some (0 : Int32) else (mb1 (m_P_isOrder a2) fun r21 => (if r21 = 0 then some (0 : Int32) else (if a3 = 0 then some (1 : Int32) else some (0 : Int32)))))) else (if a0 = 5 then (mb1 (m_P_isOwner a1) fun r23 => (if r23 = 0 then some (0 : Int32) else (if a2 = 0 then some (0 : Int32) else (mb1 (m_P_isWithin a2 (-10000 : Int32) (10000 : Int32)) fun r25 => (if r25 = 0 then some (0 : Int32) else (if a3 = 0 then some (1 : Int32) else some (0 : Int32))))))) else (if a0 = 6 then (mb1 (m_P_isPlace a1) fun r27 => (if r27 = 0 then some (0 : Int32) else (mb1 (m_P_isPlace a2) fun r29 => (if r29 = 0 then some (0 : Int32) else (mb1 (m_P_isWithin a3 (1 : Int32) (99 : Int32)) fun r31 => (if r31 = 0 then some (0 : Int32) else some (1 : Int32))))))) else some (0 : Int32))))))))
set_option maxHeartbeats 4000000 in
set_option maxRecDepth 100000 in
theorem w_P_isInRange {x : JX} {w : va_W} (C : jC x cc_P_isInRange 4 "PlainWarehouse") (hR : jR x = rm_P_isInRange)  (a0 : Int32) (a1 : Int32) (a2 : Int32) (a3 : Int32) {r : Int32} (hr : (jt x).sig.returnType = some .boolean) (E : jE x 0 0 (some (.int r)) (w)) (h : m_P_isInRange a0 a1 a2 a3 = some r) : jW x 4 0 0 0 [(0, .int a0), (1, .int a1), (2, .int a2), (3, .int a3)] [] (w) := by
  unfold m_P_isInRange at h
  refine j_iload_n C 0 d_P_isInRange_0 rfl rfl rfl ?_
  refine j_tsw (k := 0) (tgt := 44) C d_P_isInRange_1 (by decide) (by decide) rfl (by decide) h (fun h => ?_) (fun n0 h => ?_)
  · refine j_iload_n C 1 d_P_isInRange_44 rfl rfl rfl ?_
    obtain ⟨r1, h2, h⟩ := mb1_some h
    refine j_callS C hR (As := [.int a1]) (ct_P_isUnit (jl x) (jD x) (jT x) a1 h2) kf_P_isUnit (by decide) tw_255 tw_256 (rest := []) rfl rfl (Nat.le_of_ble_eq_true rfl) (by decide) ⟨rfl, rfl⟩ d_P_isInRange_45 rfl (st1 := [.int r1]) rfl ?_
    refine j_if_eq (tgt := 69) C d_P_isInRange_48 (by decide) rfl h (fun h => ?_) (fun h => ?_)
    · refine j_iconst (v := 0) C d_P_isInRange_69 rfl (by decide) ?_
      cases h
      exact j_zret C E hr rfl d_P_isInRange_70
    · refine j_iload_n C 2 d_P_isInRange_51 rfl rfl rfl ?_
      obtain ⟨r3, h4, h⟩ := mb1_some h
      refine j_callS C hR (As := [.int a2]) (ct_P_isGood (jl x) (jD x) (jT x) a2 h4) kf_P_isGood (by decide) tw_261 tw_262 (rest := []) rfl rfl (Nat.le_of_ble_eq_true rfl) (by decide) ⟨rfl, rfl⟩ d_P_isInRange_52 rfl (st1 := [.int r3]) rfl ?_
      refine j_if_eq (tgt := 69) C d_P_isInRange_55 (by decide) rfl h (fun h => ?_) (fun h => ?_)
      · refine j_iconst (v := 0) C d_P_isInRange_69 rfl (by decide) ?_
        cases h
        exact j_zret C E hr rfl d_P_isInRange_70
      · refine j_iload_n C 3 d_P_isInRange_58 rfl rfl rfl ?_
        obtain ⟨r5, h6, h⟩ := mb1_some h
        refine j_callS C hR (As := [.int a3]) (ct_P_isPlace (jl x) (jD x) (jT x) a3 h6) kf_P_isPlace (by decide) tw_264 tw_265 (rest := []) rfl rfl (Nat.le_of_ble_eq_true rfl) (by decide) ⟨rfl, rfl⟩ d_P_isInRange_59 rfl (st1 := [.int r5]) rfl ?_
        refine j_if_eq (tgt := 69) C d_P_isInRange_62 (by decide) rfl h (fun h => ?_) (fun h => ?_)
        · refine j_iconst (v := 0) C d_P_isInRange_69 rfl (by decide) ?_
          cases h
          exact j_zret C E hr rfl d_P_isInRange_70
        · refine j_iconst (v := 1) C d_P_isInRange_65 rfl (by decide) ?_
          refine j_goto (tgt := 70) C d_P_isInRange_66 (by decide) ?_
          cases h
          exact j_zret C E hr rfl d_P_isInRange_70
  refine j_tsw (k := 1) (tgt := 71) C d_P_isInRange_1 (by decide) (by decide) rfl (by decide) h (fun h => ?_) (fun n1 h => ?_)
  · refine j_iload_n C 1 d_P_isInRange_71 rfl rfl rfl ?_
    obtain ⟨r7, h8, h⟩ := mb1_some h
    refine j_callS C hR (As := [.int a1]) (ct_P_isUnit (jl x) (jD x) (jT x) a1 h8) kf_P_isUnit (by decide) tw_255 tw_256 (rest := []) rfl rfl (Nat.le_of_ble_eq_true rfl) (by decide) ⟨rfl, rfl⟩ d_P_isInRange_72 rfl (st1 := [.int r7]) rfl ?_
    refine j_if_eq (tgt := 93) C d_P_isInRange_75 (by decide) rfl h (fun h => ?_) (fun h => ?_)
    · refine j_iconst (v := 0) C d_P_isInRange_93 rfl (by decide) ?_
      cases h
      exact j_zret C E hr rfl d_P_isInRange_94
    · refine j_iload_n C 2 d_P_isInRange_78 rfl rfl rfl ?_
      obtain ⟨r9, h10, h⟩ := mb1_some h
      refine j_callS C hR (As := [.int a2]) (ct_P_isPlace (jl x) (jD x) (jT x) a2 h10) kf_P_isPlace (by decide) tw_264 tw_265 (rest := []) rfl rfl (Nat.le_of_ble_eq_true rfl) (by decide) ⟨rfl, rfl⟩ d_P_isInRange_79 rfl (st1 := [.int r9]) rfl ?_
      refine j_if_eq (tgt := 93) C d_P_isInRange_82 (by decide) rfl h (fun h => ?_) (fun h => ?_)
      · refine j_iconst (v := 0) C d_P_isInRange_93 rfl (by decide) ?_
        cases h
        exact j_zret C E hr rfl d_P_isInRange_94
      · refine j_iload_n C 3 d_P_isInRange_85 rfl rfl rfl ?_
        refine j_if_ne (tgt := 93) C d_P_isInRange_86 (by decide) rfl h (fun h => ?_) (fun h => ?_)
        · refine j_iconst (v := 0) C d_P_isInRange_93 rfl (by decide) ?_
          cases h
          exact j_zret C E hr rfl d_P_isInRange_94
        · refine j_iconst (v := 1) C d_P_isInRange_89 rfl (by decide) ?_
          refine j_goto (tgt := 94) C d_P_isInRange_90 (by decide) ?_
          cases h
          exact j_zret C E hr rfl d_P_isInRange_94
  refine j_tsw (k := 2) (tgt := 95) C d_P_isInRange_1 (by decide) (by decide) rfl (by decide) h (fun h => ?_) (fun n2 h => ?_)
  · refine j_iload_n C 1 d_P_isInRange_95 rfl rfl rfl ?_
    obtain ⟨r11, h12, h⟩ := mb1_some h
    refine j_callS C hR (As := [.int a1]) (ct_P_isUnit (jl x) (jD x) (jT x) a1 h12) kf_P_isUnit (by decide) tw_255 tw_256 (rest := []) rfl rfl (Nat.le_of_ble_eq_true rfl) (by decide) ⟨rfl, rfl⟩ d_P_isInRange_96 rfl (st1 := [.int r11]) rfl ?_
    refine j_if_eq (tgt := 114) C d_P_isInRange_99 (by decide) rfl h (fun h => ?_) (fun h => ?_)
    · refine j_iconst (v := 0) C d_P_isInRange_114 rfl (by decide) ?_
      cases h
      exact j_zret C E hr rfl d_P_isInRange_115
    · refine j_iload_n C 2 d_P_isInRange_102 rfl rfl rfl ?_
      refine j_if_ne (tgt := 114) C d_P_isInRange_103 (by decide) rfl h (fun h => ?_) (fun h => ?_)
      · refine j_iconst (v := 0) C d_P_isInRange_114 rfl (by decide) ?_
        cases h
        exact j_zret C E hr rfl d_P_isInRange_115
      · refine j_iload_n C 3 d_P_isInRange_106 rfl rfl rfl ?_
        refine j_if_ne (tgt := 114) C d_P_isInRange_107 (by decide) rfl h (fun h => ?_) (fun h => ?_)
        · refine j_iconst (v := 0) C d_P_isInRange_114 rfl (by decide) ?_
          cases h
          exact j_zret C E hr rfl d_P_isInRange_115
        · refine j_iconst (v := 1) C d_P_isInRange_110 rfl (by decide) ?_
          refine j_goto (tgt := 115) C d_P_isInRange_111 (by decide) ?_
          cases h
          exact j_zret C E hr rfl d_P_isInRange_115
  refine j_tsw (k := 3) (tgt := 116) C d_P_isInRange_1 (by decide) (by decide) rfl (by decide) h (fun h => ?_) (fun n3 h => ?_)
  · refine j_iload_n C 1 d_P_isInRange_116 rfl rfl rfl ?_
    obtain ⟨r13, h14, h⟩ := mb1_some h
    refine j_callS C hR (As := [.int a1]) (ct_P_isOrder (jl x) (jD x) (jT x) a1 h14) kf_P_isOrder (by decide) tw_267 tw_268 (rest := []) rfl rfl (Nat.le_of_ble_eq_true rfl) (by decide) ⟨rfl, rfl⟩ d_P_isInRange_117 rfl (st1 := [.int r13]) rfl ?_
    refine j_if_eq (tgt := 144) C d_P_isInRange_120 (by decide) rfl h (fun h => ?_) (fun h => ?_)
    · refine j_iconst (v := 0) C d_P_isInRange_144 rfl (by decide) ?_
      cases h
      exact j_zret C E hr rfl d_P_isInRange_145
    · refine j_iload_n C 2 d_P_isInRange_123 rfl rfl rfl ?_
      refine j_iconst (v := 1) C d_P_isInRange_124 rfl (by decide) ?_
      refine j_bipush (v := 9) C d_P_isInRange_125 rfl (by decide) ?_
      obtain ⟨r15, h16, h⟩ := mb1_some h
      refine j_callS C hR (As := [.int a2, .int (1 : Int32), .int (9 : Int32)]) (ct_P_isWithin (jl x) (jD x) (jT x) a2 (1 : Int32) (9 : Int32) h16) kf_P_isWithin (by decide) tw_258 tw_259 (rest := []) rfl rfl (Nat.le_of_ble_eq_true rfl) (by decide) ⟨rfl, rfl⟩ d_P_isInRange_127 rfl (st1 := [.int r15]) rfl ?_
      refine j_if_eq (tgt := 144) C d_P_isInRange_130 (by decide) rfl h (fun h => ?_) (fun h => ?_)
      · refine j_iconst (v := 0) C d_P_isInRange_144 rfl (by decide) ?_
        cases h
        exact j_zret C E hr rfl d_P_isInRange_145
      · refine j_iload_n C 3 d_P_isInRange_133 rfl rfl rfl ?_
        obtain ⟨r17, h18, h⟩ := mb1_some h
        refine j_callS C hR (As := [.int a3]) (ct_P_isGood (jl x) (jD x) (jT x) a3 h18) kf_P_isGood (by decide) tw_261 tw_262 (rest := []) rfl rfl (Nat.le_of_ble_eq_true rfl) (by decide) ⟨rfl, rfl⟩ d_P_isInRange_134 rfl (st1 := [.int r17]) rfl ?_
        refine j_if_eq (tgt := 144) C d_P_isInRange_137 (by decide) rfl h (fun h => ?_) (fun h => ?_)
        · refine j_iconst (v := 0) C d_P_isInRange_144 rfl (by decide) ?_
          cases h
          exact j_zret C E hr rfl d_P_isInRange_145
        · refine j_iconst (v := 1) C d_P_isInRange_140 rfl (by decide) ?_
          refine j_goto (tgt := 145) C d_P_isInRange_141 (by decide) ?_
          cases h
          exact j_zret C E hr rfl d_P_isInRange_145
  refine j_tsw (k := 4) (tgt := 146) C d_P_isInRange_1 (by decide) (by decide) rfl (by decide) h (fun h => ?_) (fun n4 h => ?_)
  · refine j_iload_n C 1 d_P_isInRange_146 rfl rfl rfl ?_
    obtain ⟨r19, h20, h⟩ := mb1_some h
    refine j_callS C hR (As := [.int a1]) (ct_P_isUnit (jl x) (jD x) (jT x) a1 h20) kf_P_isUnit (by decide) tw_255 tw_256 (rest := []) rfl rfl (Nat.le_of_ble_eq_true rfl) (by decide) ⟨rfl, rfl⟩ d_P_isInRange_147 rfl (st1 := [.int r19]) rfl ?_
    refine j_if_eq (tgt := 168) C d_P_isInRange_150 (by decide) rfl h (fun h => ?_) (fun h => ?_)
    · refine j_iconst (v := 0) C d_P_isInRange_168 rfl (by decide) ?_
      cases h
      exact j_zret C E hr rfl d_P_isInRange_169
    · refine j_iload_n C 2 d_P_isInRange_153 rfl rfl rfl ?_
      obtain ⟨r21, h22, h⟩ := mb1_some h
      refine j_callS C hR (As := [.int a2]) (ct_P_isOrder (jl x) (jD x) (jT x) a2 h22) kf_P_isOrder (by decide) tw_267 tw_268 (rest := []) rfl rfl (Nat.le_of_ble_eq_true rfl) (by decide) ⟨rfl, rfl⟩ d_P_isInRange_154 rfl (st1 := [.int r21]) rfl ?_
      refine j_if_eq (tgt := 168) C d_P_isInRange_157 (by decide) rfl h (fun h => ?_) (fun h => ?_)
      · refine j_iconst (v := 0) C d_P_isInRange_168 rfl (by decide) ?_
        cases h
        exact j_zret C E hr rfl d_P_isInRange_169
      · refine j_iload_n C 3 d_P_isInRange_160 rfl rfl rfl ?_
        refine j_if_ne (tgt := 168) C d_P_isInRange_161 (by decide) rfl h (fun h => ?_) (fun h => ?_)
        · refine j_iconst (v := 0) C d_P_isInRange_168 rfl (by decide) ?_
          cases h
          exact j_zret C E hr rfl d_P_isInRange_169
        · refine j_iconst (v := 1) C d_P_isInRange_164 rfl (by decide) ?_
          refine j_goto (tgt := 169) C d_P_isInRange_165 (by decide) ?_
          cases h
          exact j_zret C E hr rfl d_P_isInRange_169
  refine j_tsw (k := 5) (tgt := 170) C d_P_isInRange_1 (by decide) (by decide) rfl (by decide) h (fun h => ?_) (fun n5 h => ?_)
  · refine j_iload_n C 1 d_P_isInRange_170 rfl rfl rfl ?_
    obtain ⟨r23, h24, h⟩ := mb1_some h
    refine j_callS C hR (As := [.int a1]) (ct_P_isOwner (jl x) (jD x) (jT x) a1 h24) kf_P_isOwner (by decide) tw_270 tw_271 (rest := []) rfl rfl (Nat.le_of_ble_eq_true rfl) (by decide) ⟨rfl, rfl⟩ d_P_isInRange_171 rfl (st1 := [.int r23]) rfl ?_
    refine j_if_eq (tgt := 202) C d_P_isInRange_174 (by decide) rfl h (fun h => ?_) (fun h => ?_)
    · refine j_iconst (v := 0) C d_P_isInRange_202 rfl (by decide) ?_
      cases h
      exact j_zret C E hr rfl d_P_isInRange_203
    · refine j_iload_n C 2 d_P_isInRange_177 rfl rfl rfl ?_
      refine j_if_eq (tgt := 202) C d_P_isInRange_178 (by decide) rfl h (fun h => ?_) (fun h => ?_)
      · refine j_iconst (v := 0) C d_P_isInRange_202 rfl (by decide) ?_
        cases h
        exact j_zret C E hr rfl d_P_isInRange_203
      · refine j_iload_n C 2 d_P_isInRange_181 rfl rfl rfl ?_
        refine j_sipush (v := (-10000)) C d_P_isInRange_182 rfl (by decide) ?_
        refine j_sipush (v := 10000) C d_P_isInRange_185 rfl (by decide) ?_
        obtain ⟨r25, h26, h⟩ := mb1_some h
        refine j_callS C hR (As := [.int a2, .int (-10000 : Int32), .int (10000 : Int32)]) (ct_P_isWithin (jl x) (jD x) (jT x) a2 (-10000 : Int32) (10000 : Int32) h26) kf_P_isWithin (by decide) tw_258 tw_259 (rest := []) rfl rfl (Nat.le_of_ble_eq_true rfl) (by decide) ⟨rfl, rfl⟩ d_P_isInRange_188 rfl (st1 := [.int r25]) rfl ?_
        refine j_if_eq (tgt := 202) C d_P_isInRange_191 (by decide) rfl h (fun h => ?_) (fun h => ?_)
        · refine j_iconst (v := 0) C d_P_isInRange_202 rfl (by decide) ?_
          cases h
          exact j_zret C E hr rfl d_P_isInRange_203
        · refine j_iload_n C 3 d_P_isInRange_194 rfl rfl rfl ?_
          refine j_if_ne (tgt := 202) C d_P_isInRange_195 (by decide) rfl h (fun h => ?_) (fun h => ?_)
          · refine j_iconst (v := 0) C d_P_isInRange_202 rfl (by decide) ?_
            cases h
            exact j_zret C E hr rfl d_P_isInRange_203
          · refine j_iconst (v := 1) C d_P_isInRange_198 rfl (by decide) ?_
            refine j_goto (tgt := 203) C d_P_isInRange_199 (by decide) ?_
            cases h
            exact j_zret C E hr rfl d_P_isInRange_203
  refine j_tsw (k := 6) (tgt := 204) C d_P_isInRange_1 (by decide) (by decide) rfl (by decide) h (fun h => ?_) (fun n6 h => ?_)
  · refine j_iload_n C 1 d_P_isInRange_204 rfl rfl rfl ?_
    obtain ⟨r27, h28, h⟩ := mb1_some h
    refine j_callS C hR (As := [.int a1]) (ct_P_isPlace (jl x) (jD x) (jT x) a1 h28) kf_P_isPlace (by decide) tw_264 tw_265 (rest := []) rfl rfl (Nat.le_of_ble_eq_true rfl) (by decide) ⟨rfl, rfl⟩ d_P_isInRange_205 rfl (st1 := [.int r27]) rfl ?_
    refine j_if_eq (tgt := 232) C d_P_isInRange_208 (by decide) rfl h (fun h => ?_) (fun h => ?_)
    · refine j_iconst (v := 0) C d_P_isInRange_232 rfl (by decide) ?_
      cases h
      exact j_zret C E hr rfl d_P_isInRange_233
    · refine j_iload_n C 2 d_P_isInRange_211 rfl rfl rfl ?_
      obtain ⟨r29, h30, h⟩ := mb1_some h
      refine j_callS C hR (As := [.int a2]) (ct_P_isPlace (jl x) (jD x) (jT x) a2 h30) kf_P_isPlace (by decide) tw_264 tw_265 (rest := []) rfl rfl (Nat.le_of_ble_eq_true rfl) (by decide) ⟨rfl, rfl⟩ d_P_isInRange_212 rfl (st1 := [.int r29]) rfl ?_
      refine j_if_eq (tgt := 232) C d_P_isInRange_215 (by decide) rfl h (fun h => ?_) (fun h => ?_)
      · refine j_iconst (v := 0) C d_P_isInRange_232 rfl (by decide) ?_
        cases h
        exact j_zret C E hr rfl d_P_isInRange_233
      · refine j_iload_n C 3 d_P_isInRange_218 rfl rfl rfl ?_
        refine j_iconst (v := 1) C d_P_isInRange_219 rfl (by decide) ?_
        refine j_bipush (v := 99) C d_P_isInRange_220 rfl (by decide) ?_
        obtain ⟨r31, h32, h⟩ := mb1_some h
        refine j_callS C hR (As := [.int a3, .int (1 : Int32), .int (99 : Int32)]) (ct_P_isWithin (jl x) (jD x) (jT x) a3 (1 : Int32) (99 : Int32) h32) kf_P_isWithin (by decide) tw_258 tw_259 (rest := []) rfl rfl (Nat.le_of_ble_eq_true rfl) (by decide) ⟨rfl, rfl⟩ d_P_isInRange_222 rfl (st1 := [.int r31]) rfl ?_
        refine j_if_eq (tgt := 232) C d_P_isInRange_225 (by decide) rfl h (fun h => ?_) (fun h => ?_)
        · refine j_iconst (v := 0) C d_P_isInRange_232 rfl (by decide) ?_
          cases h
          exact j_zret C E hr rfl d_P_isInRange_233
        · refine j_iconst (v := 1) C d_P_isInRange_228 rfl (by decide) ?_
          refine j_goto (tgt := 233) C d_P_isInRange_229 (by decide) ?_
          cases h
          exact j_zret C E hr rfl d_P_isInRange_233
  refine j_tswD (tgt := 234) C d_P_isInRange_1 (by have q0 := tiNe (z := 0) (by decide) n0; have q1 := tiNe (z := 1) (by decide) n1; have q2 := tiNe (z := 2) (by decide) n2; have q3 := tiNe (z := 3) (by decide) n3; have q4 := tiNe (z := 4) (by decide) n4; have q5 := tiNe (z := 5) (by decide) n5; have q6 := tiNe (z := 6) (by decide) n6; omega) (by decide) ?_
  refine j_iconst (v := 0) C d_P_isInRange_234 rfl (by decide) ?_
  cases h
  exact j_zret C E hr rfl d_P_isInRange_235
theorem ct_P_isInRange (l : Launch) (D : va_G) (tys : List (ClassId × FieldType)) {w : va_W} (a0 : Int32) (a1 : Int32) (a2 : Int32) (a3 : Int32) {r : Int32} (h : m_P_isInRange a0 a1 a2 a3 = some r) : jM l y_P_isInRange ws_P_isInRange rm_P_isInRange D tys [.int a0, .int a1, .int a2, .int a3] (w) (some (.int r)) (w) :=
  j_of (by decide +kernel) rfl (Nat.le_of_ble_eq_true rfl) rfl (fun x _ _ _ hR C hr _ E => w_P_isInRange C hR a0 a1 a2 a3 hr E h)
def rm_H_isAsked : Room := { frames := 0, cells := 0, slots := 0, locals := 0 }
def m_H_isAsked (a0 : Int32) (a1 : Int32) : Option (Int32) :=
  (if a1 = (-1 : Int32) then some (1 : Int32) else (if a1 = a0 then some (1 : Int32) else some (0 : Int32)))
set_option maxHeartbeats 4000000 in
set_option maxRecDepth 100000 in
theorem w_H_isAsked {x : JX} {w : va_W} (C : jC x cc_H_isAsked 2 "PlainWarehouse$House") (hR : jR x = rm_H_isAsked)  (a0 : Int32) (a1 : Int32) {r : Int32} (hr : (jt x).sig.returnType = some .boolean) (E : jE x 0 0 (some (.int r)) (w)) (h : m_H_isAsked a0 a1 = some r) : jW x 2 0 0 0 [(0, .int a0), (1, .int a1)] [] (w) := by
  unfold m_H_isAsked at h
  refine j_iload_n C 1 d_H_isAsked_0 rfl rfl rfl ?_
  refine j_iconst (v := (-1)) C d_H_isAsked_1 rfl (by decide) ?_
  refine j_icmp_eq (tgt := 10) C d_H_isAsked_2 (by decide) rfl h (fun h => ?_) (fun h => ?_)
  · refine j_iconst (v := 1) C d_H_isAsked_10 rfl (by decide) ?_
    refine j_goto (tgt := 15) C d_H_isAsked_11 (by decide) ?_
    cases h
    exact j_zret C E hr rfl d_H_isAsked_15
  · refine j_iload_n C 1 d_H_isAsked_5 rfl rfl rfl ?_
    refine j_iload_n C 0 d_H_isAsked_6 rfl rfl rfl ?_
    refine j_icmp_ne (tgt := 14) C d_H_isAsked_7 (by decide) rfl h (fun h => ?_) (fun h => ?_)
    · refine j_iconst (v := 0) C d_H_isAsked_14 rfl (by decide) ?_
      cases h
      exact j_zret C E hr rfl d_H_isAsked_15
    · refine j_iconst (v := 1) C d_H_isAsked_10 rfl (by decide) ?_
      refine j_goto (tgt := 15) C d_H_isAsked_11 (by decide) ?_
      cases h
      exact j_zret C E hr rfl d_H_isAsked_15
theorem ct_H_isAsked (l : Launch) (D : va_G) (tys : List (ClassId × FieldType)) {w : va_W} (a0 : Int32) (a1 : Int32) {r : Int32} (h : m_H_isAsked a0 a1 = some r) : jM l y_H_isAsked ws_H_isAsked rm_H_isAsked D tys [.int a0, .int a1] (w) (some (.int r)) (w) :=
  j_of (by decide +kernel) rfl (Nat.le_of_ble_eq_true rfl) rfl (fun x _ _ _ hR C hr _ E => w_H_isAsked C hR a0 a1 hr E h)
def rm_JI_bitCount : Room := { frames := 0, cells := 0, slots := 0, locals := 0 }
def m_JI_bitCount (a0 : Int32) : Option (Int32) :=
  some ((((((((a0 - ((((a0).toUInt32 >>> (((1 : Int32)).toUInt32 &&& Int32.toUInt32 31)).toInt32) &&& (1431655765 : Int32))) &&& (858993459 : Int32)) + (((((a0 - ((((a0).toUInt32 >>> (((1 : Int32)).toUInt32 &&& Int32.toUInt32 31)).toInt32) &&& (1431655765 : Int32)))).toUInt32 >>> (((2 : Int32)).toUInt32 &&& Int32.toUInt32 31)).toInt32) &&& (858993459 : Int32))) + ((((((a0 - ((((a0).toUInt32 >>> (((1 : Int32)).toUInt32 &&& Int32.toUInt32 31)).toInt32) &&& (1431655765 : Int32))) &&& (858993459 : Int32)) + (((((a0 - ((((a0).toUInt32 >>> (((1 : Int32)).toUInt32 &&& Int32.toUInt32 31)).toInt32) &&& (1431655765 : Int32)))).toUInt32 >>> (((2 : Int32)).toUInt32 &&& Int32.toUInt32 31)).toInt32) &&& (858993459 : Int32)))).toUInt32 >>> (((4 : Int32)).toUInt32 &&& Int32.toUInt32 31)).toInt32)) &&& (252645135 : Int32)) + ((((((((a0 - ((((a0).toUInt32 >>> (((1 : Int32)).toUInt32 &&& Int32.toUInt32 31)).toInt32) &&& (1431655765 : Int32))) &&& (858993459 : Int32)) + (((((a0 - ((((a0).toUInt32 >>> (((1 : Int32)).toUInt32 &&& Int32.toUInt32 31)).toInt32) &&& (1431655765 : Int32)))).toUInt32 >>> (((2 : Int32)).toUInt32 &&& Int32.toUInt32 31)).toInt32) &&& (858993459 : Int32))) + ((((((a0 - ((((a0).toUInt32 >>> (((1 : Int32)).toUInt32 &&& Int32.toUInt32 31)).toInt32) &&& (1431655765 : Int32))) &&& (858993459 : Int32)) + (((((a0 - ((((a0).toUInt32 >>> (((1 : Int32)).toUInt32 &&& Int32.toUInt32 31)).toInt32) &&& (1431655765 : Int32)))).toUInt32 >>> (((2 : Int32)).toUInt32 &&& Int32.toUInt32 31)).toInt32) &&& (858993459 : Int32)))).toUInt32 >>> (((4 : Int32)).toUInt32 &&& Int32.toUInt32 31)).toInt32)) &&& (252645135 : Int32))).toUInt32 >>> (((8 : Int32)).toUInt32 &&& Int32.toUInt32 31)).toInt32)) + (((((((((a0 - ((((a0).toUInt32 >>> (((1 : Int32)).toUInt32 &&& Int32.toUInt32 31)).toInt32) &&& (1431655765 : Int32))) &&& (858993459 : Int32)) + (((((a0 - ((((a0).toUInt32 >>> (((1 : Int32)).toUInt32 &&& Int32.toUInt32 31)).toInt32) &&& (1431655765 : Int32)))).toUInt32 >>> (((2 : Int32)).toUInt32 &&& Int32.toUInt32 31)).toInt32) &&& (858993459 : Int32))) + ((((((a0 - ((((a0).toUInt32 >>> (((1 : Int32)).toUInt32 &&& Int32.toUInt32 31)).toInt32) &&& (1431655765 : Int32))) &&& (858993459 : Int32)) + (((((a0 - ((((a0).toUInt32 >>> (((1 : Int32)).toUInt32 &&& Int32.toUInt32 31)).toInt32) &&& (1431655765 : Int32)))).toUInt32 >>> (((2 : Int32)).toUInt32 &&& Int32.toUInt32 31)).toInt32) &&& (858993459 : Int32)))).toUInt32 >>> (((4 : Int32)).toUInt32 &&& Int32.toUInt32 31)).toInt32)) &&& (252645135 : Int32)) + ((((((((a0 - ((((a0).toUInt32 >>> (((1 : Int32)).toUInt32 &&& Int32.toUInt32 31)).toInt32) &&& (1431655765 : Int32))) &&& (858993459 : Int32)) + (((((a0 - ((((a0).toUInt32 >>> (((1 : Int32)).toUInt32 &&& Int32.toUInt32 31)).toInt32) &&& (1431655765 : Int32)))).toUInt32 >>> (((2 : Int32)).toUInt32 &&& Int32.toUInt32 31)).toInt32) &&& (858993459 : Int32))) + ((((((a0 - ((((a0).toUInt32 >>> (((1 : Int32)).toUInt32 &&& Int32.toUInt32 31)).toInt32) &&& (1431655765 : Int32))) &&& (858993459 : Int32)) + (((((a0 - ((((a0).toUInt32 >>> (((1 : Int32)).toUInt32 &&& Int32.toUInt32 31)).toInt32) &&& (1431655765 : Int32)))).toUInt32 >>> (((2 : Int32)).toUInt32 &&& Int32.toUInt32 31)).toInt32) &&& (858993459 : Int32)))).toUInt32 >>> (((4 : Int32)).toUInt32 &&& Int32.toUInt32 31)).toInt32)) &&& (252645135 : Int32))).toUInt32 >>> (((8 : Int32)).toUInt32 &&& Int32.toUInt32 31)).toInt32))).toUInt32 >>> (((16 : Int32)).toUInt32 &&& Int32.toUInt32 31)).toInt32)) &&& (63 : Int32))
set_option maxHeartbeats 4000000 in
set_option maxRecDepth 100000 in
theorem w_JI_bitCount {x : JX} {w : va_W} (C : jC x cc_JI_bitCount 1 "java/lang/Integer") (hR : jR x = rm_JI_bitCount)  (a0 : Int32) {r : Int32} (hr : (jt x).sig.returnType = some .int) (E : jE x 0 0 (some (.int r)) (w)) (h : m_JI_bitCount a0 = some r) : jW x 1 0 0 0 [(0, .int a0)] [] (w) := by
  unfold m_JI_bitCount at h
  refine j_iload_n C 0 d_JI_bitCount_0 rfl rfl rfl ?_
  refine j_iload_n C 0 d_JI_bitCount_1 rfl rfl rfl ?_
  refine j_iconst (v := 1) C d_JI_bitCount_2 rfl (by decide) ?_
  refine j_iushr C d_JI_bitCount_3 rfl ?_
  refine j_ldc_w (v := 1431655765) C d_JI_bitCount_4 rfl tw_433 ?_
  refine j_iand C d_JI_bitCount_7 rfl ?_
  refine j_isub C d_JI_bitCount_8 rfl ?_
  refine j_istore_n (lv' := [(0, .int (a0 - ((((a0).toUInt32 >>> (((1 : Int32)).toUInt32 &&& Int32.toUInt32 31)).toInt32) &&& (1431655765 : Int32))))]) C d_JI_bitCount_9 rfl rfl (by decide) rfl ?_
  refine j_iload_n C 0 d_JI_bitCount_10 rfl rfl rfl ?_
  refine j_ldc_w (v := 858993459) C d_JI_bitCount_11 rfl tw_434 ?_
  refine j_iand C d_JI_bitCount_14 rfl ?_
  refine j_iload_n C 0 d_JI_bitCount_15 rfl rfl rfl ?_
  refine j_iconst (v := 2) C d_JI_bitCount_16 rfl (by decide) ?_
  refine j_iushr C d_JI_bitCount_17 rfl ?_
  refine j_ldc_w (v := 858993459) C d_JI_bitCount_18 rfl tw_434 ?_
  refine j_iand C d_JI_bitCount_21 rfl ?_
  refine j_iadd C d_JI_bitCount_22 rfl ?_
  refine j_istore_n (lv' := [(0, .int (((a0 - ((((a0).toUInt32 >>> (((1 : Int32)).toUInt32 &&& Int32.toUInt32 31)).toInt32) &&& (1431655765 : Int32))) &&& (858993459 : Int32)) + (((((a0 - ((((a0).toUInt32 >>> (((1 : Int32)).toUInt32 &&& Int32.toUInt32 31)).toInt32) &&& (1431655765 : Int32)))).toUInt32 >>> (((2 : Int32)).toUInt32 &&& Int32.toUInt32 31)).toInt32) &&& (858993459 : Int32))))]) C d_JI_bitCount_23 rfl rfl (by decide) rfl ?_
  refine j_iload_n C 0 d_JI_bitCount_24 rfl rfl rfl ?_
  refine j_iload_n C 0 d_JI_bitCount_25 rfl rfl rfl ?_
  refine j_iconst (v := 4) C d_JI_bitCount_26 rfl (by decide) ?_
  refine j_iushr C d_JI_bitCount_27 rfl ?_
  refine j_iadd C d_JI_bitCount_28 rfl ?_
  refine j_ldc_w (v := 252645135) C d_JI_bitCount_29 rfl tw_435 ?_
  refine j_iand C d_JI_bitCount_32 rfl ?_
  refine j_istore_n (lv' := [(0, .int (((((a0 - ((((a0).toUInt32 >>> (((1 : Int32)).toUInt32 &&& Int32.toUInt32 31)).toInt32) &&& (1431655765 : Int32))) &&& (858993459 : Int32)) + (((((a0 - ((((a0).toUInt32 >>> (((1 : Int32)).toUInt32 &&& Int32.toUInt32 31)).toInt32) &&& (1431655765 : Int32)))).toUInt32 >>> (((2 : Int32)).toUInt32 &&& Int32.toUInt32 31)).toInt32) &&& (858993459 : Int32))) + ((((((a0 - ((((a0).toUInt32 >>> (((1 : Int32)).toUInt32 &&& Int32.toUInt32 31)).toInt32) &&& (1431655765 : Int32))) &&& (858993459 : Int32)) + (((((a0 - ((((a0).toUInt32 >>> (((1 : Int32)).toUInt32 &&& Int32.toUInt32 31)).toInt32) &&& (1431655765 : Int32)))).toUInt32 >>> (((2 : Int32)).toUInt32 &&& Int32.toUInt32 31)).toInt32) &&& (858993459 : Int32)))).toUInt32 >>> (((4 : Int32)).toUInt32 &&& Int32.toUInt32 31)).toInt32)) &&& (252645135 : Int32)))]) C d_JI_bitCount_33 rfl rfl (by decide) rfl ?_
  refine j_iload_n C 0 d_JI_bitCount_34 rfl rfl rfl ?_
  refine j_iload_n C 0 d_JI_bitCount_35 rfl rfl rfl ?_
  refine j_bipush (v := 8) C d_JI_bitCount_36 rfl (by decide) ?_
  refine j_iushr C d_JI_bitCount_38 rfl ?_
  refine j_iadd C d_JI_bitCount_39 rfl ?_
  refine j_istore_n (lv' := [(0, .int ((((((a0 - ((((a0).toUInt32 >>> (((1 : Int32)).toUInt32 &&& Int32.toUInt32 31)).toInt32) &&& (1431655765 : Int32))) &&& (858993459 : Int32)) + (((((a0 - ((((a0).toUInt32 >>> (((1 : Int32)).toUInt32 &&& Int32.toUInt32 31)).toInt32) &&& (1431655765 : Int32)))).toUInt32 >>> (((2 : Int32)).toUInt32 &&& Int32.toUInt32 31)).toInt32) &&& (858993459 : Int32))) + ((((((a0 - ((((a0).toUInt32 >>> (((1 : Int32)).toUInt32 &&& Int32.toUInt32 31)).toInt32) &&& (1431655765 : Int32))) &&& (858993459 : Int32)) + (((((a0 - ((((a0).toUInt32 >>> (((1 : Int32)).toUInt32 &&& Int32.toUInt32 31)).toInt32) &&& (1431655765 : Int32)))).toUInt32 >>> (((2 : Int32)).toUInt32 &&& Int32.toUInt32 31)).toInt32) &&& (858993459 : Int32)))).toUInt32 >>> (((4 : Int32)).toUInt32 &&& Int32.toUInt32 31)).toInt32)) &&& (252645135 : Int32)) + ((((((((a0 - ((((a0).toUInt32 >>> (((1 : Int32)).toUInt32 &&& Int32.toUInt32 31)).toInt32) &&& (1431655765 : Int32))) &&& (858993459 : Int32)) + (((((a0 - ((((a0).toUInt32 >>> (((1 : Int32)).toUInt32 &&& Int32.toUInt32 31)).toInt32) &&& (1431655765 : Int32)))).toUInt32 >>> (((2 : Int32)).toUInt32 &&& Int32.toUInt32 31)).toInt32) &&& (858993459 : Int32))) + ((((((a0 - ((((a0).toUInt32 >>> (((1 : Int32)).toUInt32 &&& Int32.toUInt32 31)).toInt32) &&& (1431655765 : Int32))) &&& (858993459 : Int32)) + (((((a0 - ((((a0).toUInt32 >>> (((1 : Int32)).toUInt32 &&& Int32.toUInt32 31)).toInt32) &&& (1431655765 : Int32)))).toUInt32 >>> (((2 : Int32)).toUInt32 &&& Int32.toUInt32 31)).toInt32) &&& (858993459 : Int32)))).toUInt32 >>> (((4 : Int32)).toUInt32 &&& Int32.toUInt32 31)).toInt32)) &&& (252645135 : Int32))).toUInt32 >>> (((8 : Int32)).toUInt32 &&& Int32.toUInt32 31)).toInt32)))]) C d_JI_bitCount_40 rfl rfl (by decide) rfl ?_
  refine j_iload_n C 0 d_JI_bitCount_41 rfl rfl rfl ?_
  refine j_iload_n C 0 d_JI_bitCount_42 rfl rfl rfl ?_
  refine j_bipush (v := 16) C d_JI_bitCount_43 rfl (by decide) ?_
  refine j_iushr C d_JI_bitCount_45 rfl ?_
  refine j_iadd C d_JI_bitCount_46 rfl ?_
  refine j_istore_n (lv' := [(0, .int (((((((a0 - ((((a0).toUInt32 >>> (((1 : Int32)).toUInt32 &&& Int32.toUInt32 31)).toInt32) &&& (1431655765 : Int32))) &&& (858993459 : Int32)) + (((((a0 - ((((a0).toUInt32 >>> (((1 : Int32)).toUInt32 &&& Int32.toUInt32 31)).toInt32) &&& (1431655765 : Int32)))).toUInt32 >>> (((2 : Int32)).toUInt32 &&& Int32.toUInt32 31)).toInt32) &&& (858993459 : Int32))) + ((((((a0 - ((((a0).toUInt32 >>> (((1 : Int32)).toUInt32 &&& Int32.toUInt32 31)).toInt32) &&& (1431655765 : Int32))) &&& (858993459 : Int32)) + (((((a0 - ((((a0).toUInt32 >>> (((1 : Int32)).toUInt32 &&& Int32.toUInt32 31)).toInt32) &&& (1431655765 : Int32)))).toUInt32 >>> (((2 : Int32)).toUInt32 &&& Int32.toUInt32 31)).toInt32) &&& (858993459 : Int32)))).toUInt32 >>> (((4 : Int32)).toUInt32 &&& Int32.toUInt32 31)).toInt32)) &&& (252645135 : Int32)) + ((((((((a0 - ((((a0).toUInt32 >>> (((1 : Int32)).toUInt32 &&& Int32.toUInt32 31)).toInt32) &&& (1431655765 : Int32))) &&& (858993459 : Int32)) + (((((a0 - ((((a0).toUInt32 >>> (((1 : Int32)).toUInt32 &&& Int32.toUInt32 31)).toInt32) &&& (1431655765 : Int32)))).toUInt32 >>> (((2 : Int32)).toUInt32 &&& Int32.toUInt32 31)).toInt32) &&& (858993459 : Int32))) + ((((((a0 - ((((a0).toUInt32 >>> (((1 : Int32)).toUInt32 &&& Int32.toUInt32 31)).toInt32) &&& (1431655765 : Int32))) &&& (858993459 : Int32)) + (((((a0 - ((((a0).toUInt32 >>> (((1 : Int32)).toUInt32 &&& Int32.toUInt32 31)).toInt32) &&& (1431655765 : Int32)))).toUInt32 >>> (((2 : Int32)).toUInt32 &&& Int32.toUInt32 31)).toInt32) &&& (858993459 : Int32)))).toUInt32 >>> (((4 : Int32)).toUInt32 &&& Int32.toUInt32 31)).toInt32)) &&& (252645135 : Int32))).toUInt32 >>> (((8 : Int32)).toUInt32 &&& Int32.toUInt32 31)).toInt32)) + (((((((((a0 - ((((a0).toUInt32 >>> (((1 : Int32)).toUInt32 &&& Int32.toUInt32 31)).toInt32) &&& (1431655765 : Int32))) &&& (858993459 : Int32)) + (((((a0 - ((((a0).toUInt32 >>> (((1 : Int32)).toUInt32 &&& Int32.toUInt32 31)).toInt32) &&& (1431655765 : Int32)))).toUInt32 >>> (((2 : Int32)).toUInt32 &&& Int32.toUInt32 31)).toInt32) &&& (858993459 : Int32))) + ((((((a0 - ((((a0).toUInt32 >>> (((1 : Int32)).toUInt32 &&& Int32.toUInt32 31)).toInt32) &&& (1431655765 : Int32))) &&& (858993459 : Int32)) + (((((a0 - ((((a0).toUInt32 >>> (((1 : Int32)).toUInt32 &&& Int32.toUInt32 31)).toInt32) &&& (1431655765 : Int32)))).toUInt32 >>> (((2 : Int32)).toUInt32 &&& Int32.toUInt32 31)).toInt32) &&& (858993459 : Int32)))).toUInt32 >>> (((4 : Int32)).toUInt32 &&& Int32.toUInt32 31)).toInt32)) &&& (252645135 : Int32)) + ((((((((a0 - ((((a0).toUInt32 >>> (((1 : Int32)).toUInt32 &&& Int32.toUInt32 31)).toInt32) &&& (1431655765 : Int32))) &&& (858993459 : Int32)) + (((((a0 - ((((a0).toUInt32 >>> (((1 : Int32)).toUInt32 &&& Int32.toUInt32 31)).toInt32) &&& (1431655765 : Int32)))).toUInt32 >>> (((2 : Int32)).toUInt32 &&& Int32.toUInt32 31)).toInt32) &&& (858993459 : Int32))) + ((((((a0 - ((((a0).toUInt32 >>> (((1 : Int32)).toUInt32 &&& Int32.toUInt32 31)).toInt32) &&& (1431655765 : Int32))) &&& (858993459 : Int32)) + (((((a0 - ((((a0).toUInt32 >>> (((1 : Int32)).toUInt32 &&& Int32.toUInt32 31)).toInt32) &&& (1431655765 : Int32)))).toUInt32 >>> (((2 : Int32)).toUInt32 &&& Int32.toUInt32 31)).toInt32) &&& (858993459 : Int32)))).toUInt32 >>> (((4 : Int32)).toUInt32 &&& Int32.toUInt32 31)).toInt32)) &&& (252645135 : Int32))).toUInt32 >>> (((8 : Int32)).toUInt32 &&& Int32.toUInt32 31)).toInt32))).toUInt32 >>> (((16 : Int32)).toUInt32 &&& Int32.toUInt32 31)).toInt32)))]) C d_JI_bitCount_47 rfl rfl (by decide) rfl ?_
  refine j_iload_n C 0 d_JI_bitCount_48 rfl rfl rfl ?_
  refine j_bipush (v := 63) C d_JI_bitCount_49 rfl (by decide) ?_
  refine j_iand C d_JI_bitCount_51 rfl ?_
  cases h
  exact j_iret C E hr d_JI_bitCount_52
theorem ct_JI_bitCount (l : Launch) (D : va_G) (tys : List (ClassId × FieldType)) {w : va_W} (a0 : Int32) {r : Int32} (h : m_JI_bitCount a0 = some r) : jM l y_JI_bitCount ws_JI_bitCount rm_JI_bitCount D tys [.int a0] (w) (some (.int r)) (w) :=
  j_of (by decide +kernel) rfl (Nat.le_of_ble_eq_true rfl) rfl (fun x _ _ _ hR C hr _ E => w_JI_bitCount C hR a0 hr E h)
end
section
set_option maxRecDepth 100000 in
theorem tw_4 : Cond.selects "PlainWarehouse$House" (⟨"PlainWarehouse$House", "isPossible", "(III)Z"⟩ : MethodName) (⟨"PlainWarehouse$House", "isPossible", "(III)Z"⟩ : MethodName) ∈ WS := ws_in 4 rfl rfl
set_option maxRecDepth 100000 in
theorem tw_5 : Cond.selects "PlainWarehouse$House" (⟨"PlainWarehouse$House", "isInside", "(I)Z"⟩ : MethodName) (⟨"PlainWarehouse$House", "isInside", "(I)Z"⟩ : MethodName) ∈ WS := ws_in 5 rfl rfl
set_option maxRecDepth 100000 in
theorem tw_6 : Cond.selects "PlainWarehouse$House" (⟨"PlainWarehouse$House", "isOpen", "(I)Z"⟩ : MethodName) (⟨"PlainWarehouse$House", "isOpen", "(I)Z"⟩ : MethodName) ∈ WS := ws_in 6 rfl rfl
set_option maxRecDepth 100000 in
theorem tw_7 : Cond.selects "PlainWarehouse$House" (⟨"PlainWarehouse$House", "isTold", "(I)Z"⟩ : MethodName) (⟨"PlainWarehouse$House", "isTold", "(I)Z"⟩ : MethodName) ∈ WS := ws_in 7 rfl rfl
set_option maxRecDepth 100000 in
theorem tw_8 : Cond.selects "PlainWarehouse$House" (⟨"PlainWarehouse$House", "isFree", "(I)Z"⟩ : MethodName) (⟨"PlainWarehouse$House", "isFree", "(I)Z"⟩ : MethodName) ∈ WS := ws_in 8 rfl rfl
set_option maxRecDepth 100000 in
theorem tw_9 : Cond.selects "PlainWarehouse$House" (⟨"PlainWarehouse$House", "happen", "(IIII)V"⟩ : MethodName) (⟨"PlainWarehouse$House", "happen", "(IIII)V"⟩ : MethodName) ∈ WS := ws_in 9 rfl rfl
set_option maxRecDepth 100000 in
theorem tw_10 : Cond.selects "PlainWarehouse$House" (⟨"PlainWarehouse$House", "come", "(III)V"⟩ : MethodName) (⟨"PlainWarehouse$House", "come", "(III)V"⟩ : MethodName) ∈ WS := ws_in 10 rfl rfl
set_option maxRecDepth 100000 in
theorem tw_11 : Cond.selects "PlainWarehouse$House" (⟨"PlainWarehouse$House", "leave", "(I)V"⟩ : MethodName) (⟨"PlainWarehouse$House", "leave", "(I)V"⟩ : MethodName) ∈ WS := ws_in 11 rfl rfl
set_option maxRecDepth 100000 in
theorem tw_15 : Cond.selects "PlainWarehouse$House" (⟨"PlainWarehouse$House", "isFull", "(I)Z"⟩ : MethodName) (⟨"PlainWarehouse$House", "isFull", "(I)Z"⟩ : MethodName) ∈ WS := ws_in 15 rfl rfl
set_option maxRecDepth 100000 in
theorem tw_77 : Cond.fieldLink "PlainWarehouse$House" (9 : Nat) "PlainWarehouse$House" "placeOf" "[I" ∈ WS := ws_in 77 rfl rfl
set_option maxRecDepth 100000 in
theorem tw_79 : Cond.fieldLink "PlainWarehouse$House" (15 : Nat) "PlainWarehouse$House" "goodOf" "[I" ∈ WS := ws_in 79 rfl rfl
set_option maxRecDepth 100000 in
theorem tw_80 : Cond.fieldLink "PlainWarehouse$House" (18 : Nat) "PlainWarehouse$House" "givenTo" "[I" ∈ WS := ws_in 80 rfl rfl
set_option maxRecDepth 100000 in
theorem tw_81 : Cond.fieldLink "PlainWarehouse$House" (21 : Nat) "PlainWarehouse$House" "wanted" "[I" ∈ WS := ws_in 81 rfl rfl
set_option maxRecDepth 100000 in
theorem tw_83 : Cond.fieldLink "PlainWarehouse$House" (24 : Nat) "PlainWarehouse$House" "goodWanted" "[I" ∈ WS := ws_in 83 rfl rfl
set_option maxRecDepth 100000 in
theorem tw_86 : Cond.fieldLink "PlainWarehouse$House" (27 : Nat) "PlainWarehouse$House" "got" "[I" ∈ WS := ws_in 86 rfl rfl
set_option maxRecDepth 100000 in
theorem tw_89 : Cond.fieldLink "PlainWarehouse$House" (30 : Nat) "PlainWarehouse$House" "cents" "[I" ∈ WS := ws_in 89 rfl rfl
set_option maxRecDepth 100000 in
theorem tw_91 : Cond.fieldLink "PlainWarehouse$House" (33 : Nat) "PlainWarehouse$House" "link" "[I" ∈ WS := ws_in 91 rfl rfl
set_option maxRecDepth 100000 in
theorem tw_174 : Cond.methodLink "PlainWarehouse$House" (36 : Nat) ({ cls := "java/util/Arrays", name := "fill", desc := "([II)V" } : MethodName) ∈ WS := ws_in 174 rfl rfl
set_option maxRecDepth 100000 in
theorem tw_175 : Cond.static ({ cls := "java/util/Arrays", name := "fill", desc := "([II)V" } : MethodName) ∈ WS := ws_in 175 rfl rfl
set_option maxRecDepth 100000 in
theorem tw_185 : Cond.methodLink "PlainWarehouse$House" (42 : Nat) ({ cls := "PlainWarehouse$House", name := "isPossible", desc := "(III)Z" } : MethodName) ∈ WS := ws_in 185 rfl rfl
set_option maxRecDepth 100000 in
theorem tw_187 : Cond.instanceMethod ({ cls := "PlainWarehouse$House", name := "isPossible", desc := "(III)Z" } : MethodName) ∈ WS := ws_in 187 rfl rfl
set_option maxRecDepth 100000 in
theorem tw_189 : Cond.methodLink "PlainWarehouse$House" (50 : Nat) ({ cls := "PlainWarehouse$House", name := "isInside", desc := "(I)Z" } : MethodName) ∈ WS := ws_in 189 rfl rfl
set_option maxRecDepth 100000 in
theorem tw_191 : Cond.instanceMethod ({ cls := "PlainWarehouse$House", name := "isInside", desc := "(I)Z" } : MethodName) ∈ WS := ws_in 191 rfl rfl
set_option maxRecDepth 100000 in
theorem tw_193 : Cond.methodLink "PlainWarehouse$House" (54 : Nat) ({ cls := "PlainWarehouse$House", name := "isOpen", desc := "(I)Z" } : MethodName) ∈ WS := ws_in 193 rfl rfl
set_option maxRecDepth 100000 in
theorem tw_195 : Cond.instanceMethod ({ cls := "PlainWarehouse$House", name := "isOpen", desc := "(I)Z" } : MethodName) ∈ WS := ws_in 195 rfl rfl
set_option maxRecDepth 100000 in
theorem tw_197 : Cond.methodLink "PlainWarehouse$House" (57 : Nat) ({ cls := "PlainWarehouse$House", name := "isTold", desc := "(I)Z" } : MethodName) ∈ WS := ws_in 197 rfl rfl
set_option maxRecDepth 100000 in
theorem tw_199 : Cond.instanceMethod ({ cls := "PlainWarehouse$House", name := "isTold", desc := "(I)Z" } : MethodName) ∈ WS := ws_in 199 rfl rfl
set_option maxRecDepth 100000 in
theorem tw_201 : Cond.methodLink "PlainWarehouse$House" (60 : Nat) ({ cls := "PlainWarehouse$House", name := "isFree", desc := "(I)Z" } : MethodName) ∈ WS := ws_in 201 rfl rfl
set_option maxRecDepth 100000 in
theorem tw_203 : Cond.instanceMethod ({ cls := "PlainWarehouse$House", name := "isFree", desc := "(I)Z" } : MethodName) ∈ WS := ws_in 203 rfl rfl
set_option maxRecDepth 100000 in
theorem tw_205 : Cond.methodLink "PlainWarehouse$House" (46 : Nat) ({ cls := "PlainWarehouse$House", name := "happen", desc := "(IIII)V" } : MethodName) ∈ WS := ws_in 205 rfl rfl
set_option maxRecDepth 100000 in
theorem tw_207 : Cond.instanceMethod ({ cls := "PlainWarehouse$House", name := "happen", desc := "(IIII)V" } : MethodName) ∈ WS := ws_in 207 rfl rfl
set_option maxRecDepth 100000 in
theorem tw_209 : Cond.methodLink "PlainWarehouse$House" (63 : Nat) ({ cls := "PlainWarehouse$House", name := "come", desc := "(III)V" } : MethodName) ∈ WS := ws_in 209 rfl rfl
set_option maxRecDepth 100000 in
theorem tw_211 : Cond.instanceMethod ({ cls := "PlainWarehouse$House", name := "come", desc := "(III)V" } : MethodName) ∈ WS := ws_in 211 rfl rfl
set_option maxRecDepth 100000 in
theorem tw_213 : Cond.methodLink "PlainWarehouse$House" (67 : Nat) ({ cls := "PlainWarehouse$House", name := "leave", desc := "(I)V" } : MethodName) ∈ WS := ws_in 213 rfl rfl
set_option maxRecDepth 100000 in
theorem tw_215 : Cond.instanceMethod ({ cls := "PlainWarehouse$House", name := "leave", desc := "(I)V" } : MethodName) ∈ WS := ws_in 215 rfl rfl
set_option maxRecDepth 100000 in
theorem tw_217 : Cond.methodLinkNest "PlainWarehouse$House" (71 : Nat) ({ cls := "PlainWarehouse", name := "pair", desc := "(II)I" } : MethodName) "PlainWarehouse" ∈ NWS := nws_in 217 rfl rfl
set_option maxRecDepth 100000 in
theorem tw_218 : Cond.static ({ cls := "PlainWarehouse", name := "pair", desc := "(II)I" } : MethodName) ∈ WS := ws_in 218 rfl rfl
set_option maxRecDepth 100000 in
theorem tw_224 : Cond.methodLink "PlainWarehouse$House" (75 : Nat) ({ cls := "PlainWarehouse$House", name := "isAsked", desc := "(II)Z" } : MethodName) ∈ WS := ws_in 224 rfl rfl
set_option maxRecDepth 100000 in
theorem tw_225 : Cond.static ({ cls := "PlainWarehouse$House", name := "isAsked", desc := "(II)Z" } : MethodName) ∈ WS := ws_in 225 rfl rfl
set_option maxRecDepth 100000 in
theorem tw_235 : Cond.methodLink "PlainWarehouse$House" (79 : Nat) ({ cls := "PlainWarehouse$House", name := "isFull", desc := "(I)Z" } : MethodName) ∈ WS := ws_in 235 rfl rfl
set_option maxRecDepth 100000 in
theorem tw_237 : Cond.instanceMethod ({ cls := "PlainWarehouse$House", name := "isFull", desc := "(I)Z" } : MethodName) ∈ WS := ws_in 237 rfl rfl
def rm_H_isInside : Room := { frames := 0, cells := 0, slots := 0, locals := 0 }
def m_H_isInside (a1 : Int32) (σ : SP) : Option (Int32) :=
  (mrd 20 (g_pl σ) a1 fun r1 => (if r1 = (-1 : Int32) then some (0 : Int32) else some (1 : Int32)))
set_option maxHeartbeats 4000000 in
set_option maxRecDepth 100000 in
theorem w_H_isInside {x : JX} {ad : Nat → Nat} {cA : ClassId} {wr : va_W} (C : jC x cc_H_isInside 2 "PlainWarehouse$House") (hT : (jT x)[0]? = some (cA, .int)) (hR : jR x = rm_H_isInside)  (a1 : Int32) (σ : SP) {r : Int32} (hr : (jt x).sig.returnType = some .boolean) (E : jE x 0 0 (some (.int r)) ((wP ad cA σ) ++ wr)) (h : m_H_isInside a1 σ = some r) : jW x 2 0 0 0 [(0, .ref (ad 2)), (1, .int a1)] [] ((wP ad cA σ) ++ wr) := by
  unfold m_H_isInside at h
  refine j_aload_n C 0 d_H_isInside_0 rfl rfl rfl ?_
  refine j_get C in_H 2 rfl rfl 0 (by decide) tw_77 rfl (v := .ref (ad 3)) rfl d_H_isInside_1 rfl ?_
  refine j_iload_n C 1 d_H_isInside_4 rfl rfl rfl ?_
  refine j_iald C 3 0 rfl hT d_H_isInside_5 rfl h (fun r1 h => ?_)
  refine j_iconst (v := (-1)) C d_H_isInside_6 rfl (by decide) ?_
  refine j_icmp_eq (tgt := 14) C d_H_isInside_7 (by decide) rfl h (fun h => ?_) (fun h => ?_)
  · refine j_iconst (v := 0) C d_H_isInside_14 rfl (by decide) ?_
    cases h
    exact j_zret C E hr rfl d_H_isInside_15
  · refine j_iconst (v := 1) C d_H_isInside_10 rfl (by decide) ?_
    refine j_goto (tgt := 15) C d_H_isInside_11 (by decide) ?_
    cases h
    exact j_zret C E hr rfl d_H_isInside_15
theorem ct_H_isInside (l : Launch) (D : va_G) (tys : List (ClassId × FieldType)) {ad : Nat → Nat} {cA : ClassId} {wr : va_W} (hT : tys[0]? = some (cA, .int)) (a1 : Int32) (σ : SP) {r : Int32} (h : m_H_isInside a1 σ = some r) : jM l y_H_isInside ws_H_isInside rm_H_isInside D tys [.ref (ad 2), .int a1] ((wP ad cA σ) ++ wr) (some (.int r)) ((wP ad cA σ) ++ wr) :=
  j_of (by decide +kernel) rfl (Nat.le_of_ble_eq_true rfl) rfl (fun x _ _ hT' hR C hr _ E => w_H_isInside C (by rw [hT']; exact hT) hR a1 σ hr E h)
def rm_H_isTold : Room := { frames := 0, cells := 0, slots := 0, locals := 0 }
def m_H_isTold (a1 : Int32) (σ : SP) : Option (Int32) :=
  (if a1 < 0 then some (0 : Int32) else (if (10 : Int32) ≤ a1 then some (0 : Int32) else (mrd 10 (g_wa σ) a1 fun r1 => (if r1 ≤ 0 then some (0 : Int32) else some (1 : Int32)))))
set_option maxHeartbeats 4000000 in
set_option maxRecDepth 100000 in
theorem w_H_isTold {x : JX} {ad : Nat → Nat} {cA : ClassId} {wr : va_W} (C : jC x cc_H_isTold 2 "PlainWarehouse$House") (hT : (jT x)[0]? = some (cA, .int)) (hR : jR x = rm_H_isTold)  (a1 : Int32) (σ : SP) {r : Int32} (hr : (jt x).sig.returnType = some .boolean) (E : jE x 0 0 (some (.int r)) ((wP ad cA σ) ++ wr)) (h : m_H_isTold a1 σ = some r) : jW x 2 0 0 0 [(0, .ref (ad 2)), (1, .int a1)] [] ((wP ad cA σ) ++ wr) := by
  unfold m_H_isTold at h
  refine j_iload_n C 1 d_H_isTold_0 rfl rfl rfl ?_
  refine j_if_lt (tgt := 23) C d_H_isTold_1 (by decide) rfl h (fun h => ?_) (fun h => ?_)
  · refine j_iconst (v := 0) C d_H_isTold_23 rfl (by decide) ?_
    cases h
    exact j_zret C E hr rfl d_H_isTold_24
  · refine j_iload_n C 1 d_H_isTold_4 rfl rfl rfl ?_
    refine j_bipush (v := 10) C d_H_isTold_5 rfl (by decide) ?_
    refine j_icmp_ge (tgt := 23) C d_H_isTold_7 (by decide) rfl h (fun h => ?_) (fun h => ?_)
    · refine j_iconst (v := 0) C d_H_isTold_23 rfl (by decide) ?_
      cases h
      exact j_zret C E hr rfl d_H_isTold_24
    · refine j_aload_n C 0 d_H_isTold_10 rfl rfl rfl ?_
      refine j_get C in_H 2 rfl rfl 3 (by decide) tw_81 rfl (v := .ref (ad 6)) rfl d_H_isTold_11 rfl ?_
      refine j_iload_n C 1 d_H_isTold_14 rfl rfl rfl ?_
      refine j_iald C 6 0 rfl hT d_H_isTold_15 rfl h (fun r1 h => ?_)
      refine j_if_le (tgt := 23) C d_H_isTold_16 (by decide) rfl h (fun h => ?_) (fun h => ?_)
      · refine j_iconst (v := 0) C d_H_isTold_23 rfl (by decide) ?_
        cases h
        exact j_zret C E hr rfl d_H_isTold_24
      · refine j_iconst (v := 1) C d_H_isTold_19 rfl (by decide) ?_
        refine j_goto (tgt := 24) C d_H_isTold_20 (by decide) ?_
        cases h
        exact j_zret C E hr rfl d_H_isTold_24
theorem ct_H_isTold (l : Launch) (D : va_G) (tys : List (ClassId × FieldType)) {ad : Nat → Nat} {cA : ClassId} {wr : va_W} (hT : tys[0]? = some (cA, .int)) (a1 : Int32) (σ : SP) {r : Int32} (h : m_H_isTold a1 σ = some r) : jM l y_H_isTold ws_H_isTold rm_H_isTold D tys [.ref (ad 2), .int a1] ((wP ad cA σ) ++ wr) (some (.int r)) ((wP ad cA σ) ++ wr) :=
  j_of (by decide +kernel) rfl (Nat.le_of_ble_eq_true rfl) rfl (fun x _ _ hT' hR C hr _ E => w_H_isTold C (by rw [hT']; exact hT) hR a1 σ hr E h)
def rm_H_isFree : Room := { frames := 1, cells := 0, slots := 0, locals := 21 }
def m_H_isFree (a1 : Int32) (σ : SP) : Option (Int32) :=
  (mb1 (m_H_isInside a1 σ) fun r1 => (if r1 = 0 then some (0 : Int32) else (mrd 20 (g_gv σ) a1 fun r3 => (if r3 = (-1 : Int32) then some (1 : Int32) else some (0 : Int32)))))
set_option maxHeartbeats 4000000 in
set_option maxRecDepth 100000 in
theorem w_H_isFree {x : JX} {ad : Nat → Nat} {cA : ClassId} {wr : va_W} (C : jC x cc_H_isFree 2 "PlainWarehouse$House") (hT : (jT x)[0]? = some (cA, .int)) (hR : jR x = rm_H_isFree)  (a1 : Int32) (σ : SP) {r : Int32} (hr : (jt x).sig.returnType = some .boolean) (E : jE x 0 0 (some (.int r)) ((wP ad cA σ) ++ wr)) (h : m_H_isFree a1 σ = some r) : jW x 2 0 0 0 [(0, .ref (ad 2)), (1, .int a1)] [] ((wP ad cA σ) ++ wr) := by
  unfold m_H_isFree at h
  refine j_aload_n C 0 d_H_isFree_0 rfl rfl rfl ?_
  refine j_iload_n C 1 d_H_isFree_1 rfl rfl rfl ?_
  obtain ⟨r1, h2, h⟩ := mb1_some h
  refine j_callV C hR (As := [.int a1]) (ct_H_isInside (jl x) (jD x) (jT x) hT a1 σ h2) kf_H_isInside (by decide) tw_189 tw_191 tw_5 2 rfl rfl (rest := []) rfl rfl (Nat.le_of_ble_eq_true rfl) (by decide) ⟨rfl, rfl⟩ d_H_isFree_2 rfl (st1 := [.int r1]) rfl ?_
  refine j_if_eq (tgt := 22) C d_H_isFree_5 (by decide) rfl h (fun h => ?_) (fun h => ?_)
  · refine j_iconst (v := 0) C d_H_isFree_22 rfl (by decide) ?_
    cases h
    exact j_zret C E hr rfl d_H_isFree_23
  · refine j_aload_n C 0 d_H_isFree_8 rfl rfl rfl ?_
    refine j_get C in_H 2 rfl rfl 2 (by decide) tw_80 rfl (v := .ref (ad 5)) rfl d_H_isFree_9 rfl ?_
    refine j_iload_n C 1 d_H_isFree_12 rfl rfl rfl ?_
    refine j_iald C 5 0 rfl hT d_H_isFree_13 rfl h (fun r3 h => ?_)
    refine j_iconst (v := (-1)) C d_H_isFree_14 rfl (by decide) ?_
    refine j_icmp_ne (tgt := 22) C d_H_isFree_15 (by decide) rfl h (fun h => ?_) (fun h => ?_)
    · refine j_iconst (v := 0) C d_H_isFree_22 rfl (by decide) ?_
      cases h
      exact j_zret C E hr rfl d_H_isFree_23
    · refine j_iconst (v := 1) C d_H_isFree_18 rfl (by decide) ?_
      refine j_goto (tgt := 23) C d_H_isFree_19 (by decide) ?_
      cases h
      exact j_zret C E hr rfl d_H_isFree_23
theorem ct_H_isFree (l : Launch) (D : va_G) (tys : List (ClassId × FieldType)) {ad : Nat → Nat} {cA : ClassId} {wr : va_W} (hT : tys[0]? = some (cA, .int)) (a1 : Int32) (σ : SP) {r : Int32} (h : m_H_isFree a1 σ = some r) : jM l y_H_isFree ws_H_isFree rm_H_isFree D tys [.ref (ad 2), .int a1] ((wP ad cA σ) ++ wr) (some (.int r)) ((wP ad cA σ) ++ wr) :=
  j_of (by decide +kernel) rfl (Nat.le_of_ble_eq_true rfl) rfl (fun x _ _ hT' hR C hr _ E => w_H_isFree C (by rw [hT']; exact hT) hR a1 σ hr E h)
def rm_H_isOpen : Room := { frames := 1, cells := 0, slots := 0, locals := 21 }
def m_H_isOpen (a1 : Int32) (σ : SP) : Option (Int32) :=
  (mb1 (m_H_isTold a1 σ) fun r1 => (if r1 = 0 then some (0 : Int32) else (mrd 10 (g_gt σ) a1 fun r3 => (mrd 10 (g_wa σ) a1 fun r4 => (if r4 ≤ r3 then some (0 : Int32) else some (1 : Int32))))))
set_option maxHeartbeats 4000000 in
set_option maxRecDepth 100000 in
theorem w_H_isOpen {x : JX} {ad : Nat → Nat} {cA : ClassId} {wr : va_W} (C : jC x cc_H_isOpen 2 "PlainWarehouse$House") (hT : (jT x)[0]? = some (cA, .int)) (hR : jR x = rm_H_isOpen)  (a1 : Int32) (σ : SP) {r : Int32} (hr : (jt x).sig.returnType = some .boolean) (E : jE x 0 0 (some (.int r)) ((wP ad cA σ) ++ wr)) (h : m_H_isOpen a1 σ = some r) : jW x 2 0 0 0 [(0, .ref (ad 2)), (1, .int a1)] [] ((wP ad cA σ) ++ wr) := by
  unfold m_H_isOpen at h
  refine j_aload_n C 0 d_H_isOpen_0 rfl rfl rfl ?_
  refine j_iload_n C 1 d_H_isOpen_1 rfl rfl rfl ?_
  obtain ⟨r1, h2, h⟩ := mb1_some h
  refine j_callV C hR (As := [.int a1]) (ct_H_isTold (jl x) (jD x) (jT x) hT a1 σ h2) kf_H_isTold (by decide) tw_197 tw_199 tw_7 2 rfl rfl (rest := []) rfl rfl (Nat.le_of_ble_eq_true rfl) (by decide) ⟨rfl, rfl⟩ d_H_isOpen_2 rfl (st1 := [.int r1]) rfl ?_
  refine j_if_eq (tgt := 27) C d_H_isOpen_5 (by decide) rfl h (fun h => ?_) (fun h => ?_)
  · refine j_iconst (v := 0) C d_H_isOpen_27 rfl (by decide) ?_
    cases h
    exact j_zret C E hr rfl d_H_isOpen_28
  · refine j_aload_n C 0 d_H_isOpen_8 rfl rfl rfl ?_
    refine j_get C in_H 2 rfl rfl 5 (by decide) tw_86 rfl (v := .ref (ad 8)) rfl d_H_isOpen_9 rfl ?_
    refine j_iload_n C 1 d_H_isOpen_12 rfl rfl rfl ?_
    refine j_iald C 8 0 rfl hT d_H_isOpen_13 rfl h (fun r3 h => ?_)
    refine j_aload_n C 0 d_H_isOpen_14 rfl rfl rfl ?_
    refine j_get C in_H 2 rfl rfl 3 (by decide) tw_81 rfl (v := .ref (ad 6)) rfl d_H_isOpen_15 rfl ?_
    refine j_iload_n C 1 d_H_isOpen_18 rfl rfl rfl ?_
    refine j_iald C 6 0 rfl hT d_H_isOpen_19 rfl h (fun r4 h => ?_)
    refine j_icmp_ge (tgt := 27) C d_H_isOpen_20 (by decide) rfl h (fun h => ?_) (fun h => ?_)
    · refine j_iconst (v := 0) C d_H_isOpen_27 rfl (by decide) ?_
      cases h
      exact j_zret C E hr rfl d_H_isOpen_28
    · refine j_iconst (v := 1) C d_H_isOpen_23 rfl (by decide) ?_
      refine j_goto (tgt := 28) C d_H_isOpen_24 (by decide) ?_
      cases h
      exact j_zret C E hr rfl d_H_isOpen_28
theorem ct_H_isOpen (l : Launch) (D : va_G) (tys : List (ClassId × FieldType)) {ad : Nat → Nat} {cA : ClassId} {wr : va_W} (hT : tys[0]? = some (cA, .int)) (a1 : Int32) (σ : SP) {r : Int32} (h : m_H_isOpen a1 σ = some r) : jM l y_H_isOpen ws_H_isOpen rm_H_isOpen D tys [.ref (ad 2), .int a1] ((wP ad cA σ) ++ wr) (some (.int r)) ((wP ad cA σ) ++ wr) :=
  j_of (by decide +kernel) rfl (Nat.le_of_ble_eq_true rfl) rfl (fun x _ _ hT' hR C hr _ E => w_H_isOpen C (by rw [hT']; exact hT) hR a1 σ hr E h)
def rm_H_isFull : Room := { frames := 1, cells := 0, slots := 0, locals := 21 }
def m_H_isFull (a1 : Int32) (σ : SP) : Option (Int32) :=
  (mb1 (m_H_isTold a1 σ) fun r1 => (if r1 = 0 then some (0 : Int32) else (mrd 10 (g_gt σ) a1 fun r3 => (mrd 10 (g_wa σ) a1 fun r4 => (if r3 < r4 then some (0 : Int32) else some (1 : Int32))))))
set_option maxHeartbeats 4000000 in
set_option maxRecDepth 100000 in
theorem w_H_isFull {x : JX} {ad : Nat → Nat} {cA : ClassId} {wr : va_W} (C : jC x cc_H_isFull 2 "PlainWarehouse$House") (hT : (jT x)[0]? = some (cA, .int)) (hR : jR x = rm_H_isFull)  (a1 : Int32) (σ : SP) {r : Int32} (hr : (jt x).sig.returnType = some .boolean) (E : jE x 0 0 (some (.int r)) ((wP ad cA σ) ++ wr)) (h : m_H_isFull a1 σ = some r) : jW x 2 0 0 0 [(0, .ref (ad 2)), (1, .int a1)] [] ((wP ad cA σ) ++ wr) := by
  unfold m_H_isFull at h
  refine j_aload_n C 0 d_H_isFull_0 rfl rfl rfl ?_
  refine j_iload_n C 1 d_H_isFull_1 rfl rfl rfl ?_
  obtain ⟨r1, h2, h⟩ := mb1_some h
  refine j_callV C hR (As := [.int a1]) (ct_H_isTold (jl x) (jD x) (jT x) hT a1 σ h2) kf_H_isTold (by decide) tw_197 tw_199 tw_7 2 rfl rfl (rest := []) rfl rfl (Nat.le_of_ble_eq_true rfl) (by decide) ⟨rfl, rfl⟩ d_H_isFull_2 rfl (st1 := [.int r1]) rfl ?_
  refine j_if_eq (tgt := 27) C d_H_isFull_5 (by decide) rfl h (fun h => ?_) (fun h => ?_)
  · refine j_iconst (v := 0) C d_H_isFull_27 rfl (by decide) ?_
    cases h
    exact j_zret C E hr rfl d_H_isFull_28
  · refine j_aload_n C 0 d_H_isFull_8 rfl rfl rfl ?_
    refine j_get C in_H 2 rfl rfl 5 (by decide) tw_86 rfl (v := .ref (ad 8)) rfl d_H_isFull_9 rfl ?_
    refine j_iload_n C 1 d_H_isFull_12 rfl rfl rfl ?_
    refine j_iald C 8 0 rfl hT d_H_isFull_13 rfl h (fun r3 h => ?_)
    refine j_aload_n C 0 d_H_isFull_14 rfl rfl rfl ?_
    refine j_get C in_H 2 rfl rfl 3 (by decide) tw_81 rfl (v := .ref (ad 6)) rfl d_H_isFull_15 rfl ?_
    refine j_iload_n C 1 d_H_isFull_18 rfl rfl rfl ?_
    refine j_iald C 6 0 rfl hT d_H_isFull_19 rfl h (fun r4 h => ?_)
    refine j_icmp_lt (tgt := 27) C d_H_isFull_20 (by decide) rfl h (fun h => ?_) (fun h => ?_)
    · refine j_iconst (v := 0) C d_H_isFull_27 rfl (by decide) ?_
      cases h
      exact j_zret C E hr rfl d_H_isFull_28
    · refine j_iconst (v := 1) C d_H_isFull_23 rfl (by decide) ?_
      refine j_goto (tgt := 28) C d_H_isFull_24 (by decide) ?_
      cases h
      exact j_zret C E hr rfl d_H_isFull_28
theorem ct_H_isFull (l : Launch) (D : va_G) (tys : List (ClassId × FieldType)) {ad : Nat → Nat} {cA : ClassId} {wr : va_W} (hT : tys[0]? = some (cA, .int)) (a1 : Int32) (σ : SP) {r : Int32} (h : m_H_isFull a1 σ = some r) : jM l y_H_isFull ws_H_isFull rm_H_isFull D tys [.ref (ad 2), .int a1] ((wP ad cA σ) ++ wr) (some (.int r)) ((wP ad cA σ) ++ wr) :=
  j_of (by decide +kernel) rfl (Nat.le_of_ble_eq_true rfl) rfl (fun x _ _ hT' hR C hr _ E => w_H_isFull C (by rw [hT']; exact hT) hR a1 σ hr E h)
def rm_H_come : Room := { frames := 0, cells := 0, slots := 0, locals := 0 }
def m_H_come (a1 : Int32) (a2 : Int32) (a3 : Int32) (σ : SP) : Option (SP) :=
  (mck 20 a1 (mlet (u_pl σ (upd (g_pl σ) a1.toNatClampNeg a3)) fun σ1 => (mck 20 a1 (mlet (u_gd σ1 (upd (g_gd σ1) a1.toNatClampNeg a2)) fun σ2 => some σ2))))
set_option maxHeartbeats 4000000 in
set_option maxRecDepth 100000 in
theorem w_H_come {x : JX} {ad : Nat → Nat} {cA : ClassId} {wr : va_W} (C : jC x cc_H_come 4 "PlainWarehouse$House") (hT : (jT x)[0]? = some (cA, .int)) (hR : jR x = rm_H_come)  (a1 : Int32) (a2 : Int32) (a3 : Int32) (σ : SP) {σ' : SP} (hr : (jt x).sig.returnType = none) (E : jE x 0 0 none ((wP ad cA σ') ++ wr)) (h : m_H_come a1 a2 a3 σ = some σ') : jW x 4 0 0 0 [(0, .ref (ad 2)), (1, .int a1), (2, .int a2), (3, .int a3)] [] ((wP ad cA σ) ++ wr) := by
  unfold m_H_come at h
  refine j_aload_n C 0 d_H_come_0 rfl rfl rfl ?_
  refine j_get C in_H 2 rfl rfl 0 (by decide) tw_77 rfl (v := .ref (ad 3)) rfl d_H_come_1 rfl ?_
  refine j_iload_n C 1 d_H_come_4 rfl rfl rfl ?_
  refine j_iload_n C 3 d_H_come_5 rfl rfl rfl ?_
  refine j_iast C (fun t => (wP ad cA t) ++ wr) 3 0 rfl hT d_H_come_6 rfl h rfl (fun σ1 h => ?_)
  refine j_aload_n C 0 d_H_come_7 rfl rfl rfl ?_
  refine j_get C in_H 2 rfl rfl 1 (by decide) tw_79 rfl (v := .ref (ad 4)) rfl d_H_come_8 rfl ?_
  refine j_iload_n C 1 d_H_come_11 rfl rfl rfl ?_
  refine j_iload_n C 2 d_H_come_12 rfl rfl rfl ?_
  refine j_iast C (fun t => (wP ad cA t) ++ wr) 4 0 rfl hT d_H_come_13 rfl h rfl (fun σ2 h => ?_)
  cases h
  exact j_vret C E hr d_H_come_14
theorem ct_H_come (l : Launch) (D : va_G) (tys : List (ClassId × FieldType)) {ad : Nat → Nat} {cA : ClassId} {wr : va_W} (hT : tys[0]? = some (cA, .int)) (a1 : Int32) (a2 : Int32) (a3 : Int32) (σ : SP) {σ' : SP} (h : m_H_come a1 a2 a3 σ = some σ') : jM l y_H_come ws_H_come rm_H_come D tys [.ref (ad 2), .int a1, .int a2, .int a3] ((wP ad cA σ) ++ wr) none ((wP ad cA σ') ++ wr) :=
  j_of (by decide +kernel) rfl (Nat.le_of_ble_eq_true rfl) rfl (fun x _ _ hT' hR C hr _ E => w_H_come C (by rw [hT']; exact hT) hR a1 a2 a3 σ hr E h)
def rm_H_leave : Room := { frames := 0, cells := 0, slots := 0, locals := 0 }
def m_H_leave (a1 : Int32) (σ : SP) : Option (SP) :=
  (mck 20 a1 (mlet (u_pl σ (upd (g_pl σ) a1.toNatClampNeg (-1 : Int32))) fun σ1 => (mck 20 a1 (mlet (u_gv σ1 (upd (g_gv σ1) a1.toNatClampNeg (-1 : Int32))) fun σ2 => some σ2))))
set_option maxHeartbeats 4000000 in
set_option maxRecDepth 100000 in
theorem w_H_leave {x : JX} {ad : Nat → Nat} {cA : ClassId} {wr : va_W} (C : jC x cc_H_leave 2 "PlainWarehouse$House") (hT : (jT x)[0]? = some (cA, .int)) (hR : jR x = rm_H_leave)  (a1 : Int32) (σ : SP) {σ' : SP} (hr : (jt x).sig.returnType = none) (E : jE x 0 0 none ((wP ad cA σ') ++ wr)) (h : m_H_leave a1 σ = some σ') : jW x 2 0 0 0 [(0, .ref (ad 2)), (1, .int a1)] [] ((wP ad cA σ) ++ wr) := by
  unfold m_H_leave at h
  refine j_aload_n C 0 d_H_leave_0 rfl rfl rfl ?_
  refine j_get C in_H 2 rfl rfl 0 (by decide) tw_77 rfl (v := .ref (ad 3)) rfl d_H_leave_1 rfl ?_
  refine j_iload_n C 1 d_H_leave_4 rfl rfl rfl ?_
  refine j_iconst (v := (-1)) C d_H_leave_5 rfl (by decide) ?_
  refine j_iast C (fun t => (wP ad cA t) ++ wr) 3 0 rfl hT d_H_leave_6 rfl h rfl (fun σ1 h => ?_)
  refine j_aload_n C 0 d_H_leave_7 rfl rfl rfl ?_
  refine j_get C in_H 2 rfl rfl 2 (by decide) tw_80 rfl (v := .ref (ad 5)) rfl d_H_leave_8 rfl ?_
  refine j_iload_n C 1 d_H_leave_11 rfl rfl rfl ?_
  refine j_iconst (v := (-1)) C d_H_leave_12 rfl (by decide) ?_
  refine j_iast C (fun t => (wP ad cA t) ++ wr) 5 0 rfl hT d_H_leave_13 rfl h rfl (fun σ2 h => ?_)
  cases h
  exact j_vret C E hr d_H_leave_14
theorem ct_H_leave (l : Launch) (D : va_G) (tys : List (ClassId × FieldType)) {ad : Nat → Nat} {cA : ClassId} {wr : va_W} (hT : tys[0]? = some (cA, .int)) (a1 : Int32) (σ : SP) {σ' : SP} (h : m_H_leave a1 σ = some σ') : jM l y_H_leave ws_H_leave rm_H_leave D tys [.ref (ad 2), .int a1] ((wP ad cA σ) ++ wr) none ((wP ad cA σ') ++ wr) :=
  j_of (by decide +kernel) rfl (Nat.le_of_ble_eq_true rfl) rfl (fun x _ _ hT' hR C hr _ E => w_H_leave C (by rw [hT']; exact hT) hR a1 σ hr E h)
def rm_H_isPossible : Room := { frames := 2, cells := 0, slots := 0, locals := 42 }
def m_H_isPossible (a1 : Int32) (a2 : Int32) (a3 : Int32) (σ : SP) : Option (Int32) :=
  (if a1 = 0 then (mb1 (m_H_isInside a2 σ) fun r1 => (if r1 = 0 then some (1 : Int32) else some (0 : Int32))) else (if a1 = 1 then (mb1 (m_H_isInside a2 σ) fun r3 => (mzr r3 (some r3))) else (if a1 = 2 then (mb1 (m_H_isInside a2 σ) fun r5 => (if r5 = 0 then some (0 : Int32) else (mrd 20 (g_gv σ) a2 fun r7 => (mb1 (m_H_isOpen r7 σ) fun r8 => (if r8 = 0 then some (1 : Int32) else some (0 : Int32)))))) else (if a1 = 3 then (mb1 (m_H_isTold a2 σ) fun r10 => (if r10 = 0 then some (1 : Int32) else some (0 : Int32))) else (if a1 = 4 then (mb1 (m_H_isFree a2 σ) fun r12 => (if r12 = 0 then some (0 : Int32) else (mb1 (m_H_isOpen a3 σ) fun r14 => (if r14 = 0 then some (0 : Int32) else (mrd 20 (g_gd σ) a2 fun r16 => (mrd 10 (g_gw σ) a3 fun r17 => (if r16 = r17 then some (1 : Int32) else some (0 : Int32)))))))) else (if a1 = 5 then some (1 : Int32) else (if a1 = 6 then (if a2 = a3 then some (0 : Int32) else some (1 : Int32)) else some (1 : Int32))))))))
set_option maxHeartbeats 4000000 in
set_option maxRecDepth 100000 in
theorem w_H_isPossible {x : JX} {ad : Nat → Nat} {cA : ClassId} {wr : va_W} (C : jC x cc_H_isPossible 4 "PlainWarehouse$House") (hT : (jT x)[0]? = some (cA, .int)) (hR : jR x = rm_H_isPossible)  (a1 : Int32) (a2 : Int32) (a3 : Int32) (σ : SP) {r : Int32} (hr : (jt x).sig.returnType = some .boolean) (E : jE x 0 0 (some (.int r)) ((wP ad cA σ) ++ wr)) (h : m_H_isPossible a1 a2 a3 σ = some r) : jW x 4 0 0 0 [(0, .ref (ad 2)), (1, .int a1), (2, .int a2), (3, .int a3)] [] ((wP ad cA σ) ++ wr) := by
  unfold m_H_isPossible at h
  refine j_iload_n C 1 d_H_isPossible_0 rfl rfl rfl ?_
  refine j_tsw (k := 0) (tgt := 44) C d_H_isPossible_1 (by decide) (by decide) rfl (by decide) h (fun h => ?_) (fun n0 h => ?_)
  · refine j_aload_n C 0 d_H_isPossible_44 rfl rfl rfl ?_
    refine j_iload_n C 2 d_H_isPossible_45 rfl rfl rfl ?_
    obtain ⟨r1, h2, h⟩ := mb1_some h
    refine j_callV C hR (As := [.int a2]) (ct_H_isInside (jl x) (jD x) (jT x) hT a2 σ h2) kf_H_isInside (by decide) tw_189 tw_191 tw_5 2 rfl rfl (rest := []) rfl rfl (Nat.le_of_ble_eq_true rfl) (by decide) ⟨rfl, rfl⟩ d_H_isPossible_46 rfl (st1 := [.int r1]) rfl ?_
    refine j_if_ne (tgt := 56) C d_H_isPossible_49 (by decide) rfl h (fun h => ?_) (fun h => ?_)
    · refine j_iconst (v := 0) C d_H_isPossible_56 rfl (by decide) ?_
      cases h
      exact j_zret C E hr rfl d_H_isPossible_57
    · refine j_iconst (v := 1) C d_H_isPossible_52 rfl (by decide) ?_
      refine j_goto (tgt := 57) C d_H_isPossible_53 (by decide) ?_
      cases h
      exact j_zret C E hr rfl d_H_isPossible_57
  refine j_tsw (k := 1) (tgt := 58) C d_H_isPossible_1 (by decide) (by decide) rfl (by decide) h (fun h => ?_) (fun n1 h => ?_)
  · refine j_aload_n C 0 d_H_isPossible_58 rfl rfl rfl ?_
    refine j_iload_n C 2 d_H_isPossible_59 rfl rfl rfl ?_
    obtain ⟨r3, h4, h⟩ := mb1_some h
    refine j_callV C hR (As := [.int a2]) (ct_H_isInside (jl x) (jD x) (jT x) hT a2 σ h4) kf_H_isInside (by decide) tw_189 tw_191 tw_5 2 rfl rfl (rest := []) rfl rfl (Nat.le_of_ble_eq_true rfl) (by decide) ⟨rfl, rfl⟩ d_H_isPossible_60 rfl (st1 := [.int r3]) rfl ?_
    obtain ⟨hz, h⟩ := mzr_some h
    cases h
    exact j_zret C E hr hz d_H_isPossible_63
  refine j_tsw (k := 2) (tgt := 64) C d_H_isPossible_1 (by decide) (by decide) rfl (by decide) h (fun h => ?_) (fun n2 h => ?_)
  · refine j_aload_n C 0 d_H_isPossible_64 rfl rfl rfl ?_
    refine j_iload_n C 2 d_H_isPossible_65 rfl rfl rfl ?_
    obtain ⟨r5, h6, h⟩ := mb1_some h
    refine j_callV C hR (As := [.int a2]) (ct_H_isInside (jl x) (jD x) (jT x) hT a2 σ h6) kf_H_isInside (by decide) tw_189 tw_191 tw_5 2 rfl rfl (rest := []) rfl rfl (Nat.le_of_ble_eq_true rfl) (by decide) ⟨rfl, rfl⟩ d_H_isPossible_66 rfl (st1 := [.int r5]) rfl ?_
    refine j_if_eq (tgt := 89) C d_H_isPossible_69 (by decide) rfl h (fun h => ?_) (fun h => ?_)
    · refine j_iconst (v := 0) C d_H_isPossible_89 rfl (by decide) ?_
      cases h
      exact j_zret C E hr rfl d_H_isPossible_90
    · refine j_aload_n C 0 d_H_isPossible_72 rfl rfl rfl ?_
      refine j_aload_n C 0 d_H_isPossible_73 rfl rfl rfl ?_
      refine j_get C in_H 2 rfl rfl 2 (by decide) tw_80 rfl (v := .ref (ad 5)) rfl d_H_isPossible_74 rfl ?_
      refine j_iload_n C 2 d_H_isPossible_77 rfl rfl rfl ?_
      refine j_iald C 5 0 rfl hT d_H_isPossible_78 rfl h (fun r7 h => ?_)
      obtain ⟨r8, h9, h⟩ := mb1_some h
      refine j_callV C hR (As := [.int r7]) (ct_H_isOpen (jl x) (jD x) (jT x) hT r7 σ h9) kf_H_isOpen (by decide) tw_193 tw_195 tw_6 2 rfl rfl (rest := []) rfl rfl (Nat.le_of_ble_eq_true rfl) (by decide) ⟨rfl, rfl⟩ d_H_isPossible_79 rfl (st1 := [.int r8]) rfl ?_
      refine j_if_ne (tgt := 89) C d_H_isPossible_82 (by decide) rfl h (fun h => ?_) (fun h => ?_)
      · refine j_iconst (v := 0) C d_H_isPossible_89 rfl (by decide) ?_
        cases h
        exact j_zret C E hr rfl d_H_isPossible_90
      · refine j_iconst (v := 1) C d_H_isPossible_85 rfl (by decide) ?_
        refine j_goto (tgt := 90) C d_H_isPossible_86 (by decide) ?_
        cases h
        exact j_zret C E hr rfl d_H_isPossible_90
  refine j_tsw (k := 3) (tgt := 91) C d_H_isPossible_1 (by decide) (by decide) rfl (by decide) h (fun h => ?_) (fun n3 h => ?_)
  · refine j_aload_n C 0 d_H_isPossible_91 rfl rfl rfl ?_
    refine j_iload_n C 2 d_H_isPossible_92 rfl rfl rfl ?_
    obtain ⟨r10, h11, h⟩ := mb1_some h
    refine j_callV C hR (As := [.int a2]) (ct_H_isTold (jl x) (jD x) (jT x) hT a2 σ h11) kf_H_isTold (by decide) tw_197 tw_199 tw_7 2 rfl rfl (rest := []) rfl rfl (Nat.le_of_ble_eq_true rfl) (by decide) ⟨rfl, rfl⟩ d_H_isPossible_93 rfl (st1 := [.int r10]) rfl ?_
    refine j_if_ne (tgt := 103) C d_H_isPossible_96 (by decide) rfl h (fun h => ?_) (fun h => ?_)
    · refine j_iconst (v := 0) C d_H_isPossible_103 rfl (by decide) ?_
      cases h
      exact j_zret C E hr rfl d_H_isPossible_104
    · refine j_iconst (v := 1) C d_H_isPossible_99 rfl (by decide) ?_
      refine j_goto (tgt := 104) C d_H_isPossible_100 (by decide) ?_
      cases h
      exact j_zret C E hr rfl d_H_isPossible_104
  refine j_tsw (k := 4) (tgt := 105) C d_H_isPossible_1 (by decide) (by decide) rfl (by decide) h (fun h => ?_) (fun n4 h => ?_)
  · refine j_aload_n C 0 d_H_isPossible_105 rfl rfl rfl ?_
    refine j_iload_n C 2 d_H_isPossible_106 rfl rfl rfl ?_
    obtain ⟨r12, h13, h⟩ := mb1_some h
    refine j_callV C hR (As := [.int a2]) (ct_H_isFree (jl x) (jD x) (jT x) hT a2 σ h13) kf_H_isFree (by decide) tw_201 tw_203 tw_8 2 rfl rfl (rest := []) rfl rfl (Nat.le_of_ble_eq_true rfl) (by decide) ⟨rfl, rfl⟩ d_H_isPossible_107 rfl (st1 := [.int r12]) rfl ?_
    refine j_if_eq (tgt := 140) C d_H_isPossible_110 (by decide) rfl h (fun h => ?_) (fun h => ?_)
    · refine j_iconst (v := 0) C d_H_isPossible_140 rfl (by decide) ?_
      cases h
      exact j_zret C E hr rfl d_H_isPossible_141
    · refine j_aload_n C 0 d_H_isPossible_113 rfl rfl rfl ?_
      refine j_iload_n C 3 d_H_isPossible_114 rfl rfl rfl ?_
      obtain ⟨r14, h15, h⟩ := mb1_some h
      refine j_callV C hR (As := [.int a3]) (ct_H_isOpen (jl x) (jD x) (jT x) hT a3 σ h15) kf_H_isOpen (by decide) tw_193 tw_195 tw_6 2 rfl rfl (rest := []) rfl rfl (Nat.le_of_ble_eq_true rfl) (by decide) ⟨rfl, rfl⟩ d_H_isPossible_115 rfl (st1 := [.int r14]) rfl ?_
      refine j_if_eq (tgt := 140) C d_H_isPossible_118 (by decide) rfl h (fun h => ?_) (fun h => ?_)
      · refine j_iconst (v := 0) C d_H_isPossible_140 rfl (by decide) ?_
        cases h
        exact j_zret C E hr rfl d_H_isPossible_141
      · refine j_aload_n C 0 d_H_isPossible_121 rfl rfl rfl ?_
        refine j_get C in_H 2 rfl rfl 1 (by decide) tw_79 rfl (v := .ref (ad 4)) rfl d_H_isPossible_122 rfl ?_
        refine j_iload_n C 2 d_H_isPossible_125 rfl rfl rfl ?_
        refine j_iald C 4 0 rfl hT d_H_isPossible_126 rfl h (fun r16 h => ?_)
        refine j_aload_n C 0 d_H_isPossible_127 rfl rfl rfl ?_
        refine j_get C in_H 2 rfl rfl 4 (by decide) tw_83 rfl (v := .ref (ad 7)) rfl d_H_isPossible_128 rfl ?_
        refine j_iload_n C 3 d_H_isPossible_131 rfl rfl rfl ?_
        refine j_iald C 7 0 rfl hT d_H_isPossible_132 rfl h (fun r17 h => ?_)
        refine j_icmp_ne (tgt := 140) C d_H_isPossible_133 (by decide) rfl h (fun h => ?_) (fun h => ?_)
        · refine j_iconst (v := 0) C d_H_isPossible_140 rfl (by decide) ?_
          cases h
          exact j_zret C E hr rfl d_H_isPossible_141
        · refine j_iconst (v := 1) C d_H_isPossible_136 rfl (by decide) ?_
          refine j_goto (tgt := 141) C d_H_isPossible_137 (by decide) ?_
          cases h
          exact j_zret C E hr rfl d_H_isPossible_141
  refine j_tsw (k := 5) (tgt := 153) C d_H_isPossible_1 (by decide) (by decide) rfl (by decide) h (fun h => ?_) (fun n5 h => ?_)
  · refine j_iconst (v := 1) C d_H_isPossible_153 rfl (by decide) ?_
    cases h
    exact j_zret C E hr rfl d_H_isPossible_154
  refine j_tsw (k := 6) (tgt := 142) C d_H_isPossible_1 (by decide) (by decide) rfl (by decide) h (fun h => ?_) (fun n6 h => ?_)
  · refine j_iload_n C 2 d_H_isPossible_142 rfl rfl rfl ?_
    refine j_iload_n C 3 d_H_isPossible_143 rfl rfl rfl ?_
    refine j_icmp_eq (tgt := 151) C d_H_isPossible_144 (by decide) rfl h (fun h => ?_) (fun h => ?_)
    · refine j_iconst (v := 0) C d_H_isPossible_151 rfl (by decide) ?_
      cases h
      exact j_zret C E hr rfl d_H_isPossible_152
    · refine j_iconst (v := 1) C d_H_isPossible_147 rfl (by decide) ?_
      refine j_goto (tgt := 152) C d_H_isPossible_148 (by decide) ?_
      cases h
      exact j_zret C E hr rfl d_H_isPossible_152
  refine j_tswD (tgt := 153) C d_H_isPossible_1 (by have q0 := tiNe (z := 0) (by decide) n0; have q1 := tiNe (z := 1) (by decide) n1; have q2 := tiNe (z := 2) (by decide) n2; have q3 := tiNe (z := 3) (by decide) n3; have q4 := tiNe (z := 4) (by decide) n4; have q5 := tiNe (z := 5) (by decide) n5; have q6 := tiNe (z := 6) (by decide) n6; omega) (by decide) ?_
  refine j_iconst (v := 1) C d_H_isPossible_153 rfl (by decide) ?_
  cases h
  exact j_zret C E hr rfl d_H_isPossible_154
theorem ct_H_isPossible (l : Launch) (D : va_G) (tys : List (ClassId × FieldType)) {ad : Nat → Nat} {cA : ClassId} {wr : va_W} (hT : tys[0]? = some (cA, .int)) (a1 : Int32) (a2 : Int32) (a3 : Int32) (σ : SP) {r : Int32} (h : m_H_isPossible a1 a2 a3 σ = some r) : jM l y_H_isPossible ws_H_isPossible rm_H_isPossible D tys [.ref (ad 2), .int a1, .int a2, .int a3] ((wP ad cA σ) ++ wr) (some (.int r)) ((wP ad cA σ) ++ wr) :=
  j_of (by decide +kernel) rfl (Nat.le_of_ble_eq_true rfl) rfl (fun x _ _ hT' hR C hr _ E => w_H_isPossible C (by rw [hT']; exact hT) hR a1 a2 a3 σ hr E h)
def rm_H_happen : Room := { frames := 1, cells := 0, slots := 0, locals := 23 }
def m_H_happen (a1 : Int32) (a2 : Int32) (a3 : Int32) (a4 : Int32) (σ : SP) : Option (SP) :=
  (if a1 = 0 then (mb1 (m_H_come a2 a3 a4 σ) fun σ1 => some σ1) else (if a1 = 1 then (mck 20 a2 (mlet (u_pl σ (upd (g_pl σ) a2.toNatClampNeg a3)) fun σ3 => some σ3)) else (if a1 = 2 then (mb1 (m_H_leave a2 σ) fun σ4 => some σ4) else (if a1 = 3 then (mck 10 a2 (mlet (u_wa σ (upd (g_wa σ) a2.toNatClampNeg a3)) fun σ6 => (mck 10 a2 (mlet (u_gw σ6 (upd (g_gw σ6) a2.toNatClampNeg a4)) fun σ7 => some σ7)))) else (if a1 = 4 then (mck 20 a2 (mlet (u_gv σ (upd (g_gv σ) a2.toNatClampNeg a3)) fun σ8 => (mrd 10 (g_gt σ8) a3 fun r9 => (mck 10 a3 (mlet (u_gt σ8 (upd (g_gt σ8) a3.toNatClampNeg (r9 + (1 : Int32)))) fun σ10 => some σ10))))) else (if a1 = 5 then (mrd 4 (g_ce σ) a2 fun r11 => (mck 4 a2 (mlet (u_ce σ (upd (g_ce σ) a2.toNatClampNeg (r11 + a3))) fun σ12 => some σ12))) else (if a1 = 6 then (mb1 (m_P_pair a2 a3) fun r13 => (mck 100 r13 (mlet (u_lk σ (upd (g_lk σ) r13.toNatClampNeg a4)) fun σ15 => (mb1 (m_P_pair a3 a2) fun r16 => (mck 100 r16 (mlet (u_lk σ15 (upd (g_lk σ15) r16.toNatClampNeg a4)) fun σ18 => some σ18)))))) else some σ)))))))
set_option maxHeartbeats 4000000 in
set_option maxRecDepth 100000 in
theorem w_H_happen {x : JX} {ad : Nat → Nat} {cA : ClassId} {wr : va_W} (C : jC x cc_H_happen 5 "PlainWarehouse$House") (hT : (jT x)[0]? = some (cA, .int)) (hR : jR x = rm_H_happen)  (a1 : Int32) (a2 : Int32) (a3 : Int32) (a4 : Int32) (σ : SP) {σ' : SP} (hr : (jt x).sig.returnType = none) (E : jE x 0 0 none ((wP ad cA σ') ++ wr)) (h : m_H_happen a1 a2 a3 a4 σ = some σ') : jW x 5 0 0 0 [(0, .ref (ad 2)), (1, .int a1), (2, .int a2), (3, .int a3), (4, .int a4)] [] ((wP ad cA σ) ++ wr) := by
  unfold m_H_happen at h
  refine j_iload_n C 1 d_H_happen_0 rfl rfl rfl ?_
  refine j_tsw (k := 0) (tgt := 44) C d_H_happen_1 (by decide) (by decide) rfl (by decide) h (fun h => ?_) (fun n0 h => ?_)
  · refine j_aload_n C 0 d_H_happen_44 rfl rfl rfl ?_
    refine j_iload_n C 2 d_H_happen_45 rfl rfl rfl ?_
    refine j_iload_n C 3 d_H_happen_46 rfl rfl rfl ?_
    refine j_iload C 4 d_H_happen_47 rfl rfl ?_
    obtain ⟨σ1, h2, h⟩ := mb1_some h
    refine j_callV C hR (As := [.int a2, .int a3, .int a4]) (ct_H_come (jl x) (jD x) (jT x) hT a2 a3 a4 σ h2) kf_H_come (by decide) tw_209 tw_211 tw_10 2 rfl rfl (rest := []) rfl rfl (Nat.le_of_ble_eq_true rfl) (by decide) ⟨rfl, rfl⟩ d_H_happen_49 rfl (st1 := []) rfl ?_
    refine j_goto (tgt := 151) C d_H_happen_52 (by decide) ?_
    cases h
    exact j_vret C E hr d_H_happen_151
  refine j_tsw (k := 1) (tgt := 55) C d_H_happen_1 (by decide) (by decide) rfl (by decide) h (fun h => ?_) (fun n1 h => ?_)
  · refine j_aload_n C 0 d_H_happen_55 rfl rfl rfl ?_
    refine j_get C in_H 2 rfl rfl 0 (by decide) tw_77 rfl (v := .ref (ad 3)) rfl d_H_happen_56 rfl ?_
    refine j_iload_n C 2 d_H_happen_59 rfl rfl rfl ?_
    refine j_iload_n C 3 d_H_happen_60 rfl rfl rfl ?_
    refine j_iast C (fun t => (wP ad cA t) ++ wr) 3 0 rfl hT d_H_happen_61 rfl h rfl (fun σ3 h => ?_)
    refine j_goto (tgt := 151) C d_H_happen_62 (by decide) ?_
    cases h
    exact j_vret C E hr d_H_happen_151
  refine j_tsw (k := 2) (tgt := 65) C d_H_happen_1 (by decide) (by decide) rfl (by decide) h (fun h => ?_) (fun n2 h => ?_)
  · refine j_aload_n C 0 d_H_happen_65 rfl rfl rfl ?_
    refine j_iload_n C 2 d_H_happen_66 rfl rfl rfl ?_
    obtain ⟨σ4, h5, h⟩ := mb1_some h
    refine j_callV C hR (As := [.int a2]) (ct_H_leave (jl x) (jD x) (jT x) hT a2 σ h5) kf_H_leave (by decide) tw_213 tw_215 tw_11 2 rfl rfl (rest := []) rfl rfl (Nat.le_of_ble_eq_true rfl) (by decide) ⟨rfl, rfl⟩ d_H_happen_67 rfl (st1 := []) rfl ?_
    refine j_goto (tgt := 151) C d_H_happen_70 (by decide) ?_
    cases h
    exact j_vret C E hr d_H_happen_151
  refine j_tsw (k := 3) (tgt := 73) C d_H_happen_1 (by decide) (by decide) rfl (by decide) h (fun h => ?_) (fun n3 h => ?_)
  · refine j_aload_n C 0 d_H_happen_73 rfl rfl rfl ?_
    refine j_get C in_H 2 rfl rfl 3 (by decide) tw_81 rfl (v := .ref (ad 6)) rfl d_H_happen_74 rfl ?_
    refine j_iload_n C 2 d_H_happen_77 rfl rfl rfl ?_
    refine j_iload_n C 3 d_H_happen_78 rfl rfl rfl ?_
    refine j_iast C (fun t => (wP ad cA t) ++ wr) 6 0 rfl hT d_H_happen_79 rfl h rfl (fun σ6 h => ?_)
    refine j_aload_n C 0 d_H_happen_80 rfl rfl rfl ?_
    refine j_get C in_H 2 rfl rfl 4 (by decide) tw_83 rfl (v := .ref (ad 7)) rfl d_H_happen_81 rfl ?_
    refine j_iload_n C 2 d_H_happen_84 rfl rfl rfl ?_
    refine j_iload C 4 d_H_happen_85 rfl rfl ?_
    refine j_iast C (fun t => (wP ad cA t) ++ wr) 7 0 rfl hT d_H_happen_87 rfl h rfl (fun σ7 h => ?_)
    refine j_goto (tgt := 151) C d_H_happen_88 (by decide) ?_
    cases h
    exact j_vret C E hr d_H_happen_151
  refine j_tsw (k := 4) (tgt := 91) C d_H_happen_1 (by decide) (by decide) rfl (by decide) h (fun h => ?_) (fun n4 h => ?_)
  · refine j_aload_n C 0 d_H_happen_91 rfl rfl rfl ?_
    refine j_get C in_H 2 rfl rfl 2 (by decide) tw_80 rfl (v := .ref (ad 5)) rfl d_H_happen_92 rfl ?_
    refine j_iload_n C 2 d_H_happen_95 rfl rfl rfl ?_
    refine j_iload_n C 3 d_H_happen_96 rfl rfl rfl ?_
    refine j_iast C (fun t => (wP ad cA t) ++ wr) 5 0 rfl hT d_H_happen_97 rfl h rfl (fun σ8 h => ?_)
    refine j_aload_n C 0 d_H_happen_98 rfl rfl rfl ?_
    refine j_get C in_H 2 rfl rfl 5 (by decide) tw_86 rfl (v := .ref (ad 8)) rfl d_H_happen_99 rfl ?_
    refine j_iload_n C 3 d_H_happen_102 rfl rfl rfl ?_
    refine j_dup2 C d_H_happen_103 rfl rfl rfl ?_
    refine j_iald C 8 0 rfl hT d_H_happen_104 rfl h (fun r9 h => ?_)
    refine j_iconst (v := 1) C d_H_happen_105 rfl (by decide) ?_
    refine j_iadd C d_H_happen_106 rfl ?_
    refine j_iast C (fun t => (wP ad cA t) ++ wr) 8 0 rfl hT d_H_happen_107 rfl h rfl (fun σ10 h => ?_)
    refine j_goto (tgt := 151) C d_H_happen_108 (by decide) ?_
    cases h
    exact j_vret C E hr d_H_happen_151
  refine j_tsw (k := 5) (tgt := 111) C d_H_happen_1 (by decide) (by decide) rfl (by decide) h (fun h => ?_) (fun n5 h => ?_)
  · refine j_aload_n C 0 d_H_happen_111 rfl rfl rfl ?_
    refine j_get C in_H 2 rfl rfl 6 (by decide) tw_89 rfl (v := .ref (ad 9)) rfl d_H_happen_112 rfl ?_
    refine j_iload_n C 2 d_H_happen_115 rfl rfl rfl ?_
    refine j_dup2 C d_H_happen_116 rfl rfl rfl ?_
    refine j_iald C 9 0 rfl hT d_H_happen_117 rfl h (fun r11 h => ?_)
    refine j_iload_n C 3 d_H_happen_118 rfl rfl rfl ?_
    refine j_iadd C d_H_happen_119 rfl ?_
    refine j_iast C (fun t => (wP ad cA t) ++ wr) 9 0 rfl hT d_H_happen_120 rfl h rfl (fun σ12 h => ?_)
    refine j_goto (tgt := 151) C d_H_happen_121 (by decide) ?_
    cases h
    exact j_vret C E hr d_H_happen_151
  refine j_tsw (k := 6) (tgt := 124) C d_H_happen_1 (by decide) (by decide) rfl (by decide) h (fun h => ?_) (fun n6 h => ?_)
  · refine j_aload_n C 0 d_H_happen_124 rfl rfl rfl ?_
    refine j_get C in_H 2 rfl rfl 7 (by decide) tw_91 rfl (v := .ref (ad 10)) rfl d_H_happen_125 rfl ?_
    refine j_iload_n C 2 d_H_happen_128 rfl rfl rfl ?_
    refine j_iload_n C 3 d_H_happen_129 rfl rfl rfl ?_
    obtain ⟨r13, h14, h⟩ := mb1_some h
    refine j_callSN C hR (As := [.int a2, .int a3]) (ct_P_pair (jl x) (jD x) (jT x) a2 a3 h14) kf_P_pair (by decide) tw_217 tw_218 (rest := [.ref (ad 10)]) rfl rfl (Nat.le_of_ble_eq_true rfl) (by decide) ⟨rfl, rfl⟩ d_H_happen_130 rfl (st1 := [.int r13, .ref (ad 10)]) rfl ?_
    refine j_iload C 4 d_H_happen_133 rfl rfl ?_
    refine j_iast C (fun t => (wP ad cA t) ++ wr) 10 0 rfl hT d_H_happen_135 rfl h rfl (fun σ15 h => ?_)
    refine j_aload_n C 0 d_H_happen_136 rfl rfl rfl ?_
    refine j_get C in_H 2 rfl rfl 7 (by decide) tw_91 rfl (v := .ref (ad 10)) rfl d_H_happen_137 rfl ?_
    refine j_iload_n C 3 d_H_happen_140 rfl rfl rfl ?_
    refine j_iload_n C 2 d_H_happen_141 rfl rfl rfl ?_
    obtain ⟨r16, h17, h⟩ := mb1_some h
    refine j_callSN C hR (As := [.int a3, .int a2]) (ct_P_pair (jl x) (jD x) (jT x) a3 a2 h17) kf_P_pair (by decide) tw_217 tw_218 (rest := [.ref (ad 10)]) rfl rfl (Nat.le_of_ble_eq_true rfl) (by decide) ⟨rfl, rfl⟩ d_H_happen_142 rfl (st1 := [.int r16, .ref (ad 10)]) rfl ?_
    refine j_iload C 4 d_H_happen_145 rfl rfl ?_
    refine j_iast C (fun t => (wP ad cA t) ++ wr) 10 0 rfl hT d_H_happen_147 rfl h rfl (fun σ18 h => ?_)
    refine j_goto (tgt := 151) C d_H_happen_148 (by decide) ?_
    cases h
    exact j_vret C E hr d_H_happen_151
  refine j_tswD (tgt := 151) C d_H_happen_1 (by have q0 := tiNe (z := 0) (by decide) n0; have q1 := tiNe (z := 1) (by decide) n1; have q2 := tiNe (z := 2) (by decide) n2; have q3 := tiNe (z := 3) (by decide) n3; have q4 := tiNe (z := 4) (by decide) n4; have q5 := tiNe (z := 5) (by decide) n5; have q6 := tiNe (z := 6) (by decide) n6; omega) (by decide) ?_
  cases h
  exact j_vret C E hr d_H_happen_151
theorem ct_H_happen (l : Launch) (D : va_G) (tys : List (ClassId × FieldType)) {ad : Nat → Nat} {cA : ClassId} {wr : va_W} (hT : tys[0]? = some (cA, .int)) (a1 : Int32) (a2 : Int32) (a3 : Int32) (a4 : Int32) (σ : SP) {σ' : SP} (h : m_H_happen a1 a2 a3 a4 σ = some σ') : jM l y_H_happen ws_H_happen rm_H_happen D tys [.ref (ad 2), .int a1, .int a2, .int a3, .int a4] ((wP ad cA σ) ++ wr) none ((wP ad cA σ') ++ wr) :=
  j_of (by decide +kernel) rfl (Nat.le_of_ble_eq_true rfl) rfl (fun x _ _ hT' hR C hr _ E => w_H_happen C (by rw [hT']; exact hT) hR a1 a2 a3 a4 σ hr E h)
def rm_H_take : Room := { frames := 3, cells := 0, slots := 0, locals := 65 }
def m_H_take (a1 : Int32) (a2 : Int32) (a3 : Int32) (a4 : Int32) (σ : SP) : Option (Int32 × SP) :=
  (mb1 (m_H_isPossible a1 a2 a3 σ) fun r1 => (if r1 = 0 then some ((0 : Int32), σ) else (mb1 (m_H_happen a1 a2 a3 a4 σ) fun σ3 => some ((1 : Int32), σ3))))
set_option maxHeartbeats 4000000 in
set_option maxRecDepth 100000 in
theorem w_H_take {x : JX} {ad : Nat → Nat} {cA : ClassId} {wr : va_W} (C : jC x cc_H_take 5 "PlainWarehouse$House") (hT : (jT x)[0]? = some (cA, .int)) (hR : jR x = rm_H_take)  (a1 : Int32) (a2 : Int32) (a3 : Int32) (a4 : Int32) (σ : SP) {r : Int32} {σ' : SP} (hr : (jt x).sig.returnType = some .boolean) (E : jE x 0 0 (some (.int r)) ((wP ad cA σ') ++ wr)) (h : m_H_take a1 a2 a3 a4 σ = some (r, σ')) : jW x 5 0 0 0 [(0, .ref (ad 2)), (1, .int a1), (2, .int a2), (3, .int a3), (4, .int a4)] [] ((wP ad cA σ) ++ wr) := by
  unfold m_H_take at h
  refine j_aload_n C 0 d_H_take_0 rfl rfl rfl ?_
  refine j_iload_n C 1 d_H_take_1 rfl rfl rfl ?_
  refine j_iload_n C 2 d_H_take_2 rfl rfl rfl ?_
  refine j_iload_n C 3 d_H_take_3 rfl rfl rfl ?_
  obtain ⟨r1, h2, h⟩ := mb1_some h
  refine j_callV C hR (As := [.int a1, .int a2, .int a3]) (ct_H_isPossible (jl x) (jD x) (jT x) hT a1 a2 a3 σ h2) kf_H_isPossible (by decide) tw_185 tw_187 tw_4 2 rfl rfl (rest := []) rfl rfl (Nat.le_of_ble_eq_true rfl) (by decide) ⟨rfl, rfl⟩ d_H_take_4 rfl (st1 := [.int r1]) rfl ?_
  refine j_if_ne (tgt := 12) C d_H_take_7 (by decide) rfl h (fun h => ?_) (fun h => ?_)
  · refine j_aload_n C 0 d_H_take_12 rfl rfl rfl ?_
    refine j_iload_n C 1 d_H_take_13 rfl rfl rfl ?_
    refine j_iload_n C 2 d_H_take_14 rfl rfl rfl ?_
    refine j_iload_n C 3 d_H_take_15 rfl rfl rfl ?_
    refine j_iload C 4 d_H_take_16 rfl rfl ?_
    obtain ⟨σ3, h4, h⟩ := mb1_some h
    refine j_callV C hR (As := [.int a1, .int a2, .int a3, .int a4]) (ct_H_happen (jl x) (jD x) (jT x) hT a1 a2 a3 a4 σ h4) kf_H_happen (by decide) tw_205 tw_207 tw_9 2 rfl rfl (rest := []) rfl rfl (Nat.le_of_ble_eq_true rfl) (by decide) ⟨rfl, rfl⟩ d_H_take_18 rfl (st1 := []) rfl ?_
    refine j_iconst (v := 1) C d_H_take_21 rfl (by decide) ?_
    cases h
    exact j_zret C E hr rfl d_H_take_22
  · refine j_iconst (v := 0) C d_H_take_10 rfl (by decide) ?_
    cases h
    exact j_zret C E hr rfl d_H_take_11
theorem ct_H_take (l : Launch) (D : va_G) (tys : List (ClassId × FieldType)) {ad : Nat → Nat} {cA : ClassId} {wr : va_W} (hT : tys[0]? = some (cA, .int)) (a1 : Int32) (a2 : Int32) (a3 : Int32) (a4 : Int32) (σ : SP) {r : Int32} {σ' : SP} (h : m_H_take a1 a2 a3 a4 σ = some (r, σ')) : jM l y_H_take ws_H_take rm_H_take D tys [.ref (ad 2), .int a1, .int a2, .int a3, .int a4] ((wP ad cA σ) ++ wr) (some (.int r)) ((wP ad cA σ') ++ wr) :=
  j_of (by decide +kernel) rfl (Nat.le_of_ble_eq_true rfl) rfl (fun x _ _ hT' hR C hr _ E => w_H_take C (by rw [hT']; exact hT) hR a1 a2 a3 a4 σ hr E h)
def rm_H_unitsAt : Room := { frames := 1, cells := 0, slots := 0, locals := 21 }
def b_H_unitsAt_5 (c1 : Int32) (c2 : Int32) (σ : SP) (v3 : Int32) (v4 : Int32) : Option ((Int32 × Int32) ⊕ (Int32 × Int32)) :=
  (if (20 : Int32) ≤ v4 then some (.inr (v3, v4)) else (mb1 (m_H_isInside v4 σ) fun r1 => (if r1 = 0 then some (.inl (v3, (v4 + 1))) else (mrd 20 (g_pl σ) v4 fun r3 => (mb1 (m_H_isAsked r3 c1) fun r4 => (if r4 = 0 then some (.inl (v3, (v4 + 1))) else (mrd 20 (g_gd σ) v4 fun r6 => (mb1 (m_H_isAsked r6 c2) fun r7 => (if r7 = 0 then some (.inl (v3, (v4 + 1))) else some (.inl ((v3 + 1), (v4 + 1))))))))))))
def m_H_unitsAt (a1 : Int32) (a2 : Int32) (σ : SP) : Option (Int32) :=
  (mb2 (lp (fun s => b_H_unitsAt_5 a1 a2 σ s.1 s.2) FU ((0 : Int32), (0 : Int32))) fun w9 w10 => some w9)
set_option maxHeartbeats 4000000 in
set_option maxRecDepth 100000 in
theorem wb_H_unitsAt_5 {x : JX} {ad : Nat → Nat} {cA : ClassId} {wr : va_W} (C : jC x cc_H_unitsAt 5 "PlainWarehouse$House") (hT : (jT x)[0]? = some (cA, .int)) (hR : jR x = rm_H_unitsAt)  (c1 : Int32) (c2 : Int32) (σ : SP) (v3 : Int32) (v4 : Int32) {o : (Int32 × Int32) ⊕ (Int32 × Int32)} (h : b_H_unitsAt_5 c1 c2 σ v3 v4 = some o) (kc : ∀ (u3 : Int32) (u4 : Int32), o = .inl (u3, u4) → jW x 5 0 0 5 [(0, .ref (ad 2)), (1, .int c1), (2, .int c2), (3, .int u3), (4, .int u4)] [] ((wP ad cA σ) ++ wr)) (ke : ∀ (u3 : Int32) (u4 : Int32), o = .inr (u3, u4) → jW x 5 0 0 58 [(0, .ref (ad 2)), (1, .int c1), (2, .int c2), (3, .int u3), (4, .int u4)] [] ((wP ad cA σ) ++ wr)) : jW x 5 0 0 5 [(0, .ref (ad 2)), (1, .int c1), (2, .int c2), (3, .int v3), (4, .int v4)] [] ((wP ad cA σ) ++ wr) := by
  unfold b_H_unitsAt_5 at h
  refine j_iload C 4 d_H_unitsAt_5 rfl rfl ?_
  refine j_bipush (v := 20) C d_H_unitsAt_7 rfl (by decide) ?_
  refine j_icmp_ge (tgt := 58) C d_H_unitsAt_9 (by decide) rfl h (fun h => ?_) (fun h => ?_)
  · cases h
    refine j_sub [0, 1, 2, 3, 4] rfl (ke _ _ rfl)
  · refine j_aload_n C 0 d_H_unitsAt_12 rfl rfl rfl ?_
    refine j_iload C 4 d_H_unitsAt_13 rfl rfl ?_
    obtain ⟨r1, h2, h⟩ := mb1_some h
    refine j_callV C hR (As := [.int v4]) (ct_H_isInside (jl x) (jD x) (jT x) hT v4 σ h2) kf_H_isInside (by decide) tw_189 tw_191 tw_5 2 rfl rfl (rest := []) rfl rfl (Nat.le_of_ble_eq_true rfl) (by decide) ⟨rfl, rfl⟩ d_H_unitsAt_15 rfl (st1 := [.int r1]) rfl ?_
    refine j_if_eq (tgt := 52) C d_H_unitsAt_18 (by decide) rfl h (fun h => ?_) (fun h => ?_)
    · refine j_iinc (v' := (v4 + 1)) (lv' := [(4, .int (v4 + 1)), (0, .ref (ad 2)), (1, .int c1), (2, .int c2), (3, .int v3)]) C 4 d_H_unitsAt_52 rfl rfl rfl (by decide) rfl ?_
      refine j_goto (tgt := 5) C d_H_unitsAt_55 (by decide) ?_
      cases h
      refine j_sub [1, 2, 3, 4, 0] rfl (kc _ _ rfl)
    · refine j_aload_n C 0 d_H_unitsAt_21 rfl rfl rfl ?_
      refine j_get C in_H 2 rfl rfl 0 (by decide) tw_77 rfl (v := .ref (ad 3)) rfl d_H_unitsAt_22 rfl ?_
      refine j_iload C 4 d_H_unitsAt_25 rfl rfl ?_
      refine j_iald C 3 0 rfl hT d_H_unitsAt_27 rfl h (fun r3 h => ?_)
      refine j_iload_n C 1 d_H_unitsAt_28 rfl rfl rfl ?_
      obtain ⟨r4, h5, h⟩ := mb1_some h
      refine j_callS C hR (As := [.int r3, .int c1]) (ct_H_isAsked (jl x) (jD x) (jT x) r3 c1 h5) kf_H_isAsked (by decide) tw_224 tw_225 (rest := []) rfl rfl (Nat.le_of_ble_eq_true rfl) (by decide) ⟨rfl, rfl⟩ d_H_unitsAt_29 rfl (st1 := [.int r4]) rfl ?_
      refine j_if_eq (tgt := 52) C d_H_unitsAt_32 (by decide) rfl h (fun h => ?_) (fun h => ?_)
      · refine j_iinc (v' := (v4 + 1)) (lv' := [(4, .int (v4 + 1)), (0, .ref (ad 2)), (1, .int c1), (2, .int c2), (3, .int v3)]) C 4 d_H_unitsAt_52 rfl rfl rfl (by decide) rfl ?_
        refine j_goto (tgt := 5) C d_H_unitsAt_55 (by decide) ?_
        cases h
        refine j_sub [1, 2, 3, 4, 0] rfl (kc _ _ rfl)
      · refine j_aload_n C 0 d_H_unitsAt_35 rfl rfl rfl ?_
        refine j_get C in_H 2 rfl rfl 1 (by decide) tw_79 rfl (v := .ref (ad 4)) rfl d_H_unitsAt_36 rfl ?_
        refine j_iload C 4 d_H_unitsAt_39 rfl rfl ?_
        refine j_iald C 4 0 rfl hT d_H_unitsAt_41 rfl h (fun r6 h => ?_)
        refine j_iload_n C 2 d_H_unitsAt_42 rfl rfl rfl ?_
        obtain ⟨r7, h8, h⟩ := mb1_some h
        refine j_callS C hR (As := [.int r6, .int c2]) (ct_H_isAsked (jl x) (jD x) (jT x) r6 c2 h8) kf_H_isAsked (by decide) tw_224 tw_225 (rest := []) rfl rfl (Nat.le_of_ble_eq_true rfl) (by decide) ⟨rfl, rfl⟩ d_H_unitsAt_43 rfl (st1 := [.int r7]) rfl ?_
        refine j_if_eq (tgt := 52) C d_H_unitsAt_46 (by decide) rfl h (fun h => ?_) (fun h => ?_)
        · refine j_iinc (v' := (v4 + 1)) (lv' := [(4, .int (v4 + 1)), (0, .ref (ad 2)), (1, .int c1), (2, .int c2), (3, .int v3)]) C 4 d_H_unitsAt_52 rfl rfl rfl (by decide) rfl ?_
          refine j_goto (tgt := 5) C d_H_unitsAt_55 (by decide) ?_
          cases h
          refine j_sub [1, 2, 3, 4, 0] rfl (kc _ _ rfl)
        · refine j_iinc (v' := (v3 + 1)) (lv' := [(3, .int (v3 + 1)), (0, .ref (ad 2)), (1, .int c1), (2, .int c2), (4, .int v4)]) C 3 d_H_unitsAt_49 rfl rfl rfl (by decide) rfl ?_
          refine j_iinc (v' := (v4 + 1)) (lv' := [(4, .int (v4 + 1)), (3, .int (v3 + 1)), (0, .ref (ad 2)), (1, .int c1), (2, .int c2)]) C 4 d_H_unitsAt_52 rfl rfl rfl (by decide) rfl ?_
          refine j_goto (tgt := 5) C d_H_unitsAt_55 (by decide) ?_
          cases h
          refine j_sub [2, 3, 4, 1, 0] rfl (kc _ _ rfl)
set_option maxRecDepth 100000 in
theorem wl_H_unitsAt_5 {x : JX} {ad : Nat → Nat} {cA : ClassId} {wr : va_W} (C : jC x cc_H_unitsAt 5 "PlainWarehouse$House") (hT : (jT x)[0]? = some (cA, .int)) (hR : jR x = rm_H_unitsAt)  (c1 : Int32) (c2 : Int32) (σ : SP) (v3 : Int32) (v4 : Int32) {u3 : Int32} {u4 : Int32} (n : Nat) (h : lp (fun s => b_H_unitsAt_5 c1 c2 σ s.1 s.2) n (v3, v4) = some (u3, u4)) (K : jW x 5 0 0 58 [(0, .ref (ad 2)), (1, .int c1), (2, .int c2), (3, .int u3), (4, .int u4)] [] ((wP ad cA σ) ++ wr)) : jW x 5 0 0 5 [(0, .ref (ad 2)), (1, .int c1), (2, .int c2), (3, .int v3), (4, .int v4)] [] ((wP ad cA σ) ++ wr) :=
  j_lp (Pr := fun s => jW x 5 0 0 5 [(0, .ref (ad 2)), (1, .int c1), (2, .int c2), (3, .int s.1), (4, .int s.2)] [] ((wP ad cA σ) ++ wr)) (K := fun s => jW x 5 0 0 58 [(0, .ref (ad 2)), (1, .int c1), (2, .int c2), (3, .int s.1), (4, .int s.2)] [] ((wP ad cA σ) ++ wr)) (fun s o h kc ke => wb_H_unitsAt_5 C hT hR c1 c2 σ s.1 s.2 h (fun u3 u4 e => kc _ e) (fun u3 u4 e => ke _ e)) n _ _ h K
set_option maxHeartbeats 4000000 in
set_option maxRecDepth 100000 in
theorem w_H_unitsAt {x : JX} {ad : Nat → Nat} {cA : ClassId} {wr : va_W} (C : jC x cc_H_unitsAt 5 "PlainWarehouse$House") (hT : (jT x)[0]? = some (cA, .int)) (hR : jR x = rm_H_unitsAt)  (a1 : Int32) (a2 : Int32) (σ : SP) {r : Int32} (hr : (jt x).sig.returnType = some .int) (E : jE x 0 0 (some (.int r)) ((wP ad cA σ) ++ wr)) (h : m_H_unitsAt a1 a2 σ = some r) : jW x 5 0 0 0 [(0, .ref (ad 2)), (1, .int a1), (2, .int a2)] [] ((wP ad cA σ) ++ wr) := by
  unfold m_H_unitsAt at h
  refine j_iconst (v := 0) C d_H_unitsAt_0 rfl (by decide) ?_
  refine j_istore_n (lv' := [(3, .int (0 : Int32)), (0, .ref (ad 2)), (1, .int a1), (2, .int a2)]) C d_H_unitsAt_1 rfl rfl (by decide) rfl ?_
  refine j_iconst (v := 0) C d_H_unitsAt_2 rfl (by decide) ?_
  refine j_istore (lv' := [(4, .int (0 : Int32)), (3, .int (0 : Int32)), (0, .ref (ad 2)), (1, .int a1), (2, .int a2)]) C d_H_unitsAt_3 rfl (by decide) rfl ?_
  obtain ⟨w9, w10, h11, h⟩ := mb2_some h
  refine j_sub [2, 3, 4, 1, 0] rfl (wl_H_unitsAt_5 C hT hR a1 a2 σ (0 : Int32) (0 : Int32) FU h11 ?_)
  refine j_iload_n C 3 d_H_unitsAt_58 rfl rfl rfl ?_
  cases h
  exact j_iret C E hr d_H_unitsAt_59
theorem ct_H_unitsAt (l : Launch) (D : va_G) (tys : List (ClassId × FieldType)) {ad : Nat → Nat} {cA : ClassId} {wr : va_W} (hT : tys[0]? = some (cA, .int)) (a1 : Int32) (a2 : Int32) (σ : SP) {r : Int32} (h : m_H_unitsAt a1 a2 σ = some r) : jM l y_H_unitsAt ws_H_unitsAt rm_H_unitsAt D tys [.ref (ad 2), .int a1, .int a2] ((wP ad cA σ) ++ wr) (some (.int r)) ((wP ad cA σ) ++ wr) :=
  j_of (by decide +kernel) rfl (Nat.le_of_ble_eq_true rfl) rfl (fun x _ _ hT' hR C hr _ E => w_H_unitsAt C (by rw [hT']; exact hT) hR a1 a2 σ hr E h)
def rm_H_freeUnits : Room := { frames := 2, cells := 0, slots := 0, locals := 42 }
def b_H_freeUnits_4 (c1 : Int32) (σ : SP) (v2 : Int32) (v3 : Int32) : Option ((Int32 × Int32) ⊕ (Int32 × Int32)) :=
  (if (20 : Int32) ≤ v3 then some (.inr (v2, v3)) else (mb1 (m_H_isFree v3 σ) fun r1 => (if r1 = 0 then some (.inl (v2, (v3 + 1))) else (mrd 20 (g_gd σ) v3 fun r3 => (if r3 = c1 then some (.inl ((v2 + 1), (v3 + 1))) else some (.inl (v2, (v3 + 1))))))))
def m_H_freeUnits (a1 : Int32) (σ : SP) : Option (Int32) :=
  (mb2 (lp (fun s => b_H_freeUnits_4 a1 σ s.1 s.2) FU ((0 : Int32), (0 : Int32))) fun w4 w5 => some w4)
set_option maxHeartbeats 4000000 in
set_option maxRecDepth 100000 in
theorem wb_H_freeUnits_4 {x : JX} {ad : Nat → Nat} {cA : ClassId} {wr : va_W} (C : jC x cc_H_freeUnits 4 "PlainWarehouse$House") (hT : (jT x)[0]? = some (cA, .int)) (hR : jR x = rm_H_freeUnits)  (c1 : Int32) (σ : SP) (v2 : Int32) (v3 : Int32) {o : (Int32 × Int32) ⊕ (Int32 × Int32)} (h : b_H_freeUnits_4 c1 σ v2 v3 = some o) (kc : ∀ (u2 : Int32) (u3 : Int32), o = .inl (u2, u3) → jW x 4 0 0 4 [(0, .ref (ad 2)), (1, .int c1), (2, .int u2), (3, .int u3)] [] ((wP ad cA σ) ++ wr)) (ke : ∀ (u2 : Int32) (u3 : Int32), o = .inr (u2, u3) → jW x 4 0 0 37 [(0, .ref (ad 2)), (1, .int c1), (2, .int u2), (3, .int u3)] [] ((wP ad cA σ) ++ wr)) : jW x 4 0 0 4 [(0, .ref (ad 2)), (1, .int c1), (2, .int v2), (3, .int v3)] [] ((wP ad cA σ) ++ wr) := by
  unfold b_H_freeUnits_4 at h
  refine j_iload_n C 3 d_H_freeUnits_4 rfl rfl rfl ?_
  refine j_bipush (v := 20) C d_H_freeUnits_5 rfl (by decide) ?_
  refine j_icmp_ge (tgt := 37) C d_H_freeUnits_7 (by decide) rfl h (fun h => ?_) (fun h => ?_)
  · cases h
    refine j_sub [0, 1, 2, 3] rfl (ke _ _ rfl)
  · refine j_aload_n C 0 d_H_freeUnits_10 rfl rfl rfl ?_
    refine j_iload_n C 3 d_H_freeUnits_11 rfl rfl rfl ?_
    obtain ⟨r1, h2, h⟩ := mb1_some h
    refine j_callV C hR (As := [.int v3]) (ct_H_isFree (jl x) (jD x) (jT x) hT v3 σ h2) kf_H_isFree (by decide) tw_201 tw_203 tw_8 2 rfl rfl (rest := []) rfl rfl (Nat.le_of_ble_eq_true rfl) (by decide) ⟨rfl, rfl⟩ d_H_freeUnits_12 rfl (st1 := [.int r1]) rfl ?_
    refine j_if_eq (tgt := 31) C d_H_freeUnits_15 (by decide) rfl h (fun h => ?_) (fun h => ?_)
    · refine j_iinc (v' := (v3 + 1)) (lv' := [(3, .int (v3 + 1)), (0, .ref (ad 2)), (1, .int c1), (2, .int v2)]) C 3 d_H_freeUnits_31 rfl rfl rfl (by decide) rfl ?_
      refine j_goto (tgt := 4) C d_H_freeUnits_34 (by decide) ?_
      cases h
      refine j_sub [1, 2, 3, 0] rfl (kc _ _ rfl)
    · refine j_aload_n C 0 d_H_freeUnits_18 rfl rfl rfl ?_
      refine j_get C in_H 2 rfl rfl 1 (by decide) tw_79 rfl (v := .ref (ad 4)) rfl d_H_freeUnits_19 rfl ?_
      refine j_iload_n C 3 d_H_freeUnits_22 rfl rfl rfl ?_
      refine j_iald C 4 0 rfl hT d_H_freeUnits_23 rfl h (fun r3 h => ?_)
      refine j_iload_n C 1 d_H_freeUnits_24 rfl rfl rfl ?_
      refine j_icmp_ne (tgt := 31) C d_H_freeUnits_25 (by decide) rfl h (fun h => ?_) (fun h => ?_)
      · refine j_iinc (v' := (v3 + 1)) (lv' := [(3, .int (v3 + 1)), (0, .ref (ad 2)), (1, .int c1), (2, .int v2)]) C 3 d_H_freeUnits_31 rfl rfl rfl (by decide) rfl ?_
        refine j_goto (tgt := 4) C d_H_freeUnits_34 (by decide) ?_
        cases h
        refine j_sub [1, 2, 3, 0] rfl (kc _ _ rfl)
      · refine j_iinc (v' := (v2 + 1)) (lv' := [(2, .int (v2 + 1)), (0, .ref (ad 2)), (1, .int c1), (3, .int v3)]) C 2 d_H_freeUnits_28 rfl rfl rfl (by decide) rfl ?_
        refine j_iinc (v' := (v3 + 1)) (lv' := [(3, .int (v3 + 1)), (2, .int (v2 + 1)), (0, .ref (ad 2)), (1, .int c1)]) C 3 d_H_freeUnits_31 rfl rfl rfl (by decide) rfl ?_
        refine j_goto (tgt := 4) C d_H_freeUnits_34 (by decide) ?_
        cases h
        refine j_sub [2, 3, 1, 0] rfl (kc _ _ rfl)
set_option maxRecDepth 100000 in
theorem wl_H_freeUnits_4 {x : JX} {ad : Nat → Nat} {cA : ClassId} {wr : va_W} (C : jC x cc_H_freeUnits 4 "PlainWarehouse$House") (hT : (jT x)[0]? = some (cA, .int)) (hR : jR x = rm_H_freeUnits)  (c1 : Int32) (σ : SP) (v2 : Int32) (v3 : Int32) {u2 : Int32} {u3 : Int32} (n : Nat) (h : lp (fun s => b_H_freeUnits_4 c1 σ s.1 s.2) n (v2, v3) = some (u2, u3)) (K : jW x 4 0 0 37 [(0, .ref (ad 2)), (1, .int c1), (2, .int u2), (3, .int u3)] [] ((wP ad cA σ) ++ wr)) : jW x 4 0 0 4 [(0, .ref (ad 2)), (1, .int c1), (2, .int v2), (3, .int v3)] [] ((wP ad cA σ) ++ wr) :=
  j_lp (Pr := fun s => jW x 4 0 0 4 [(0, .ref (ad 2)), (1, .int c1), (2, .int s.1), (3, .int s.2)] [] ((wP ad cA σ) ++ wr)) (K := fun s => jW x 4 0 0 37 [(0, .ref (ad 2)), (1, .int c1), (2, .int s.1), (3, .int s.2)] [] ((wP ad cA σ) ++ wr)) (fun s o h kc ke => wb_H_freeUnits_4 C hT hR c1 σ s.1 s.2 h (fun u2 u3 e => kc _ e) (fun u2 u3 e => ke _ e)) n _ _ h K
set_option maxHeartbeats 4000000 in
set_option maxRecDepth 100000 in
theorem w_H_freeUnits {x : JX} {ad : Nat → Nat} {cA : ClassId} {wr : va_W} (C : jC x cc_H_freeUnits 4 "PlainWarehouse$House") (hT : (jT x)[0]? = some (cA, .int)) (hR : jR x = rm_H_freeUnits)  (a1 : Int32) (σ : SP) {r : Int32} (hr : (jt x).sig.returnType = some .int) (E : jE x 0 0 (some (.int r)) ((wP ad cA σ) ++ wr)) (h : m_H_freeUnits a1 σ = some r) : jW x 4 0 0 0 [(0, .ref (ad 2)), (1, .int a1)] [] ((wP ad cA σ) ++ wr) := by
  unfold m_H_freeUnits at h
  refine j_iconst (v := 0) C d_H_freeUnits_0 rfl (by decide) ?_
  refine j_istore_n (lv' := [(2, .int (0 : Int32)), (0, .ref (ad 2)), (1, .int a1)]) C d_H_freeUnits_1 rfl rfl (by decide) rfl ?_
  refine j_iconst (v := 0) C d_H_freeUnits_2 rfl (by decide) ?_
  refine j_istore_n (lv' := [(3, .int (0 : Int32)), (2, .int (0 : Int32)), (0, .ref (ad 2)), (1, .int a1)]) C d_H_freeUnits_3 rfl rfl (by decide) rfl ?_
  obtain ⟨w4, w5, h6, h⟩ := mb2_some h
  refine j_sub [2, 3, 1, 0] rfl (wl_H_freeUnits_4 C hT hR a1 σ (0 : Int32) (0 : Int32) FU h6 ?_)
  refine j_iload_n C 2 d_H_freeUnits_37 rfl rfl rfl ?_
  cases h
  exact j_iret C E hr d_H_freeUnits_38
theorem ct_H_freeUnits (l : Launch) (D : va_G) (tys : List (ClassId × FieldType)) {ad : Nat → Nat} {cA : ClassId} {wr : va_W} (hT : tys[0]? = some (cA, .int)) (a1 : Int32) (σ : SP) {r : Int32} (h : m_H_freeUnits a1 σ = some r) : jM l y_H_freeUnits ws_H_freeUnits rm_H_freeUnits D tys [.ref (ad 2), .int a1] ((wP ad cA σ) ++ wr) (some (.int r)) ((wP ad cA σ) ++ wr) :=
  j_of (by decide +kernel) rfl (Nat.le_of_ble_eq_true rfl) rfl (fun x _ _ hT' hR C hr _ E => w_H_freeUnits C (by rw [hT']; exact hT) hR a1 σ hr E h)
def rm_H_placesOfUnitsGivenTo : Room := { frames := 1, cells := 0, slots := 0, locals := 21 }
def b_H_placesOfUnitsGivenTo_4 (c1 : Int32) (σ : SP) (v2 : Int32) (v3 : Int32) : Option ((Int32 × Int32) ⊕ (Int32 × Int32)) :=
  (if (20 : Int32) ≤ v3 then some (.inr (v2, v3)) else (mb1 (m_H_isInside v3 σ) fun r1 => (if r1 = 0 then some (.inl (v2, (v3 + 1))) else (mrd 20 (g_gv σ) v3 fun r3 => (if r3 = c1 then (mrd 20 (g_pl σ) v3 fun r4 => some (.inl ((v2 ||| ((1 : Int32) <<< (r4 &&& 31))), (v3 + 1)))) else some (.inl (v2, (v3 + 1))))))))
def m_H_placesOfUnitsGivenTo (a1 : Int32) (σ : SP) : Option (Int32) :=
  (mb2 (lp (fun s => b_H_placesOfUnitsGivenTo_4 a1 σ s.1 s.2) FU ((0 : Int32), (0 : Int32))) fun w5 w6 => some w5)
set_option maxHeartbeats 4000000 in
set_option maxRecDepth 100000 in
theorem wb_H_placesOfUnitsGivenTo_4 {x : JX} {ad : Nat → Nat} {cA : ClassId} {wr : va_W} (C : jC x cc_H_placesOfUnitsGivenTo 4 "PlainWarehouse$House") (hT : (jT x)[0]? = some (cA, .int)) (hR : jR x = rm_H_placesOfUnitsGivenTo)  (c1 : Int32) (σ : SP) (v2 : Int32) (v3 : Int32) {o : (Int32 × Int32) ⊕ (Int32 × Int32)} (h : b_H_placesOfUnitsGivenTo_4 c1 σ v2 v3 = some o) (kc : ∀ (u2 : Int32) (u3 : Int32), o = .inl (u2, u3) → jW x 4 0 0 4 [(0, .ref (ad 2)), (1, .int c1), (2, .int u2), (3, .int u3)] [] ((wP ad cA σ) ++ wr)) (ke : ∀ (u2 : Int32) (u3 : Int32), o = .inr (u2, u3) → jW x 4 0 0 45 [(0, .ref (ad 2)), (1, .int c1), (2, .int u2), (3, .int u3)] [] ((wP ad cA σ) ++ wr)) : jW x 4 0 0 4 [(0, .ref (ad 2)), (1, .int c1), (2, .int v2), (3, .int v3)] [] ((wP ad cA σ) ++ wr) := by
  unfold b_H_placesOfUnitsGivenTo_4 at h
  refine j_iload_n C 3 d_H_placesOfUnitsGivenTo_4 rfl rfl rfl ?_
  refine j_bipush (v := 20) C d_H_placesOfUnitsGivenTo_5 rfl (by decide) ?_
  refine j_icmp_ge (tgt := 45) C d_H_placesOfUnitsGivenTo_7 (by decide) rfl h (fun h => ?_) (fun h => ?_)
  · cases h
    refine j_sub [0, 1, 2, 3] rfl (ke _ _ rfl)
  · refine j_aload_n C 0 d_H_placesOfUnitsGivenTo_10 rfl rfl rfl ?_
    refine j_iload_n C 3 d_H_placesOfUnitsGivenTo_11 rfl rfl rfl ?_
    obtain ⟨r1, h2, h⟩ := mb1_some h
    refine j_callV C hR (As := [.int v3]) (ct_H_isInside (jl x) (jD x) (jT x) hT v3 σ h2) kf_H_isInside (by decide) tw_189 tw_191 tw_5 2 rfl rfl (rest := []) rfl rfl (Nat.le_of_ble_eq_true rfl) (by decide) ⟨rfl, rfl⟩ d_H_placesOfUnitsGivenTo_12 rfl (st1 := [.int r1]) rfl ?_
    refine j_if_eq (tgt := 39) C d_H_placesOfUnitsGivenTo_15 (by decide) rfl h (fun h => ?_) (fun h => ?_)
    · refine j_iinc (v' := (v3 + 1)) (lv' := [(3, .int (v3 + 1)), (0, .ref (ad 2)), (1, .int c1), (2, .int v2)]) C 3 d_H_placesOfUnitsGivenTo_39 rfl rfl rfl (by decide) rfl ?_
      refine j_goto (tgt := 4) C d_H_placesOfUnitsGivenTo_42 (by decide) ?_
      cases h
      refine j_sub [1, 2, 3, 0] rfl (kc _ _ rfl)
    · refine j_aload_n C 0 d_H_placesOfUnitsGivenTo_18 rfl rfl rfl ?_
      refine j_get C in_H 2 rfl rfl 2 (by decide) tw_80 rfl (v := .ref (ad 5)) rfl d_H_placesOfUnitsGivenTo_19 rfl ?_
      refine j_iload_n C 3 d_H_placesOfUnitsGivenTo_22 rfl rfl rfl ?_
      refine j_iald C 5 0 rfl hT d_H_placesOfUnitsGivenTo_23 rfl h (fun r3 h => ?_)
      refine j_iload_n C 1 d_H_placesOfUnitsGivenTo_24 rfl rfl rfl ?_
      refine j_icmp_ne (tgt := 39) C d_H_placesOfUnitsGivenTo_25 (by decide) rfl h (fun h => ?_) (fun h => ?_)
      · refine j_iinc (v' := (v3 + 1)) (lv' := [(3, .int (v3 + 1)), (0, .ref (ad 2)), (1, .int c1), (2, .int v2)]) C 3 d_H_placesOfUnitsGivenTo_39 rfl rfl rfl (by decide) rfl ?_
        refine j_goto (tgt := 4) C d_H_placesOfUnitsGivenTo_42 (by decide) ?_
        cases h
        refine j_sub [1, 2, 3, 0] rfl (kc _ _ rfl)
      · refine j_iload_n C 2 d_H_placesOfUnitsGivenTo_28 rfl rfl rfl ?_
        refine j_iconst (v := 1) C d_H_placesOfUnitsGivenTo_29 rfl (by decide) ?_
        refine j_aload_n C 0 d_H_placesOfUnitsGivenTo_30 rfl rfl rfl ?_
        refine j_get C in_H 2 rfl rfl 0 (by decide) tw_77 rfl (v := .ref (ad 3)) rfl d_H_placesOfUnitsGivenTo_31 rfl ?_
        refine j_iload_n C 3 d_H_placesOfUnitsGivenTo_34 rfl rfl rfl ?_
        refine j_iald C 3 0 rfl hT d_H_placesOfUnitsGivenTo_35 rfl h (fun r4 h => ?_)
        refine j_ishl C d_H_placesOfUnitsGivenTo_36 rfl ?_
        refine j_ior C d_H_placesOfUnitsGivenTo_37 rfl ?_
        refine j_istore_n (lv' := [(2, .int (v2 ||| ((1 : Int32) <<< (r4 &&& 31)))), (0, .ref (ad 2)), (1, .int c1), (3, .int v3)]) C d_H_placesOfUnitsGivenTo_38 rfl rfl (by decide) rfl ?_
        refine j_iinc (v' := (v3 + 1)) (lv' := [(3, .int (v3 + 1)), (2, .int (v2 ||| ((1 : Int32) <<< (r4 &&& 31)))), (0, .ref (ad 2)), (1, .int c1)]) C 3 d_H_placesOfUnitsGivenTo_39 rfl rfl rfl (by decide) rfl ?_
        refine j_goto (tgt := 4) C d_H_placesOfUnitsGivenTo_42 (by decide) ?_
        cases h
        refine j_sub [2, 3, 1, 0] rfl (kc _ _ rfl)
set_option maxRecDepth 100000 in
theorem wl_H_placesOfUnitsGivenTo_4 {x : JX} {ad : Nat → Nat} {cA : ClassId} {wr : va_W} (C : jC x cc_H_placesOfUnitsGivenTo 4 "PlainWarehouse$House") (hT : (jT x)[0]? = some (cA, .int)) (hR : jR x = rm_H_placesOfUnitsGivenTo)  (c1 : Int32) (σ : SP) (v2 : Int32) (v3 : Int32) {u2 : Int32} {u3 : Int32} (n : Nat) (h : lp (fun s => b_H_placesOfUnitsGivenTo_4 c1 σ s.1 s.2) n (v2, v3) = some (u2, u3)) (K : jW x 4 0 0 45 [(0, .ref (ad 2)), (1, .int c1), (2, .int u2), (3, .int u3)] [] ((wP ad cA σ) ++ wr)) : jW x 4 0 0 4 [(0, .ref (ad 2)), (1, .int c1), (2, .int v2), (3, .int v3)] [] ((wP ad cA σ) ++ wr) :=
  j_lp (Pr := fun s => jW x 4 0 0 4 [(0, .ref (ad 2)), (1, .int c1), (2, .int s.1), (3, .int s.2)] [] ((wP ad cA σ) ++ wr)) (K := fun s => jW x 4 0 0 45 [(0, .ref (ad 2)), (1, .int c1), (2, .int s.1), (3, .int s.2)] [] ((wP ad cA σ) ++ wr)) (fun s o h kc ke => wb_H_placesOfUnitsGivenTo_4 C hT hR c1 σ s.1 s.2 h (fun u2 u3 e => kc _ e) (fun u2 u3 e => ke _ e)) n _ _ h K
set_option maxHeartbeats 4000000 in
set_option maxRecDepth 100000 in
theorem w_H_placesOfUnitsGivenTo {x : JX} {ad : Nat → Nat} {cA : ClassId} {wr : va_W} (C : jC x cc_H_placesOfUnitsGivenTo 4 "PlainWarehouse$House") (hT : (jT x)[0]? = some (cA, .int)) (hR : jR x = rm_H_placesOfUnitsGivenTo)  (a1 : Int32) (σ : SP) {r : Int32} (hr : (jt x).sig.returnType = some .int) (E : jE x 0 0 (some (.int r)) ((wP ad cA σ) ++ wr)) (h : m_H_placesOfUnitsGivenTo a1 σ = some r) : jW x 4 0 0 0 [(0, .ref (ad 2)), (1, .int a1)] [] ((wP ad cA σ) ++ wr) := by
  unfold m_H_placesOfUnitsGivenTo at h
  refine j_iconst (v := 0) C d_H_placesOfUnitsGivenTo_0 rfl (by decide) ?_
  refine j_istore_n (lv' := [(2, .int (0 : Int32)), (0, .ref (ad 2)), (1, .int a1)]) C d_H_placesOfUnitsGivenTo_1 rfl rfl (by decide) rfl ?_
  refine j_iconst (v := 0) C d_H_placesOfUnitsGivenTo_2 rfl (by decide) ?_
  refine j_istore_n (lv' := [(3, .int (0 : Int32)), (2, .int (0 : Int32)), (0, .ref (ad 2)), (1, .int a1)]) C d_H_placesOfUnitsGivenTo_3 rfl rfl (by decide) rfl ?_
  obtain ⟨w5, w6, h7, h⟩ := mb2_some h
  refine j_sub [2, 3, 1, 0] rfl (wl_H_placesOfUnitsGivenTo_4 C hT hR a1 σ (0 : Int32) (0 : Int32) FU h7 ?_)
  refine j_iload_n C 2 d_H_placesOfUnitsGivenTo_45 rfl rfl rfl ?_
  cases h
  exact j_iret C E hr d_H_placesOfUnitsGivenTo_46
theorem ct_H_placesOfUnitsGivenTo (l : Launch) (D : va_G) (tys : List (ClassId × FieldType)) {ad : Nat → Nat} {cA : ClassId} {wr : va_W} (hT : tys[0]? = some (cA, .int)) (a1 : Int32) (σ : SP) {r : Int32} (h : m_H_placesOfUnitsGivenTo a1 σ = some r) : jM l y_H_placesOfUnitsGivenTo ws_H_placesOfUnitsGivenTo rm_H_placesOfUnitsGivenTo D tys [.ref (ad 2), .int a1] ((wP ad cA σ) ++ wr) (some (.int r)) ((wP ad cA σ) ++ wr) :=
  j_of (by decide +kernel) rfl (Nat.le_of_ble_eq_true rfl) rfl (fun x _ _ hT' hR C hr _ E => w_H_placesOfUnitsGivenTo C (by rw [hT']; exact hT) hR a1 σ hr E h)
def rm_H_toldOrders : Room := { frames := 1, cells := 0, slots := 0, locals := 21 }
def b_H_toldOrders_4 (σ : SP) (v1 : Int32) (v2 : Int32) : Option ((Int32 × Int32) ⊕ (Int32 × Int32)) :=
  (if (10 : Int32) ≤ v2 then some (.inr (v1, v2)) else (mb1 (m_H_isTold v2 σ) fun r1 => (if r1 = 0 then some (.inl (v1, (v2 + 1))) else some (.inl ((v1 + 1), (v2 + 1))))))
def m_H_toldOrders (σ : SP) : Option (Int32) :=
  (mb2 (lp (fun s => b_H_toldOrders_4 σ s.1 s.2) FU ((0 : Int32), (0 : Int32))) fun w3 w4 => some w3)
set_option maxHeartbeats 4000000 in
set_option maxRecDepth 100000 in
theorem wb_H_toldOrders_4 {x : JX} {ad : Nat → Nat} {cA : ClassId} {wr : va_W} (C : jC x cc_H_toldOrders 3 "PlainWarehouse$House") (hT : (jT x)[0]? = some (cA, .int)) (hR : jR x = rm_H_toldOrders)  (σ : SP) (v1 : Int32) (v2 : Int32) {o : (Int32 × Int32) ⊕ (Int32 × Int32)} (h : b_H_toldOrders_4 σ v1 v2 = some o) (kc : ∀ (u1 : Int32) (u2 : Int32), o = .inl (u1, u2) → jW x 3 0 0 4 [(0, .ref (ad 2)), (1, .int u1), (2, .int u2)] [] ((wP ad cA σ) ++ wr)) (ke : ∀ (u1 : Int32) (u2 : Int32), o = .inr (u1, u2) → jW x 3 0 0 27 [(0, .ref (ad 2)), (1, .int u1), (2, .int u2)] [] ((wP ad cA σ) ++ wr)) : jW x 3 0 0 4 [(0, .ref (ad 2)), (1, .int v1), (2, .int v2)] [] ((wP ad cA σ) ++ wr) := by
  unfold b_H_toldOrders_4 at h
  refine j_iload_n C 2 d_H_toldOrders_4 rfl rfl rfl ?_
  refine j_bipush (v := 10) C d_H_toldOrders_5 rfl (by decide) ?_
  refine j_icmp_ge (tgt := 27) C d_H_toldOrders_7 (by decide) rfl h (fun h => ?_) (fun h => ?_)
  · cases h
    refine j_sub [0, 1, 2] rfl (ke _ _ rfl)
  · refine j_aload_n C 0 d_H_toldOrders_10 rfl rfl rfl ?_
    refine j_iload_n C 2 d_H_toldOrders_11 rfl rfl rfl ?_
    obtain ⟨r1, h2, h⟩ := mb1_some h
    refine j_callV C hR (As := [.int v2]) (ct_H_isTold (jl x) (jD x) (jT x) hT v2 σ h2) kf_H_isTold (by decide) tw_197 tw_199 tw_7 2 rfl rfl (rest := []) rfl rfl (Nat.le_of_ble_eq_true rfl) (by decide) ⟨rfl, rfl⟩ d_H_toldOrders_12 rfl (st1 := [.int r1]) rfl ?_
    refine j_if_eq (tgt := 21) C d_H_toldOrders_15 (by decide) rfl h (fun h => ?_) (fun h => ?_)
    · refine j_iinc (v' := (v2 + 1)) (lv' := [(2, .int (v2 + 1)), (0, .ref (ad 2)), (1, .int v1)]) C 2 d_H_toldOrders_21 rfl rfl rfl (by decide) rfl ?_
      refine j_goto (tgt := 4) C d_H_toldOrders_24 (by decide) ?_
      cases h
      refine j_sub [1, 2, 0] rfl (kc _ _ rfl)
    · refine j_iinc (v' := (v1 + 1)) (lv' := [(1, .int (v1 + 1)), (0, .ref (ad 2)), (2, .int v2)]) C 1 d_H_toldOrders_18 rfl rfl rfl (by decide) rfl ?_
      refine j_iinc (v' := (v2 + 1)) (lv' := [(2, .int (v2 + 1)), (1, .int (v1 + 1)), (0, .ref (ad 2))]) C 2 d_H_toldOrders_21 rfl rfl rfl (by decide) rfl ?_
      refine j_goto (tgt := 4) C d_H_toldOrders_24 (by decide) ?_
      cases h
      refine j_sub [2, 1, 0] rfl (kc _ _ rfl)
set_option maxRecDepth 100000 in
theorem wl_H_toldOrders_4 {x : JX} {ad : Nat → Nat} {cA : ClassId} {wr : va_W} (C : jC x cc_H_toldOrders 3 "PlainWarehouse$House") (hT : (jT x)[0]? = some (cA, .int)) (hR : jR x = rm_H_toldOrders)  (σ : SP) (v1 : Int32) (v2 : Int32) {u1 : Int32} {u2 : Int32} (n : Nat) (h : lp (fun s => b_H_toldOrders_4 σ s.1 s.2) n (v1, v2) = some (u1, u2)) (K : jW x 3 0 0 27 [(0, .ref (ad 2)), (1, .int u1), (2, .int u2)] [] ((wP ad cA σ) ++ wr)) : jW x 3 0 0 4 [(0, .ref (ad 2)), (1, .int v1), (2, .int v2)] [] ((wP ad cA σ) ++ wr) :=
  j_lp (Pr := fun s => jW x 3 0 0 4 [(0, .ref (ad 2)), (1, .int s.1), (2, .int s.2)] [] ((wP ad cA σ) ++ wr)) (K := fun s => jW x 3 0 0 27 [(0, .ref (ad 2)), (1, .int s.1), (2, .int s.2)] [] ((wP ad cA σ) ++ wr)) (fun s o h kc ke => wb_H_toldOrders_4 C hT hR  σ s.1 s.2 h (fun u1 u2 e => kc _ e) (fun u1 u2 e => ke _ e)) n _ _ h K
set_option maxHeartbeats 4000000 in
set_option maxRecDepth 100000 in
theorem w_H_toldOrders {x : JX} {ad : Nat → Nat} {cA : ClassId} {wr : va_W} (C : jC x cc_H_toldOrders 3 "PlainWarehouse$House") (hT : (jT x)[0]? = some (cA, .int)) (hR : jR x = rm_H_toldOrders)  (σ : SP) {r : Int32} (hr : (jt x).sig.returnType = some .int) (E : jE x 0 0 (some (.int r)) ((wP ad cA σ) ++ wr)) (h : m_H_toldOrders σ = some r) : jW x 3 0 0 0 [(0, .ref (ad 2))] [] ((wP ad cA σ) ++ wr) := by
  unfold m_H_toldOrders at h
  refine j_iconst (v := 0) C d_H_toldOrders_0 rfl (by decide) ?_
  refine j_istore_n (lv' := [(1, .int (0 : Int32)), (0, .ref (ad 2))]) C d_H_toldOrders_1 rfl rfl (by decide) rfl ?_
  refine j_iconst (v := 0) C d_H_toldOrders_2 rfl (by decide) ?_
  refine j_istore_n (lv' := [(2, .int (0 : Int32)), (1, .int (0 : Int32)), (0, .ref (ad 2))]) C d_H_toldOrders_3 rfl rfl (by decide) rfl ?_
  obtain ⟨w3, w4, h5, h⟩ := mb2_some h
  refine j_sub [2, 1, 0] rfl (wl_H_toldOrders_4 C hT hR  σ (0 : Int32) (0 : Int32) FU h5 ?_)
  refine j_iload_n C 1 d_H_toldOrders_27 rfl rfl rfl ?_
  cases h
  exact j_iret C E hr d_H_toldOrders_28
theorem ct_H_toldOrders (l : Launch) (D : va_G) (tys : List (ClassId × FieldType)) {ad : Nat → Nat} {cA : ClassId} {wr : va_W} (hT : tys[0]? = some (cA, .int)) (σ : SP) {r : Int32} (h : m_H_toldOrders σ = some r) : jM l y_H_toldOrders ws_H_toldOrders rm_H_toldOrders D tys [.ref (ad 2)] ((wP ad cA σ) ++ wr) (some (.int r)) ((wP ad cA σ) ++ wr) :=
  j_of (by decide +kernel) rfl (Nat.le_of_ble_eq_true rfl) rfl (fun x _ _ hT' hR C hr _ E => w_H_toldOrders C (by rw [hT']; exact hT) hR σ hr E h)
def rm_H_fullOrders : Room := { frames := 2, cells := 0, slots := 0, locals := 42 }
def b_H_fullOrders_4 (σ : SP) (v1 : Int32) (v2 : Int32) : Option ((Int32 × Int32) ⊕ (Int32 × Int32)) :=
  (if (10 : Int32) ≤ v2 then some (.inr (v1, v2)) else (mb1 (m_H_isFull v2 σ) fun r1 => (if r1 = 0 then some (.inl (v1, (v2 + 1))) else some (.inl ((v1 + 1), (v2 + 1))))))
def m_H_fullOrders (σ : SP) : Option (Int32) :=
  (mb2 (lp (fun s => b_H_fullOrders_4 σ s.1 s.2) FU ((0 : Int32), (0 : Int32))) fun w3 w4 => some w3)
set_option maxHeartbeats 4000000 in
set_option maxRecDepth 100000 in
theorem wb_H_fullOrders_4 {x : JX} {ad : Nat → Nat} {cA : ClassId} {wr : va_W} (C : jC x cc_H_fullOrders 3 "PlainWarehouse$House") (hT : (jT x)[0]? = some (cA, .int)) (hR : jR x = rm_H_fullOrders)  (σ : SP) (v1 : Int32) (v2 : Int32) {o : (Int32 × Int32) ⊕ (Int32 × Int32)} (h : b_H_fullOrders_4 σ v1 v2 = some o) (kc : ∀ (u1 : Int32) (u2 : Int32), o = .inl (u1, u2) → jW x 3 0 0 4 [(0, .ref (ad 2)), (1, .int u1), (2, .int u2)] [] ((wP ad cA σ) ++ wr)) (ke : ∀ (u1 : Int32) (u2 : Int32), o = .inr (u1, u2) → jW x 3 0 0 27 [(0, .ref (ad 2)), (1, .int u1), (2, .int u2)] [] ((wP ad cA σ) ++ wr)) : jW x 3 0 0 4 [(0, .ref (ad 2)), (1, .int v1), (2, .int v2)] [] ((wP ad cA σ) ++ wr) := by
  unfold b_H_fullOrders_4 at h
  refine j_iload_n C 2 d_H_fullOrders_4 rfl rfl rfl ?_
  refine j_bipush (v := 10) C d_H_fullOrders_5 rfl (by decide) ?_
  refine j_icmp_ge (tgt := 27) C d_H_fullOrders_7 (by decide) rfl h (fun h => ?_) (fun h => ?_)
  · cases h
    refine j_sub [0, 1, 2] rfl (ke _ _ rfl)
  · refine j_aload_n C 0 d_H_fullOrders_10 rfl rfl rfl ?_
    refine j_iload_n C 2 d_H_fullOrders_11 rfl rfl rfl ?_
    obtain ⟨r1, h2, h⟩ := mb1_some h
    refine j_callV C hR (As := [.int v2]) (ct_H_isFull (jl x) (jD x) (jT x) hT v2 σ h2) kf_H_isFull (by decide) tw_235 tw_237 tw_15 2 rfl rfl (rest := []) rfl rfl (Nat.le_of_ble_eq_true rfl) (by decide) ⟨rfl, rfl⟩ d_H_fullOrders_12 rfl (st1 := [.int r1]) rfl ?_
    refine j_if_eq (tgt := 21) C d_H_fullOrders_15 (by decide) rfl h (fun h => ?_) (fun h => ?_)
    · refine j_iinc (v' := (v2 + 1)) (lv' := [(2, .int (v2 + 1)), (0, .ref (ad 2)), (1, .int v1)]) C 2 d_H_fullOrders_21 rfl rfl rfl (by decide) rfl ?_
      refine j_goto (tgt := 4) C d_H_fullOrders_24 (by decide) ?_
      cases h
      refine j_sub [1, 2, 0] rfl (kc _ _ rfl)
    · refine j_iinc (v' := (v1 + 1)) (lv' := [(1, .int (v1 + 1)), (0, .ref (ad 2)), (2, .int v2)]) C 1 d_H_fullOrders_18 rfl rfl rfl (by decide) rfl ?_
      refine j_iinc (v' := (v2 + 1)) (lv' := [(2, .int (v2 + 1)), (1, .int (v1 + 1)), (0, .ref (ad 2))]) C 2 d_H_fullOrders_21 rfl rfl rfl (by decide) rfl ?_
      refine j_goto (tgt := 4) C d_H_fullOrders_24 (by decide) ?_
      cases h
      refine j_sub [2, 1, 0] rfl (kc _ _ rfl)
set_option maxRecDepth 100000 in
theorem wl_H_fullOrders_4 {x : JX} {ad : Nat → Nat} {cA : ClassId} {wr : va_W} (C : jC x cc_H_fullOrders 3 "PlainWarehouse$House") (hT : (jT x)[0]? = some (cA, .int)) (hR : jR x = rm_H_fullOrders)  (σ : SP) (v1 : Int32) (v2 : Int32) {u1 : Int32} {u2 : Int32} (n : Nat) (h : lp (fun s => b_H_fullOrders_4 σ s.1 s.2) n (v1, v2) = some (u1, u2)) (K : jW x 3 0 0 27 [(0, .ref (ad 2)), (1, .int u1), (2, .int u2)] [] ((wP ad cA σ) ++ wr)) : jW x 3 0 0 4 [(0, .ref (ad 2)), (1, .int v1), (2, .int v2)] [] ((wP ad cA σ) ++ wr) :=
  j_lp (Pr := fun s => jW x 3 0 0 4 [(0, .ref (ad 2)), (1, .int s.1), (2, .int s.2)] [] ((wP ad cA σ) ++ wr)) (K := fun s => jW x 3 0 0 27 [(0, .ref (ad 2)), (1, .int s.1), (2, .int s.2)] [] ((wP ad cA σ) ++ wr)) (fun s o h kc ke => wb_H_fullOrders_4 C hT hR  σ s.1 s.2 h (fun u1 u2 e => kc _ e) (fun u1 u2 e => ke _ e)) n _ _ h K
set_option maxHeartbeats 4000000 in
set_option maxRecDepth 100000 in
theorem w_H_fullOrders {x : JX} {ad : Nat → Nat} {cA : ClassId} {wr : va_W} (C : jC x cc_H_fullOrders 3 "PlainWarehouse$House") (hT : (jT x)[0]? = some (cA, .int)) (hR : jR x = rm_H_fullOrders)  (σ : SP) {r : Int32} (hr : (jt x).sig.returnType = some .int) (E : jE x 0 0 (some (.int r)) ((wP ad cA σ) ++ wr)) (h : m_H_fullOrders σ = some r) : jW x 3 0 0 0 [(0, .ref (ad 2))] [] ((wP ad cA σ) ++ wr) := by
  unfold m_H_fullOrders at h
  refine j_iconst (v := 0) C d_H_fullOrders_0 rfl (by decide) ?_
  refine j_istore_n (lv' := [(1, .int (0 : Int32)), (0, .ref (ad 2))]) C d_H_fullOrders_1 rfl rfl (by decide) rfl ?_
  refine j_iconst (v := 0) C d_H_fullOrders_2 rfl (by decide) ?_
  refine j_istore_n (lv' := [(2, .int (0 : Int32)), (1, .int (0 : Int32)), (0, .ref (ad 2))]) C d_H_fullOrders_3 rfl rfl (by decide) rfl ?_
  obtain ⟨w3, w4, h5, h⟩ := mb2_some h
  refine j_sub [2, 1, 0] rfl (wl_H_fullOrders_4 C hT hR  σ (0 : Int32) (0 : Int32) FU h5 ?_)
  refine j_iload_n C 1 d_H_fullOrders_27 rfl rfl rfl ?_
  cases h
  exact j_iret C E hr d_H_fullOrders_28
theorem ct_H_fullOrders (l : Launch) (D : va_G) (tys : List (ClassId × FieldType)) {ad : Nat → Nat} {cA : ClassId} {wr : va_W} (hT : tys[0]? = some (cA, .int)) (σ : SP) {r : Int32} (h : m_H_fullOrders σ = some r) : jM l y_H_fullOrders ws_H_fullOrders rm_H_fullOrders D tys [.ref (ad 2)] ((wP ad cA σ) ++ wr) (some (.int r)) ((wP ad cA σ) ++ wr) :=
  j_of (by decide +kernel) rfl (Nat.le_of_ble_eq_true rfl) rfl (fun x _ _ hT' hR C hr _ E => w_H_fullOrders C (by rw [hT']; exact hT) hR σ hr E h)
def rm_H_linkedPairs : Room := { frames := 1, cells := 0, slots := 0, locals := 21 }
def b_H_linkedPairs_14 (c2 : Int32) (σ : SP) (v1 : Int32) (v3 : Int32) : Option ((Int32 × Int32) ⊕ (Int32 × Int32)) :=
  (if (10 : Int32) ≤ v3 then some (.inr (v1, v3)) else (mb1 (m_P_pair c2 v3) fun r1 => (mrd 100 (g_lk σ) r1 fun r3 => (if r3 ≤ 0 then some (.inl (v1, (v3 + 1))) else some (.inl ((v1 + 1), (v3 + 1)))))))
def b_H_linkedPairs_4 (σ : SP) (v1 : Int32) (v2 : Int32) : Option ((Int32 × Int32) ⊕ (Int32 × Int32)) :=
  (if (10 : Int32) ≤ v2 then some (.inr (v1, v2)) else (mb2 (lp (fun s => b_H_linkedPairs_14 v2 σ s.1 s.2) FU (v1, (v2 + (1 : Int32)))) fun w4 w5 => some (.inl (w4, (v2 + 1)))))
def m_H_linkedPairs (σ : SP) : Option (Int32) :=
  (mb2 (lp (fun s => b_H_linkedPairs_4 σ s.1 s.2) FU ((0 : Int32), (0 : Int32))) fun w7 w8 => some w7)
set_option maxHeartbeats 4000000 in
set_option maxRecDepth 100000 in
theorem wb_H_linkedPairs_14 {x : JX} {ad : Nat → Nat} {cA : ClassId} {wr : va_W} (C : jC x cc_H_linkedPairs 4 "PlainWarehouse$House") (hT : (jT x)[0]? = some (cA, .int)) (hR : jR x = rm_H_linkedPairs)  (c2 : Int32) (σ : SP) (v1 : Int32) (v3 : Int32) {o : (Int32 × Int32) ⊕ (Int32 × Int32)} (h : b_H_linkedPairs_14 c2 σ v1 v3 = some o) (kc : ∀ (u1 : Int32) (u3 : Int32), o = .inl (u1, u3) → jW x 4 0 0 14 [(0, .ref (ad 2)), (1, .int u1), (2, .int c2), (3, .int u3)] [] ((wP ad cA σ) ++ wr)) (ke : ∀ (u1 : Int32) (u3 : Int32), o = .inr (u1, u3) → jW x 4 0 0 42 [(0, .ref (ad 2)), (1, .int u1), (2, .int c2), (3, .int u3)] [] ((wP ad cA σ) ++ wr)) : jW x 4 0 0 14 [(0, .ref (ad 2)), (1, .int v1), (2, .int c2), (3, .int v3)] [] ((wP ad cA σ) ++ wr) := by
  unfold b_H_linkedPairs_14 at h
  refine j_iload_n C 3 d_H_linkedPairs_14 rfl rfl rfl ?_
  refine j_bipush (v := 10) C d_H_linkedPairs_15 rfl (by decide) ?_
  refine j_icmp_ge (tgt := 42) C d_H_linkedPairs_17 (by decide) rfl h (fun h => ?_) (fun h => ?_)
  · cases h
    refine j_sub [0, 1, 2, 3] rfl (ke _ _ rfl)
  · refine j_aload_n C 0 d_H_linkedPairs_20 rfl rfl rfl ?_
    refine j_get C in_H 2 rfl rfl 7 (by decide) tw_91 rfl (v := .ref (ad 10)) rfl d_H_linkedPairs_21 rfl ?_
    refine j_iload_n C 2 d_H_linkedPairs_24 rfl rfl rfl ?_
    refine j_iload_n C 3 d_H_linkedPairs_25 rfl rfl rfl ?_
    obtain ⟨r1, h2, h⟩ := mb1_some h
    refine j_callSN C hR (As := [.int c2, .int v3]) (ct_P_pair (jl x) (jD x) (jT x) c2 v3 h2) kf_P_pair (by decide) tw_217 tw_218 (rest := [.ref (ad 10)]) rfl rfl (Nat.le_of_ble_eq_true rfl) (by decide) ⟨rfl, rfl⟩ d_H_linkedPairs_26 rfl (st1 := [.int r1, .ref (ad 10)]) rfl ?_
    refine j_iald C 10 0 rfl hT d_H_linkedPairs_29 rfl h (fun r3 h => ?_)
    refine j_if_le (tgt := 36) C d_H_linkedPairs_30 (by decide) rfl h (fun h => ?_) (fun h => ?_)
    · refine j_iinc (v' := (v3 + 1)) (lv' := [(3, .int (v3 + 1)), (0, .ref (ad 2)), (1, .int v1), (2, .int c2)]) C 3 d_H_linkedPairs_36 rfl rfl rfl (by decide) rfl ?_
      refine j_goto (tgt := 14) C d_H_linkedPairs_39 (by decide) ?_
      cases h
      refine j_sub [1, 2, 3, 0] rfl (kc _ _ rfl)
    · refine j_iinc (v' := (v1 + 1)) (lv' := [(1, .int (v1 + 1)), (0, .ref (ad 2)), (2, .int c2), (3, .int v3)]) C 1 d_H_linkedPairs_33 rfl rfl rfl (by decide) rfl ?_
      refine j_iinc (v' := (v3 + 1)) (lv' := [(3, .int (v3 + 1)), (1, .int (v1 + 1)), (0, .ref (ad 2)), (2, .int c2)]) C 3 d_H_linkedPairs_36 rfl rfl rfl (by decide) rfl ?_
      refine j_goto (tgt := 14) C d_H_linkedPairs_39 (by decide) ?_
      cases h
      refine j_sub [2, 1, 3, 0] rfl (kc _ _ rfl)
set_option maxRecDepth 100000 in
theorem wl_H_linkedPairs_14 {x : JX} {ad : Nat → Nat} {cA : ClassId} {wr : va_W} (C : jC x cc_H_linkedPairs 4 "PlainWarehouse$House") (hT : (jT x)[0]? = some (cA, .int)) (hR : jR x = rm_H_linkedPairs)  (c2 : Int32) (σ : SP) (v1 : Int32) (v3 : Int32) {u1 : Int32} {u3 : Int32} (n : Nat) (h : lp (fun s => b_H_linkedPairs_14 c2 σ s.1 s.2) n (v1, v3) = some (u1, u3)) (K : jW x 4 0 0 42 [(0, .ref (ad 2)), (1, .int u1), (2, .int c2), (3, .int u3)] [] ((wP ad cA σ) ++ wr)) : jW x 4 0 0 14 [(0, .ref (ad 2)), (1, .int v1), (2, .int c2), (3, .int v3)] [] ((wP ad cA σ) ++ wr) :=
  j_lp (Pr := fun s => jW x 4 0 0 14 [(0, .ref (ad 2)), (1, .int s.1), (2, .int c2), (3, .int s.2)] [] ((wP ad cA σ) ++ wr)) (K := fun s => jW x 4 0 0 42 [(0, .ref (ad 2)), (1, .int s.1), (2, .int c2), (3, .int s.2)] [] ((wP ad cA σ) ++ wr)) (fun s o h kc ke => wb_H_linkedPairs_14 C hT hR c2 σ s.1 s.2 h (fun u1 u3 e => kc _ e) (fun u1 u3 e => ke _ e)) n _ _ h K
set_option maxHeartbeats 4000000 in
set_option maxRecDepth 100000 in
theorem wb_H_linkedPairs_4 {x : JX} {ad : Nat → Nat} {cA : ClassId} {wr : va_W} (C : jC x cc_H_linkedPairs 4 "PlainWarehouse$House") (hT : (jT x)[0]? = some (cA, .int)) (hR : jR x = rm_H_linkedPairs)  (σ : SP) (v1 : Int32) (v2 : Int32) {o : (Int32 × Int32) ⊕ (Int32 × Int32)} (h : b_H_linkedPairs_4 σ v1 v2 = some o) (kc : ∀ (u1 : Int32) (u2 : Int32), o = .inl (u1, u2) → jW x 4 0 0 4 [(0, .ref (ad 2)), (1, .int u1), (2, .int u2)] [] ((wP ad cA σ) ++ wr)) (ke : ∀ (u1 : Int32) (u2 : Int32), o = .inr (u1, u2) → jW x 4 0 0 48 [(0, .ref (ad 2)), (1, .int u1), (2, .int u2)] [] ((wP ad cA σ) ++ wr)) : jW x 4 0 0 4 [(0, .ref (ad 2)), (1, .int v1), (2, .int v2)] [] ((wP ad cA σ) ++ wr) := by
  unfold b_H_linkedPairs_4 at h
  refine j_iload_n C 2 d_H_linkedPairs_4 rfl rfl rfl ?_
  refine j_bipush (v := 10) C d_H_linkedPairs_5 rfl (by decide) ?_
  refine j_icmp_ge (tgt := 48) C d_H_linkedPairs_7 (by decide) rfl h (fun h => ?_) (fun h => ?_)
  · cases h
    refine j_sub [0, 1, 2] rfl (ke _ _ rfl)
  · refine j_iload_n C 2 d_H_linkedPairs_10 rfl rfl rfl ?_
    refine j_iconst (v := 1) C d_H_linkedPairs_11 rfl (by decide) ?_
    refine j_iadd C d_H_linkedPairs_12 rfl ?_
    refine j_istore_n (lv' := [(3, .int (v2 + (1 : Int32))), (0, .ref (ad 2)), (1, .int v1), (2, .int v2)]) C d_H_linkedPairs_13 rfl rfl (by decide) rfl ?_
    obtain ⟨w4, w5, h6, h⟩ := mb2_some h
    refine j_sub [1, 2, 3, 0] rfl (wl_H_linkedPairs_14 C hT hR v2 σ v1 (v2 + (1 : Int32)) FU h6 ?_)
    refine j_iinc (v' := (v2 + 1)) (lv' := [(2, .int (v2 + 1)), (0, .ref (ad 2)), (1, .int w4), (3, .int w5)]) C 2 d_H_linkedPairs_42 rfl rfl rfl (by decide) rfl ?_
    refine j_goto (tgt := 4) C d_H_linkedPairs_45 (by decide) ?_
    cases h
    refine j_sub [1, 2, 0] rfl (kc _ _ rfl)
set_option maxRecDepth 100000 in
theorem wl_H_linkedPairs_4 {x : JX} {ad : Nat → Nat} {cA : ClassId} {wr : va_W} (C : jC x cc_H_linkedPairs 4 "PlainWarehouse$House") (hT : (jT x)[0]? = some (cA, .int)) (hR : jR x = rm_H_linkedPairs)  (σ : SP) (v1 : Int32) (v2 : Int32) {u1 : Int32} {u2 : Int32} (n : Nat) (h : lp (fun s => b_H_linkedPairs_4 σ s.1 s.2) n (v1, v2) = some (u1, u2)) (K : jW x 4 0 0 48 [(0, .ref (ad 2)), (1, .int u1), (2, .int u2)] [] ((wP ad cA σ) ++ wr)) : jW x 4 0 0 4 [(0, .ref (ad 2)), (1, .int v1), (2, .int v2)] [] ((wP ad cA σ) ++ wr) :=
  j_lp (Pr := fun s => jW x 4 0 0 4 [(0, .ref (ad 2)), (1, .int s.1), (2, .int s.2)] [] ((wP ad cA σ) ++ wr)) (K := fun s => jW x 4 0 0 48 [(0, .ref (ad 2)), (1, .int s.1), (2, .int s.2)] [] ((wP ad cA σ) ++ wr)) (fun s o h kc ke => wb_H_linkedPairs_4 C hT hR  σ s.1 s.2 h (fun u1 u2 e => kc _ e) (fun u1 u2 e => ke _ e)) n _ _ h K
set_option maxHeartbeats 4000000 in
set_option maxRecDepth 100000 in
theorem w_H_linkedPairs {x : JX} {ad : Nat → Nat} {cA : ClassId} {wr : va_W} (C : jC x cc_H_linkedPairs 4 "PlainWarehouse$House") (hT : (jT x)[0]? = some (cA, .int)) (hR : jR x = rm_H_linkedPairs)  (σ : SP) {r : Int32} (hr : (jt x).sig.returnType = some .int) (E : jE x 0 0 (some (.int r)) ((wP ad cA σ) ++ wr)) (h : m_H_linkedPairs σ = some r) : jW x 4 0 0 0 [(0, .ref (ad 2))] [] ((wP ad cA σ) ++ wr) := by
  unfold m_H_linkedPairs at h
  refine j_iconst (v := 0) C d_H_linkedPairs_0 rfl (by decide) ?_
  refine j_istore_n (lv' := [(1, .int (0 : Int32)), (0, .ref (ad 2))]) C d_H_linkedPairs_1 rfl rfl (by decide) rfl ?_
  refine j_iconst (v := 0) C d_H_linkedPairs_2 rfl (by decide) ?_
  refine j_istore_n (lv' := [(2, .int (0 : Int32)), (1, .int (0 : Int32)), (0, .ref (ad 2))]) C d_H_linkedPairs_3 rfl rfl (by decide) rfl ?_
  obtain ⟨w7, w8, h9, h⟩ := mb2_some h
  refine j_sub [2, 1, 0] rfl (wl_H_linkedPairs_4 C hT hR  σ (0 : Int32) (0 : Int32) FU h9 ?_)
  refine j_iload_n C 1 d_H_linkedPairs_48 rfl rfl rfl ?_
  cases h
  exact j_iret C E hr d_H_linkedPairs_49
theorem ct_H_linkedPairs (l : Launch) (D : va_G) (tys : List (ClassId × FieldType)) {ad : Nat → Nat} {cA : ClassId} {wr : va_W} (hT : tys[0]? = some (cA, .int)) (σ : SP) {r : Int32} (h : m_H_linkedPairs σ = some r) : jM l y_H_linkedPairs ws_H_linkedPairs rm_H_linkedPairs D tys [.ref (ad 2)] ((wP ad cA σ) ++ wr) (some (.int r)) ((wP ad cA σ) ++ wr) :=
  j_of (by decide +kernel) rfl (Nat.le_of_ble_eq_true rfl) rfl (fun x _ _ hT' hR C hr _ E => w_H_linkedPairs C (by rw [hT']; exact hT) hR σ hr E h)
def rm_H_empty : Room := { frames := 1, cells := 0, slots := 0, locals := 23 }
def m_H_empty (σ : SP) : Option (SP) :=
  (mlet (u_pl σ (fil 20 (-1 : Int32) (g_pl σ))) fun σ1 => (mlet (u_gv σ1 (fil 20 (-1 : Int32) (g_gv σ1))) fun σ2 => (mlet (u_wa σ2 (fil 10 (0 : Int32) (g_wa σ2))) fun σ3 => (mlet (u_gt σ3 (fil 10 (0 : Int32) (g_gt σ3))) fun σ4 => (mlet (u_ce σ4 (fil 4 (0 : Int32) (g_ce σ4))) fun σ5 => (mlet (u_lk σ5 (fil 100 (0 : Int32) (g_lk σ5))) fun σ6 => some σ6))))))
set_option maxHeartbeats 4000000 in
set_option maxRecDepth 100000 in
theorem w_H_empty {x : JX} {ad : Nat → Nat} {cA : ClassId} {wr : va_W} (C : jC x cc_H_empty 1 "PlainWarehouse$House") (hT : (jT x)[0]? = some (cA, .int)) (hR : jR x = rm_H_empty)  (σ : SP) {σ' : SP} (hr : (jt x).sig.returnType = none) (E : jE x 0 0 none ((wP ad cA σ') ++ wr)) (h : m_H_empty σ = some σ') : jW x 1 0 0 0 [(0, .ref (ad 2))] [] ((wP ad cA σ) ++ wr) := by
  unfold m_H_empty at h
  refine j_aload_n C 0 d_H_empty_0 rfl rfl rfl ?_
  refine j_get C in_H 2 rfl rfl 0 (by decide) tw_77 rfl (v := .ref (ad 3)) rfl d_H_empty_1 rfl ?_
  refine j_iconst (v := (-1)) C d_H_empty_4 rfl (by decide) ?_
  refine j_fill C hR tw_174 tw_175 3 rfl (by decide) hT (by decide) (Nat.le_of_ble_eq_true rfl) (by decide) d_H_empty_5 rfl (fun t => (wP ad cA t) ++ wr) h rfl (fun σ1 h => ?_)
  refine j_aload_n C 0 d_H_empty_8 rfl rfl rfl ?_
  refine j_get C in_H 2 rfl rfl 2 (by decide) tw_80 rfl (v := .ref (ad 5)) rfl d_H_empty_9 rfl ?_
  refine j_iconst (v := (-1)) C d_H_empty_12 rfl (by decide) ?_
  refine j_fill C hR tw_174 tw_175 5 rfl (by decide) hT (by decide) (Nat.le_of_ble_eq_true rfl) (by decide) d_H_empty_13 rfl (fun t => (wP ad cA t) ++ wr) h rfl (fun σ2 h => ?_)
  refine j_aload_n C 0 d_H_empty_16 rfl rfl rfl ?_
  refine j_get C in_H 2 rfl rfl 3 (by decide) tw_81 rfl (v := .ref (ad 6)) rfl d_H_empty_17 rfl ?_
  refine j_iconst (v := 0) C d_H_empty_20 rfl (by decide) ?_
  refine j_fill C hR tw_174 tw_175 6 rfl (by decide) hT (by decide) (Nat.le_of_ble_eq_true rfl) (by decide) d_H_empty_21 rfl (fun t => (wP ad cA t) ++ wr) h rfl (fun σ3 h => ?_)
  refine j_aload_n C 0 d_H_empty_24 rfl rfl rfl ?_
  refine j_get C in_H 2 rfl rfl 5 (by decide) tw_86 rfl (v := .ref (ad 8)) rfl d_H_empty_25 rfl ?_
  refine j_iconst (v := 0) C d_H_empty_28 rfl (by decide) ?_
  refine j_fill C hR tw_174 tw_175 8 rfl (by decide) hT (by decide) (Nat.le_of_ble_eq_true rfl) (by decide) d_H_empty_29 rfl (fun t => (wP ad cA t) ++ wr) h rfl (fun σ4 h => ?_)
  refine j_aload_n C 0 d_H_empty_32 rfl rfl rfl ?_
  refine j_get C in_H 2 rfl rfl 6 (by decide) tw_89 rfl (v := .ref (ad 9)) rfl d_H_empty_33 rfl ?_
  refine j_iconst (v := 0) C d_H_empty_36 rfl (by decide) ?_
  refine j_fill C hR tw_174 tw_175 9 rfl (by decide) hT (by decide) (Nat.le_of_ble_eq_true rfl) (by decide) d_H_empty_37 rfl (fun t => (wP ad cA t) ++ wr) h rfl (fun σ5 h => ?_)
  refine j_aload_n C 0 d_H_empty_40 rfl rfl rfl ?_
  refine j_get C in_H 2 rfl rfl 7 (by decide) tw_91 rfl (v := .ref (ad 10)) rfl d_H_empty_41 rfl ?_
  refine j_iconst (v := 0) C d_H_empty_44 rfl (by decide) ?_
  refine j_fill C hR tw_174 tw_175 10 rfl (by decide) hT (by decide) (Nat.le_of_ble_eq_true rfl) (by decide) d_H_empty_45 rfl (fun t => (wP ad cA t) ++ wr) h rfl (fun σ6 h => ?_)
  cases h
  exact j_vret C E hr d_H_empty_48
theorem ct_H_empty (l : Launch) (D : va_G) (tys : List (ClassId × FieldType)) {ad : Nat → Nat} {cA : ClassId} {wr : va_W} (hT : tys[0]? = some (cA, .int)) (σ : SP) {σ' : SP} (h : m_H_empty σ = some σ') : jM l y_H_empty ws_H_empty rm_H_empty D tys [.ref (ad 2)] ((wP ad cA σ) ++ wr) none ((wP ad cA σ') ++ wr) :=
  j_of (by decide +kernel) rfl (Nat.le_of_ble_eq_true rfl) rfl (fun x _ _ hT' hR C hr _ E => w_H_empty C (by rw [hT']; exact hT) hR σ hr E h)
end
section
set_option maxRecDepth 100000 in
theorem tw_20 : Cond.selects "PlainWarehouse$House" (⟨"PlainWarehouse$House", "freeUnits", "(I)I"⟩ : MethodName) (⟨"PlainWarehouse$House", "freeUnits", "(I)I"⟩ : MethodName) ∈ WS := ws_in 20 rfl rfl
set_option maxRecDepth 100000 in
theorem tw_23 : Cond.selects "PlainWarehouse$Fillings" (⟨"PlainWarehouse$Fillings", "countFree", "(LPlainWarehouse$House;)V"⟩ : MethodName) (⟨"PlainWarehouse$Fillings", "countFree", "(LPlainWarehouse$House;)V"⟩ : MethodName) ∈ WS := ws_in 23 rfl rfl
set_option maxRecDepth 100000 in
theorem tw_24 : Cond.selects "PlainWarehouse$Fillings" (⟨"PlainWarehouse$Fillings", "chooseOpen", "(LPlainWarehouse$House;I)V"⟩ : MethodName) (⟨"PlainWarehouse$Fillings", "chooseOpen", "(LPlainWarehouse$House;I)V"⟩ : MethodName) ∈ WS := ws_in 24 rfl rfl
set_option maxRecDepth 100000 in
theorem tw_25 : Cond.selects "PlainWarehouse$Fillings" (⟨"PlainWarehouse$Fillings", "isEnoughFor", "(I)Z"⟩ : MethodName) (⟨"PlainWarehouse$Fillings", "isEnoughFor", "(I)Z"⟩ : MethodName) ∈ WS := ws_in 25 rfl rfl
set_option maxRecDepth 100000 in
theorem tw_27 : Cond.selects "PlainWarehouse$Ways" (⟨"PlainWarehouse$Ways", "layLinks", "(LPlainWarehouse$House;)V"⟩ : MethodName) (⟨"PlainWarehouse$Ways", "layLinks", "(LPlainWarehouse$House;)V"⟩ : MethodName) ∈ WS := ws_in 27 rfl rfl
set_option maxRecDepth 100000 in
theorem tw_28 : Cond.selects "PlainWarehouse$Ways" (⟨"PlainWarehouse$Ways", "shortenVia", "(II)V"⟩ : MethodName) (⟨"PlainWarehouse$Ways", "shortenVia", "(II)V"⟩ : MethodName) ∈ WS := ws_in 28 rfl rfl
set_option maxRecDepth 100000 in
theorem tw_60 : Cond.initialized "java/lang/System" ∈ WS := ws_in 60 rfl rfl
set_option maxRecDepth 100000 in
theorem tw_61 : Cond.initialized "java/lang/Math" ∈ WS := ws_in 61 rfl rfl
set_option maxRecDepth 100000 in
theorem tw_82 : Cond.fieldLinkNest "PlainWarehouse$Fillings" (58 : Nat) "PlainWarehouse$House" "wanted" "[I" "PlainWarehouse" ∈ NWS := nws_in 82 rfl rfl
set_option maxRecDepth 100000 in
theorem tw_84 : Cond.fieldLinkNest "PlainWarehouse$Fillings" (64 : Nat) "PlainWarehouse$House" "goodWanted" "[I" "PlainWarehouse" ∈ NWS := nws_in 84 rfl rfl
set_option maxRecDepth 100000 in
theorem tw_87 : Cond.fieldLinkNest "PlainWarehouse$Fillings" (61 : Nat) "PlainWarehouse$House" "got" "[I" "PlainWarehouse" ∈ NWS := nws_in 87 rfl rfl
set_option maxRecDepth 100000 in
theorem tw_92 : Cond.fieldLinkNest "PlainWarehouse$Ways" (23 : Nat) "PlainWarehouse$House" "link" "[I" "PlainWarehouse" ∈ NWS := nws_in 92 rfl rfl
set_option maxRecDepth 100000 in
theorem tw_117 : Cond.fieldLink "PlainWarehouse$Fillings" (9 : Nat) "PlainWarehouse$Fillings" "lacking" "[I" ∈ WS := ws_in 117 rfl rfl
set_option maxRecDepth 100000 in
theorem tw_118 : Cond.fieldLink "PlainWarehouse$Fillings" (15 : Nat) "PlainWarehouse$Fillings" "goods" "[I" ∈ WS := ws_in 118 rfl rfl
set_option maxRecDepth 100000 in
theorem tw_119 : Cond.fieldLink "PlainWarehouse$Fillings" (18 : Nat) "PlainWarehouse$Fillings" "free" "[I" ∈ WS := ws_in 119 rfl rfl
set_option maxRecDepth 100000 in
theorem tw_120 : Cond.fieldLink "PlainWarehouse$Fillings" (21 : Nat) "PlainWarehouse$Fillings" "left" "[I" ∈ WS := ws_in 120 rfl rfl
set_option maxRecDepth 100000 in
theorem tw_121 : Cond.fieldLink "PlainWarehouse$Fillings" (24 : Nat) "PlainWarehouse$Fillings" "size" "I" ∈ WS := ws_in 121 rfl rfl
set_option maxRecDepth 100000 in
theorem tw_139 : Cond.fieldLink "PlainWarehouse$Ways" (9 : Nat) "PlainWarehouse$Ways" "seconds" "[I" ∈ WS := ws_in 139 rfl rfl
set_option maxRecDepth 100000 in
theorem tw_412 : Cond.instanceMethod ({ cls := "PlainWarehouse$House", name := "freeUnits", desc := "(I)I" } : MethodName) ∈ WS := ws_in 412 rfl rfl
set_option maxRecDepth 100000 in
theorem tw_427 : Cond.static ({ cls := "PlainWarehouse", name := "isInSet", desc := "(II)Z" } : MethodName) ∈ WS := ws_in 427 rfl rfl
set_option maxRecDepth 100000 in
theorem tw_431 : Cond.static ({ cls := "java/lang/Integer", name := "bitCount", desc := "(I)I" } : MethodName) ∈ WS := ws_in 431 rfl rfl
set_option maxRecDepth 100000 in
theorem tw_440 : Cond.methodLink "PlainWarehouse$Fillings" (28 : Nat) ({ cls := "PlainWarehouse$Fillings", name := "countFree", desc := "(LPlainWarehouse$House;)V" } : MethodName) ∈ WS := ws_in 440 rfl rfl
set_option maxRecDepth 100000 in
theorem tw_442 : Cond.instanceMethod ({ cls := "PlainWarehouse$Fillings", name := "countFree", desc := "(LPlainWarehouse$House;)V" } : MethodName) ∈ WS := ws_in 442 rfl rfl
set_option maxRecDepth 100000 in
theorem tw_444 : Cond.methodLinkNest "PlainWarehouse$Fillings" (46 : Nat) ({ cls := "PlainWarehouse$House", name := "freeUnits", desc := "(I)I" } : MethodName) "PlainWarehouse" ∈ NWS := nws_in 444 rfl rfl
set_option maxRecDepth 100000 in
theorem tw_445 : Cond.methodLink "PlainWarehouse$Fillings" (32 : Nat) ({ cls := "PlainWarehouse$Fillings", name := "chooseOpen", desc := "(LPlainWarehouse$House;I)V" } : MethodName) ∈ WS := ws_in 445 rfl rfl
set_option maxRecDepth 100000 in
theorem tw_447 : Cond.instanceMethod ({ cls := "PlainWarehouse$Fillings", name := "chooseOpen", desc := "(LPlainWarehouse$House;I)V" } : MethodName) ∈ WS := ws_in 447 rfl rfl
set_option maxRecDepth 100000 in
theorem tw_449 : Cond.methodLinkNest "PlainWarehouse$Fillings" (51 : Nat) ({ cls := "PlainWarehouse", name := "isInSet", desc := "(II)Z" } : MethodName) "PlainWarehouse" ∈ NWS := nws_in 449 rfl rfl
set_option maxRecDepth 100000 in
theorem tw_450 : Cond.methodLinkNest "PlainWarehouse$Fillings" (55 : Nat) ({ cls := "PlainWarehouse$House", name := "isOpen", desc := "(I)Z" } : MethodName) "PlainWarehouse" ∈ NWS := nws_in 450 rfl rfl
set_option maxRecDepth 100000 in
theorem tw_451 : Cond.methodLink "PlainWarehouse$Fillings" (36 : Nat) ({ cls := "java/lang/Integer", name := "bitCount", desc := "(I)I" } : MethodName) ∈ WS := ws_in 451 rfl rfl
set_option maxRecDepth 100000 in
theorem tw_452 : Cond.methodLink "PlainWarehouse$Fillings" (42 : Nat) ({ cls := "PlainWarehouse$Fillings", name := "isEnoughFor", desc := "(I)Z" } : MethodName) ∈ WS := ws_in 452 rfl rfl
set_option maxRecDepth 100000 in
theorem tw_454 : Cond.instanceMethod ({ cls := "PlainWarehouse$Fillings", name := "isEnoughFor", desc := "(I)Z" } : MethodName) ∈ WS := ws_in 454 rfl rfl
set_option maxRecDepth 100000 in
theorem tw_456 : Cond.methodLink "PlainWarehouse$Fillings" (67 : Nat) ({ cls := "java/lang/System", name := "arraycopy", desc := "(Ljava/lang/Object;ILjava/lang/Object;II)V" } : MethodName) ∈ WS := ws_in 456 rfl rfl
set_option maxRecDepth 100000 in
theorem tw_457 : Cond.static ({ cls := "java/lang/System", name := "arraycopy", desc := "(Ljava/lang/Object;ILjava/lang/Object;II)V" } : MethodName) ∈ WS := ws_in 457 rfl rfl
set_option maxRecDepth 100000 in
theorem tw_458 : Cond.native ({ cls := "java/lang/System", name := "arraycopy", desc := "(Ljava/lang/Object;ILjava/lang/Object;II)V" } : MethodName) ∈ WS := ws_in 458 rfl rfl
set_option maxRecDepth 100000 in
theorem tw_470 : Cond.methodLink "PlainWarehouse$Ways" (15 : Nat) ({ cls := "PlainWarehouse$Ways", name := "layLinks", desc := "(LPlainWarehouse$House;)V" } : MethodName) ∈ WS := ws_in 470 rfl rfl
set_option maxRecDepth 100000 in
theorem tw_472 : Cond.instanceMethod ({ cls := "PlainWarehouse$Ways", name := "layLinks", desc := "(LPlainWarehouse$House;)V" } : MethodName) ∈ WS := ws_in 472 rfl rfl
set_option maxRecDepth 100000 in
theorem tw_474 : Cond.methodLinkNest "PlainWarehouse$Ways" (28 : Nat) ({ cls := "PlainWarehouse", name := "pair", desc := "(II)I" } : MethodName) "PlainWarehouse" ∈ NWS := nws_in 474 rfl rfl
set_option maxRecDepth 100000 in
theorem tw_475 : Cond.constant "PlainWarehouse$Ways" (32 : Nat) (1000000 : Int32) ∈ WS := ws_in 475 rfl rfl
set_option maxRecDepth 100000 in
theorem tw_476 : Cond.methodLink "PlainWarehouse$Ways" (19 : Nat) ({ cls := "PlainWarehouse$Ways", name := "shortenVia", desc := "(II)V" } : MethodName) ∈ WS := ws_in 476 rfl rfl
set_option maxRecDepth 100000 in
theorem tw_478 : Cond.instanceMethod ({ cls := "PlainWarehouse$Ways", name := "shortenVia", desc := "(II)V" } : MethodName) ∈ WS := ws_in 478 rfl rfl
set_option maxRecDepth 100000 in
theorem tw_480 : Cond.methodLink "PlainWarehouse$Ways" (33 : Nat) ({ cls := "java/lang/Math", name := "min", desc := "(II)I" } : MethodName) ∈ WS := ws_in 480 rfl rfl
set_option maxRecDepth 100000 in
theorem tw_481 : Cond.static ({ cls := "java/lang/Math", name := "min", desc := "(II)I" } : MethodName) ∈ WS := ws_in 481 rfl rfl
set_option maxRecDepth 100000 in
theorem tw_482 : Cond.code ({ cls := "java/lang/Math", name := "min", desc := "(II)I" } : MethodName) prog_11_method_69_code (2 : Nat) (Option.some FieldType.int) ∈ WS := ws_in 482 rfl rfl
def rm_F_countFree : Room := { frames := 3, cells := 0, slots := 0, locals := 65 }
def b_F_countFree_2 (v2 : Int32) (σ : SP) : Option ((Int32 × SP) ⊕ (Int32 × SP)) :=
  (if (6 : Int32) ≤ v2 then some (.inr (v2, σ)) else (mb1 (m_H_freeUnits v2 σ) fun r1 => (mck 6 v2 (mlet (u_fr σ (upd (g_fr σ) v2.toNatClampNeg r1)) fun σ3 => some (.inl ((v2 + 1), σ3))))))
def m_F_countFree (σ : SP) : Option (SP) :=
  (mb2 (lp (fun s => b_F_countFree_2 s.1 s.2) FU ((0 : Int32), σ)) fun w4 σ5 => some σ5)
set_option maxHeartbeats 4000000 in
set_option maxRecDepth 100000 in
theorem wb_F_countFree_2 {x : JX} {ad : Nat → Nat} {cA : ClassId} {wr : va_W} (C : jC x cc_F_countFree 3 "PlainWarehouse$Fillings") (hT : (jT x)[0]? = some (cA, .int)) (hR : jR x = rm_F_countFree)  (σ : SP) (v2 : Int32) {o : (Int32 × SP) ⊕ (Int32 × SP)} (h : b_F_countFree_2 v2 σ = some o) (kc : ∀ (u2 : Int32) (τ : SP), o = .inl (u2, τ) → jW x 3 0 0 2 [(0, .ref (ad 11)), (1, .ref (ad 2)), (2, .int u2)] [] ((wP ad cA τ) ++ wr)) (ke : ∀ (u2 : Int32) (τ : SP), o = .inr (u2, τ) → jW x 3 0 0 25 [(0, .ref (ad 11)), (1, .ref (ad 2)), (2, .int u2)] [] ((wP ad cA τ) ++ wr)) : jW x 3 0 0 2 [(0, .ref (ad 11)), (1, .ref (ad 2)), (2, .int v2)] [] ((wP ad cA σ) ++ wr) := by
  unfold b_F_countFree_2 at h
  refine j_iload_n C 2 d_F_countFree_2 rfl rfl rfl ?_
  refine j_bipush (v := 6) C d_F_countFree_3 rfl (by decide) ?_
  refine j_icmp_ge (tgt := 25) C d_F_countFree_5 (by decide) rfl h (fun h => ?_) (fun h => ?_)
  · cases h
    refine j_sub [0, 1, 2] rfl (ke _ _ rfl)
  · refine j_aload_n C 0 d_F_countFree_8 rfl rfl rfl ?_
    refine j_get C in_F 11 rfl rfl 2 (by decide) tw_119 rfl (v := .ref (ad 14)) rfl d_F_countFree_9 rfl ?_
    refine j_iload_n C 2 d_F_countFree_12 rfl rfl rfl ?_
    refine j_aload_n C 1 d_F_countFree_13 rfl rfl rfl ?_
    refine j_iload_n C 2 d_F_countFree_14 rfl rfl rfl ?_
    obtain ⟨r1, h2, h⟩ := mb1_some h
    refine j_callVN C hR (As := [.int v2]) (ct_H_freeUnits (jl x) (jD x) (jT x) hT v2 σ h2) kf_H_freeUnits (by decide) tw_444 tw_412 tw_20 2 rfl rfl (rest := [.int v2, .ref (ad 14)]) rfl rfl (Nat.le_of_ble_eq_true rfl) (by decide) ⟨rfl, rfl⟩ d_F_countFree_15 rfl (st1 := [.int r1, .int v2, .ref (ad 14)]) rfl ?_
    refine j_iast C (fun t => (wP ad cA t) ++ wr) 14 0 rfl hT d_F_countFree_18 rfl h rfl (fun σ3 h => ?_)
    refine j_iinc (v' := (v2 + 1)) (lv' := [(2, .int (v2 + 1)), (0, .ref (ad 11)), (1, .ref (ad 2))]) C 2 d_F_countFree_19 rfl rfl rfl (by decide) rfl ?_
    refine j_goto (tgt := 2) C d_F_countFree_22 (by decide) ?_
    cases h
    refine j_sub [1, 2, 0] rfl (kc _ _ rfl)
set_option maxRecDepth 100000 in
theorem wl_F_countFree_2 {x : JX} {ad : Nat → Nat} {cA : ClassId} {wr : va_W} (C : jC x cc_F_countFree 3 "PlainWarehouse$Fillings") (hT : (jT x)[0]? = some (cA, .int)) (hR : jR x = rm_F_countFree)  (σ : SP) (v2 : Int32) {u2 : Int32} {τ : SP} (n : Nat) (h : lp (fun s => b_F_countFree_2 s.1 s.2) n (v2, σ) = some (u2, τ)) (K : jW x 3 0 0 25 [(0, .ref (ad 11)), (1, .ref (ad 2)), (2, .int u2)] [] ((wP ad cA τ) ++ wr)) : jW x 3 0 0 2 [(0, .ref (ad 11)), (1, .ref (ad 2)), (2, .int v2)] [] ((wP ad cA σ) ++ wr) :=
  j_lp (Pr := fun s => jW x 3 0 0 2 [(0, .ref (ad 11)), (1, .ref (ad 2)), (2, .int s.1)] [] ((wP ad cA s.2) ++ wr)) (K := fun s => jW x 3 0 0 25 [(0, .ref (ad 11)), (1, .ref (ad 2)), (2, .int s.1)] [] ((wP ad cA s.2) ++ wr)) (fun s o h kc ke => wb_F_countFree_2 C hT hR  s.2 s.1 h (fun u2 τ e => kc _ e) (fun u2 τ e => ke _ e)) n _ _ h K
set_option maxHeartbeats 4000000 in
set_option maxRecDepth 100000 in
theorem w_F_countFree {x : JX} {ad : Nat → Nat} {cA : ClassId} {wr : va_W} (C : jC x cc_F_countFree 3 "PlainWarehouse$Fillings") (hT : (jT x)[0]? = some (cA, .int)) (hR : jR x = rm_F_countFree)  (σ : SP) {σ' : SP} (hr : (jt x).sig.returnType = none) (E : jE x 0 0 none ((wP ad cA σ') ++ wr)) (h : m_F_countFree σ = some σ') : jW x 3 0 0 0 [(0, .ref (ad 11)), (1, .ref (ad 2))] [] ((wP ad cA σ) ++ wr) := by
  unfold m_F_countFree at h
  refine j_iconst (v := 0) C d_F_countFree_0 rfl (by decide) ?_
  refine j_istore_n (lv' := [(2, .int (0 : Int32)), (0, .ref (ad 11)), (1, .ref (ad 2))]) C d_F_countFree_1 rfl rfl (by decide) rfl ?_
  obtain ⟨w4, σ5, h6, h⟩ := mb2_some h
  refine j_sub [1, 2, 0] rfl (wl_F_countFree_2 C hT hR  σ (0 : Int32) FU h6 ?_)
  cases h
  exact j_vret C E hr d_F_countFree_25
theorem ct_F_countFree (l : Launch) (D : va_G) (tys : List (ClassId × FieldType)) {ad : Nat → Nat} {cA : ClassId} {wr : va_W} (hT : tys[0]? = some (cA, .int)) (σ : SP) {σ' : SP} (h : m_F_countFree σ = some σ') : jM l y_F_countFree ws_F_countFree rm_F_countFree D tys [.ref (ad 11), .ref (ad 2)] ((wP ad cA σ) ++ wr) none ((wP ad cA σ') ++ wr) :=
  j_of (by decide +kernel) rfl (Nat.le_of_ble_eq_true rfl) rfl (fun x _ _ hT' hR C hr _ E => w_F_countFree C (by rw [hT']; exact hT) hR σ hr E h)
def rm_F_chooseOpen : Room := { frames := 2, cells := 0, slots := 0, locals := 42 }
def b_F_chooseOpen_7 (c2 : Int32) (v3 : Int32) (σ : SP) : Option ((Int32 × SP) ⊕ (Int32 × SP)) :=
  (if (10 : Int32) ≤ v3 then some (.inr (v3, σ)) else (if (6 : Int32) ≤ (g_sz σ) then some (.inr (v3, σ)) else (mb1 (m_P_isInSet v3 c2) fun r2 => (if r2 = 0 then some (.inl ((v3 + 1), σ)) else (mb1 (m_H_isOpen v3 σ) fun r4 => (if r4 = 0 then some (.inl ((v3 + 1), σ)) else (mrd 10 (g_wa σ) v3 fun r6 => (mrd 10 (g_gt σ) v3 fun r7 => (mck 6 (g_sz σ) (mlet (u_la σ (upd (g_la σ) (g_sz σ).toNatClampNeg (r6 - r7))) fun σ8 => (mrd 10 (g_gw σ8) v3 fun r9 => (mck 6 (g_sz σ8) (mlet (u_go σ8 (upd (g_go σ8) (g_sz σ8).toNatClampNeg r9)) fun σ10 => (mlet (u_sz σ10 ((g_sz σ10) + (1 : Int32))) fun σ11 => some (.inl ((v3 + 1), σ11))))))))))))))))
def m_F_chooseOpen (a2 : Int32) (σ : SP) : Option (SP) :=
  (mlet (u_sz σ (0 : Int32)) fun σ1 => (mb2 (lp (fun s => b_F_chooseOpen_7 a2 s.1 s.2) FU ((0 : Int32), σ1)) fun w12 σ13 => some σ13))
set_option maxHeartbeats 4000000 in
set_option maxRecDepth 100000 in
theorem wb_F_chooseOpen_7 {x : JX} {ad : Nat → Nat} {cA : ClassId} {wr : va_W} (C : jC x cc_F_chooseOpen 4 "PlainWarehouse$Fillings") (hT : (jT x)[0]? = some (cA, .int)) (hR : jR x = rm_F_chooseOpen)  (c2 : Int32) (σ : SP) (v3 : Int32) {o : (Int32 × SP) ⊕ (Int32 × SP)} (h : b_F_chooseOpen_7 c2 v3 σ = some o) (kc : ∀ (u3 : Int32) (τ : SP), o = .inl (u3, τ) → jW x 4 0 0 7 [(0, .ref (ad 11)), (1, .ref (ad 2)), (2, .int c2), (3, .int u3)] [] ((wP ad cA τ) ++ wr)) (ke : ∀ (u3 : Int32) (τ : SP), o = .inr (u3, τ) → jW x 4 0 0 91 [(0, .ref (ad 11)), (1, .ref (ad 2)), (2, .int c2), (3, .int u3)] [] ((wP ad cA τ) ++ wr)) : jW x 4 0 0 7 [(0, .ref (ad 11)), (1, .ref (ad 2)), (2, .int c2), (3, .int v3)] [] ((wP ad cA σ) ++ wr) := by
  unfold b_F_chooseOpen_7 at h
  refine j_iload_n C 3 d_F_chooseOpen_7 rfl rfl rfl ?_
  refine j_bipush (v := 10) C d_F_chooseOpen_8 rfl (by decide) ?_
  refine j_icmp_ge (tgt := 91) C d_F_chooseOpen_10 (by decide) rfl h (fun h => ?_) (fun h => ?_)
  · cases h
    refine j_sub [0, 1, 2, 3] rfl (ke _ _ rfl)
  · refine j_aload_n C 0 d_F_chooseOpen_13 rfl rfl rfl ?_
    refine j_get C in_F 11 rfl rfl 4 (by decide) tw_121 rfl (v := .int (g_sz σ)) rfl d_F_chooseOpen_14 rfl ?_
    refine j_bipush (v := 6) C d_F_chooseOpen_17 rfl (by decide) ?_
    refine j_icmp_ge (tgt := 91) C d_F_chooseOpen_19 (by decide) rfl h (fun h => ?_) (fun h => ?_)
    · cases h
      refine j_sub [0, 1, 2, 3] rfl (ke _ _ rfl)
    · refine j_iload_n C 3 d_F_chooseOpen_22 rfl rfl rfl ?_
      refine j_iload_n C 2 d_F_chooseOpen_23 rfl rfl rfl ?_
      obtain ⟨r2, h3, h⟩ := mb1_some h
      refine j_callSN C hR (As := [.int v3, .int c2]) (ct_P_isInSet (jl x) (jD x) (jT x) v3 c2 h3) kf_P_isInSet (by decide) tw_449 tw_427 (rest := []) rfl rfl (Nat.le_of_ble_eq_true rfl) (by decide) ⟨rfl, rfl⟩ d_F_chooseOpen_24 rfl (st1 := [.int r2]) rfl ?_
      refine j_if_eq (tgt := 85) C d_F_chooseOpen_27 (by decide) rfl h (fun h => ?_) (fun h => ?_)
      · refine j_iinc (v' := (v3 + 1)) (lv' := [(3, .int (v3 + 1)), (0, .ref (ad 11)), (1, .ref (ad 2)), (2, .int c2)]) C 3 d_F_chooseOpen_85 rfl rfl rfl (by decide) rfl ?_
        refine j_goto (tgt := 7) C d_F_chooseOpen_88 (by decide) ?_
        cases h
        refine j_sub [1, 2, 3, 0] rfl (kc _ _ rfl)
      · refine j_aload_n C 1 d_F_chooseOpen_30 rfl rfl rfl ?_
        refine j_iload_n C 3 d_F_chooseOpen_31 rfl rfl rfl ?_
        obtain ⟨r4, h5, h⟩ := mb1_some h
        refine j_callVN C hR (As := [.int v3]) (ct_H_isOpen (jl x) (jD x) (jT x) hT v3 σ h5) kf_H_isOpen (by decide) tw_450 tw_195 tw_6 2 rfl rfl (rest := []) rfl rfl (Nat.le_of_ble_eq_true rfl) (by decide) ⟨rfl, rfl⟩ d_F_chooseOpen_32 rfl (st1 := [.int r4]) rfl ?_
        refine j_if_eq (tgt := 85) C d_F_chooseOpen_35 (by decide) rfl h (fun h => ?_) (fun h => ?_)
        · refine j_iinc (v' := (v3 + 1)) (lv' := [(3, .int (v3 + 1)), (0, .ref (ad 11)), (1, .ref (ad 2)), (2, .int c2)]) C 3 d_F_chooseOpen_85 rfl rfl rfl (by decide) rfl ?_
          refine j_goto (tgt := 7) C d_F_chooseOpen_88 (by decide) ?_
          cases h
          refine j_sub [1, 2, 3, 0] rfl (kc _ _ rfl)
        · refine j_aload_n C 0 d_F_chooseOpen_38 rfl rfl rfl ?_
          refine j_get C in_F 11 rfl rfl 0 (by decide) tw_117 rfl (v := .ref (ad 12)) rfl d_F_chooseOpen_39 rfl ?_
          refine j_aload_n C 0 d_F_chooseOpen_42 rfl rfl rfl ?_
          refine j_get C in_F 11 rfl rfl 4 (by decide) tw_121 rfl (v := .int (g_sz σ)) rfl d_F_chooseOpen_43 rfl ?_
          refine j_aload_n C 1 d_F_chooseOpen_46 rfl rfl rfl ?_
          refine j_getN C in_H 2 rfl rfl 3 (by decide) tw_82 rfl (v := .ref (ad 6)) rfl d_F_chooseOpen_47 rfl ?_
          refine j_iload_n C 3 d_F_chooseOpen_50 rfl rfl rfl ?_
          refine j_iald C 6 0 rfl hT d_F_chooseOpen_51 rfl h (fun r6 h => ?_)
          refine j_aload_n C 1 d_F_chooseOpen_52 rfl rfl rfl ?_
          refine j_getN C in_H 2 rfl rfl 5 (by decide) tw_87 rfl (v := .ref (ad 8)) rfl d_F_chooseOpen_53 rfl ?_
          refine j_iload_n C 3 d_F_chooseOpen_56 rfl rfl rfl ?_
          refine j_iald C 8 0 rfl hT d_F_chooseOpen_57 rfl h (fun r7 h => ?_)
          refine j_isub C d_F_chooseOpen_58 rfl ?_
          refine j_iast C (fun t => (wP ad cA t) ++ wr) 12 0 rfl hT d_F_chooseOpen_59 rfl h rfl (fun σ8 h => ?_)
          refine j_aload_n C 0 d_F_chooseOpen_60 rfl rfl rfl ?_
          refine j_get C in_F 11 rfl rfl 1 (by decide) tw_118 rfl (v := .ref (ad 13)) rfl d_F_chooseOpen_61 rfl ?_
          refine j_aload_n C 0 d_F_chooseOpen_64 rfl rfl rfl ?_
          refine j_get C in_F 11 rfl rfl 4 (by decide) tw_121 rfl (v := .int (g_sz σ8)) rfl d_F_chooseOpen_65 rfl ?_
          refine j_aload_n C 1 d_F_chooseOpen_68 rfl rfl rfl ?_
          refine j_getN C in_H 2 rfl rfl 4 (by decide) tw_84 rfl (v := .ref (ad 7)) rfl d_F_chooseOpen_69 rfl ?_
          refine j_iload_n C 3 d_F_chooseOpen_72 rfl rfl rfl ?_
          refine j_iald C 7 0 rfl hT d_F_chooseOpen_73 rfl h (fun r9 h => ?_)
          refine j_iast C (fun t => (wP ad cA t) ++ wr) 13 0 rfl hT d_F_chooseOpen_74 rfl h rfl (fun σ10 h => ?_)
          refine j_aload_n C 0 d_F_chooseOpen_75 rfl rfl rfl ?_
          refine j_dup C d_F_chooseOpen_76 rfl rfl ?_
          refine j_get C in_F 11 rfl rfl 4 (by decide) tw_121 rfl (v := .int (g_sz σ10)) rfl d_F_chooseOpen_77 rfl ?_
          refine j_iconst (v := 1) C d_F_chooseOpen_80 rfl (by decide) ?_
          refine j_iadd C d_F_chooseOpen_81 rfl ?_
          refine j_put C in_F ty_F_ok nm_F 11 rfl rfl 4 (by decide) tw_121 rfl rfl rfl (by decide) (fun t => (wP ad cA t) ++ wr) d_F_chooseOpen_82 rfl h rfl (fun σ11 h => ?_)
          refine j_iinc (v' := (v3 + 1)) (lv' := [(3, .int (v3 + 1)), (0, .ref (ad 11)), (1, .ref (ad 2)), (2, .int c2)]) C 3 d_F_chooseOpen_85 rfl rfl rfl (by decide) rfl ?_
          refine j_goto (tgt := 7) C d_F_chooseOpen_88 (by decide) ?_
          cases h
          refine j_sub [1, 2, 3, 0] rfl (kc _ _ rfl)
set_option maxRecDepth 100000 in
theorem wl_F_chooseOpen_7 {x : JX} {ad : Nat → Nat} {cA : ClassId} {wr : va_W} (C : jC x cc_F_chooseOpen 4 "PlainWarehouse$Fillings") (hT : (jT x)[0]? = some (cA, .int)) (hR : jR x = rm_F_chooseOpen)  (c2 : Int32) (σ : SP) (v3 : Int32) {u3 : Int32} {τ : SP} (n : Nat) (h : lp (fun s => b_F_chooseOpen_7 c2 s.1 s.2) n (v3, σ) = some (u3, τ)) (K : jW x 4 0 0 91 [(0, .ref (ad 11)), (1, .ref (ad 2)), (2, .int c2), (3, .int u3)] [] ((wP ad cA τ) ++ wr)) : jW x 4 0 0 7 [(0, .ref (ad 11)), (1, .ref (ad 2)), (2, .int c2), (3, .int v3)] [] ((wP ad cA σ) ++ wr) :=
  j_lp (Pr := fun s => jW x 4 0 0 7 [(0, .ref (ad 11)), (1, .ref (ad 2)), (2, .int c2), (3, .int s.1)] [] ((wP ad cA s.2) ++ wr)) (K := fun s => jW x 4 0 0 91 [(0, .ref (ad 11)), (1, .ref (ad 2)), (2, .int c2), (3, .int s.1)] [] ((wP ad cA s.2) ++ wr)) (fun s o h kc ke => wb_F_chooseOpen_7 C hT hR c2 s.2 s.1 h (fun u3 τ e => kc _ e) (fun u3 τ e => ke _ e)) n _ _ h K
set_option maxHeartbeats 4000000 in
set_option maxRecDepth 100000 in
theorem w_F_chooseOpen {x : JX} {ad : Nat → Nat} {cA : ClassId} {wr : va_W} (C : jC x cc_F_chooseOpen 4 "PlainWarehouse$Fillings") (hT : (jT x)[0]? = some (cA, .int)) (hR : jR x = rm_F_chooseOpen)  (a2 : Int32) (σ : SP) {σ' : SP} (hr : (jt x).sig.returnType = none) (E : jE x 0 0 none ((wP ad cA σ') ++ wr)) (h : m_F_chooseOpen a2 σ = some σ') : jW x 4 0 0 0 [(0, .ref (ad 11)), (1, .ref (ad 2)), (2, .int a2)] [] ((wP ad cA σ) ++ wr) := by
  unfold m_F_chooseOpen at h
  refine j_aload_n C 0 d_F_chooseOpen_0 rfl rfl rfl ?_
  refine j_iconst (v := 0) C d_F_chooseOpen_1 rfl (by decide) ?_
  refine j_put C in_F ty_F_ok nm_F 11 rfl rfl 4 (by decide) tw_121 rfl rfl rfl (by decide) (fun t => (wP ad cA t) ++ wr) d_F_chooseOpen_2 rfl h rfl (fun σ1 h => ?_)
  refine j_iconst (v := 0) C d_F_chooseOpen_5 rfl (by decide) ?_
  refine j_istore_n (lv' := [(3, .int (0 : Int32)), (0, .ref (ad 11)), (1, .ref (ad 2)), (2, .int a2)]) C d_F_chooseOpen_6 rfl rfl (by decide) rfl ?_
  obtain ⟨w12, σ13, h14, h⟩ := mb2_some h
  refine j_sub [1, 2, 3, 0] rfl (wl_F_chooseOpen_7 C hT hR a2 σ1 (0 : Int32) FU h14 ?_)
  cases h
  exact j_vret C E hr d_F_chooseOpen_91
theorem ct_F_chooseOpen (l : Launch) (D : va_G) (tys : List (ClassId × FieldType)) {ad : Nat → Nat} {cA : ClassId} {wr : va_W} (hT : tys[0]? = some (cA, .int)) (a2 : Int32) (σ : SP) {σ' : SP} (h : m_F_chooseOpen a2 σ = some σ') : jM l y_F_chooseOpen ws_F_chooseOpen rm_F_chooseOpen D tys [.ref (ad 11), .ref (ad 2), .int a2] ((wP ad cA σ) ++ wr) none ((wP ad cA σ') ++ wr) :=
  j_of (by decide +kernel) rfl (Nat.le_of_ble_eq_true rfl) rfl (fun x _ _ hT' hR C hr _ E => w_F_chooseOpen C (by rw [hT']; exact hT) hR a2 σ hr E h)
def rm_F_isEnoughFor : Room := { frames := 1, cells := 0, slots := 0, locals := 60 }
def b_F_isEnoughFor_17 (c1 : Int32) (v2 : Int32) (σ : SP) : Option ((Int32 × SP) ⊕ (Nat × Int32 × SP)) :=
  (if (g_sz σ) ≤ v2 then some (.inr (1, v2, σ)) else (mb1 (m_P_isInSet v2 c1) fun r2 => (if r2 = 0 then some (.inl ((v2 + 1), σ)) else (mrd 6 (g_go σ) v2 fun r4 => (mrd 6 (g_le σ) r4 fun r5 => (mrd 6 (g_la σ) v2 fun r6 => (mck 6 r4 (mlet (u_le σ (upd (g_le σ) r4.toNatClampNeg (r5 - r6))) fun σ7 => (mrd 6 (g_go σ7) v2 fun r8 => (mrd 6 (g_le σ7) r8 fun r9 => (if 0 ≤ r9 then some (.inl ((v2 + 1), σ7)) else some (.inr (0, v2, σ7)))))))))))))
def m_F_isEnoughFor (a1 : Int32) (σ : SP) : Option (Int32 × SP) :=
  (mlet (u_le σ (va_cpy (g_fr σ) (g_le σ) (0 : Int32).toNatClampNeg (0 : Int32).toNatClampNeg (6 : Int32).toNatClampNeg)) fun σ1 => (mb3 (lp (fun s => b_F_isEnoughFor_17 a1 s.1 s.2) FU ((0 : Int32), σ1)) fun tg13 w10 σ11 => (if tg13 = 0 then some ((0 : Int32), σ11) else some ((1 : Int32), σ11))))
set_option maxHeartbeats 4000000 in
set_option maxRecDepth 100000 in
theorem wb_F_isEnoughFor_17 {x : JX} {ad : Nat → Nat} {cA : ClassId} {wr : va_W} (C : jC x cc_F_isEnoughFor 3 "PlainWarehouse$Fillings") (hT : (jT x)[0]? = some (cA, .int)) (hR : jR x = rm_F_isEnoughFor)  (c1 : Int32) (σ : SP) (v2 : Int32) {o : (Int32 × SP) ⊕ (Nat × Int32 × SP)} (h : b_F_isEnoughFor_17 c1 v2 σ = some o) (kc : ∀ (u2 : Int32) (τ : SP), o = .inl (u2, τ) → jW x 3 0 0 17 [(0, .ref (ad 11)), (1, .int c1), (2, .int u2)] [] ((wP ad cA τ) ++ wr)) (ke0 : ∀ (u2 : Int32) (τ : SP), o = .inr (0, u2, τ) → jW x 3 0 0 67 [(0, .ref (ad 11)), (1, .int c1), (2, .int u2)] [] ((wP ad cA τ) ++ wr)) (ke1 : ∀ (u2 : Int32) (τ : SP), o = .inr (1, u2, τ) → jW x 3 0 0 75 [(0, .ref (ad 11)), (1, .int c1), (2, .int u2)] [] ((wP ad cA τ) ++ wr)) : jW x 3 0 0 17 [(0, .ref (ad 11)), (1, .int c1), (2, .int v2)] [] ((wP ad cA σ) ++ wr) := by
  unfold b_F_isEnoughFor_17 at h
  refine j_iload_n C 2 d_F_isEnoughFor_17 rfl rfl rfl ?_
  refine j_aload_n C 0 d_F_isEnoughFor_18 rfl rfl rfl ?_
  refine j_get C in_F 11 rfl rfl 4 (by decide) tw_121 rfl (v := .int (g_sz σ)) rfl d_F_isEnoughFor_19 rfl ?_
  refine j_icmp_ge (tgt := 75) C d_F_isEnoughFor_22 (by decide) rfl h (fun h => ?_) (fun h => ?_)
  · cases h
    refine j_sub [0, 1, 2] rfl (ke1 _ _ rfl)
  · refine j_iload_n C 2 d_F_isEnoughFor_25 rfl rfl rfl ?_
    refine j_iload_n C 1 d_F_isEnoughFor_26 rfl rfl rfl ?_
    obtain ⟨r2, h3, h⟩ := mb1_some h
    refine j_callSN C hR (As := [.int v2, .int c1]) (ct_P_isInSet (jl x) (jD x) (jT x) v2 c1 h3) kf_P_isInSet (by decide) tw_449 tw_427 (rest := []) rfl rfl (Nat.le_of_ble_eq_true rfl) (by decide) ⟨rfl, rfl⟩ d_F_isEnoughFor_27 rfl (st1 := [.int r2]) rfl ?_
    refine j_if_eq (tgt := 69) C d_F_isEnoughFor_30 (by decide) rfl h (fun h => ?_) (fun h => ?_)
    · refine j_iinc (v' := (v2 + 1)) (lv' := [(2, .int (v2 + 1)), (0, .ref (ad 11)), (1, .int c1)]) C 2 d_F_isEnoughFor_69 rfl rfl rfl (by decide) rfl ?_
      refine j_goto (tgt := 17) C d_F_isEnoughFor_72 (by decide) ?_
      cases h
      refine j_sub [1, 2, 0] rfl (kc _ _ rfl)
    · refine j_aload_n C 0 d_F_isEnoughFor_33 rfl rfl rfl ?_
      refine j_get C in_F 11 rfl rfl 3 (by decide) tw_120 rfl (v := .ref (ad 15)) rfl d_F_isEnoughFor_34 rfl ?_
      refine j_aload_n C 0 d_F_isEnoughFor_37 rfl rfl rfl ?_
      refine j_get C in_F 11 rfl rfl 1 (by decide) tw_118 rfl (v := .ref (ad 13)) rfl d_F_isEnoughFor_38 rfl ?_
      refine j_iload_n C 2 d_F_isEnoughFor_41 rfl rfl rfl ?_
      refine j_iald C 13 0 rfl hT d_F_isEnoughFor_42 rfl h (fun r4 h => ?_)
      refine j_dup2 C d_F_isEnoughFor_43 rfl rfl rfl ?_
      refine j_iald C 15 0 rfl hT d_F_isEnoughFor_44 rfl h (fun r5 h => ?_)
      refine j_aload_n C 0 d_F_isEnoughFor_45 rfl rfl rfl ?_
      refine j_get C in_F 11 rfl rfl 0 (by decide) tw_117 rfl (v := .ref (ad 12)) rfl d_F_isEnoughFor_46 rfl ?_
      refine j_iload_n C 2 d_F_isEnoughFor_49 rfl rfl rfl ?_
      refine j_iald C 12 0 rfl hT d_F_isEnoughFor_50 rfl h (fun r6 h => ?_)
      refine j_isub C d_F_isEnoughFor_51 rfl ?_
      refine j_iast C (fun t => (wP ad cA t) ++ wr) 15 0 rfl hT d_F_isEnoughFor_52 rfl h rfl (fun σ7 h => ?_)
      refine j_aload_n C 0 d_F_isEnoughFor_53 rfl rfl rfl ?_
      refine j_get C in_F 11 rfl rfl 3 (by decide) tw_120 rfl (v := .ref (ad 15)) rfl d_F_isEnoughFor_54 rfl ?_
      refine j_aload_n C 0 d_F_isEnoughFor_57 rfl rfl rfl ?_
      refine j_get C in_F 11 rfl rfl 1 (by decide) tw_118 rfl (v := .ref (ad 13)) rfl d_F_isEnoughFor_58 rfl ?_
      refine j_iload_n C 2 d_F_isEnoughFor_61 rfl rfl rfl ?_
      refine j_iald C 13 0 rfl hT d_F_isEnoughFor_62 rfl h (fun r8 h => ?_)
      refine j_iald C 15 0 rfl hT d_F_isEnoughFor_63 rfl h (fun r9 h => ?_)
      refine j_if_ge (tgt := 69) C d_F_isEnoughFor_64 (by decide) rfl h (fun h => ?_) (fun h => ?_)
      · refine j_iinc (v' := (v2 + 1)) (lv' := [(2, .int (v2 + 1)), (0, .ref (ad 11)), (1, .int c1)]) C 2 d_F_isEnoughFor_69 rfl rfl rfl (by decide) rfl ?_
        refine j_goto (tgt := 17) C d_F_isEnoughFor_72 (by decide) ?_
        cases h
        refine j_sub [1, 2, 0] rfl (kc _ _ rfl)
      · cases h
        refine j_sub [0, 1, 2] rfl (ke0 _ _ rfl)
set_option maxRecDepth 100000 in
theorem wl_F_isEnoughFor_17 {x : JX} {ad : Nat → Nat} {cA : ClassId} {wr : va_W} (C : jC x cc_F_isEnoughFor 3 "PlainWarehouse$Fillings") (hT : (jT x)[0]? = some (cA, .int)) (hR : jR x = rm_F_isEnoughFor)  (c1 : Int32) (σ : SP) (v2 : Int32) {u2 : Int32} {τ : SP} {tg : Nat} (n : Nat) (h : lp (fun s => b_F_isEnoughFor_17 c1 s.1 s.2) n (v2, σ) = some (tg, u2, τ)) (K0 : tg = 0 → jW x 3 0 0 67 [(0, .ref (ad 11)), (1, .int c1), (2, .int u2)] [] ((wP ad cA τ) ++ wr)) (K1 : ¬ tg = 0 → jW x 3 0 0 75 [(0, .ref (ad 11)), (1, .int c1), (2, .int u2)] [] ((wP ad cA τ) ++ wr)) : jW x 3 0 0 17 [(0, .ref (ad 11)), (1, .int c1), (2, .int v2)] [] ((wP ad cA σ) ++ wr) :=
  j_lp (Pr := fun s => jW x 3 0 0 17 [(0, .ref (ad 11)), (1, .int c1), (2, .int s.1)] [] ((wP ad cA s.2) ++ wr)) (K := fun s => (s.1 = 0 → jW x 3 0 0 67 [(0, .ref (ad 11)), (1, .int c1), (2, .int s.2.1)] [] ((wP ad cA s.2.2) ++ wr)) ∧ (¬ s.1 = 0 → jW x 3 0 0 75 [(0, .ref (ad 11)), (1, .int c1), (2, .int s.2.1)] [] ((wP ad cA s.2.2) ++ wr))) (fun s o h kc ke => wb_F_isEnoughFor_17 C hT hR c1 s.2 s.1 h (fun u2 τ e => kc _ e) (fun u2 τ e => (ke _ e).1 rfl) (fun u2 τ e => (ke _ e).2 (by decide))) n _ _ h ⟨K0, K1⟩
set_option maxHeartbeats 4000000 in
set_option maxRecDepth 100000 in
theorem w_F_isEnoughFor {x : JX} {ad : Nat → Nat} {cA : ClassId} {wr : va_W} (C : jC x cc_F_isEnoughFor 3 "PlainWarehouse$Fillings") (hT : (jT x)[0]? = some (cA, .int)) (hR : jR x = rm_F_isEnoughFor)  (a1 : Int32) (σ : SP) {r : Int32} {σ' : SP} (hr : (jt x).sig.returnType = some .boolean) (E : jE x 0 0 (some (.int r)) ((wP ad cA σ') ++ wr)) (h : m_F_isEnoughFor a1 σ = some (r, σ')) : jW x 3 0 0 0 [(0, .ref (ad 11)), (1, .int a1)] [] ((wP ad cA σ) ++ wr) := by
  unfold m_F_isEnoughFor at h
  refine j_aload_n C 0 d_F_isEnoughFor_0 rfl rfl rfl ?_
  refine j_get C in_F 11 rfl rfl 2 (by decide) tw_119 rfl (v := .ref (ad 14)) rfl d_F_isEnoughFor_1 rfl ?_
  refine j_iconst (v := 0) C d_F_isEnoughFor_4 rfl (by decide) ?_
  refine j_aload_n C 0 d_F_isEnoughFor_5 rfl rfl rfl ?_
  refine j_get C in_F 11 rfl rfl 3 (by decide) tw_120 rfl (v := .ref (ad 15)) rfl d_F_isEnoughFor_6 rfl ?_
  refine j_iconst (v := 0) C d_F_isEnoughFor_9 rfl (by decide) ?_
  refine j_bipush (v := 6) C d_F_isEnoughFor_10 rfl (by decide) ?_
  refine j_copy C hR tw_456 tw_458 tw_457 tw_60 14 15 rfl rfl hT (by decide) (by decide) (by decide) (by decide) (by decide) (by decide) (by decide) d_F_isEnoughFor_12 rfl (fun t => (wP ad cA t) ++ wr) h rfl (fun σ1 h => ?_)
  refine j_iconst (v := 0) C d_F_isEnoughFor_15 rfl (by decide) ?_
  refine j_istore_n (lv' := [(2, .int (0 : Int32)), (0, .ref (ad 11)), (1, .int a1)]) C d_F_isEnoughFor_16 rfl rfl (by decide) rfl ?_
  obtain ⟨tg13, w10, σ11, h12, h⟩ := mb3_some h
  refine j_sub [1, 2, 0] rfl (wl_F_isEnoughFor_17 C hT hR a1 σ1 (0 : Int32) FU h12 (fun q => ?_) (fun q => ?_))
  · rw [if_pos q] at h
    refine j_iconst (v := 0) C d_F_isEnoughFor_67 rfl (by decide) ?_
    cases h
    exact j_zret C E hr rfl d_F_isEnoughFor_68
  · rw [if_neg q] at h
    refine j_iconst (v := 1) C d_F_isEnoughFor_75 rfl (by decide) ?_
    cases h
    exact j_zret C E hr rfl d_F_isEnoughFor_76
theorem ct_F_isEnoughFor (l : Launch) (D : va_G) (tys : List (ClassId × FieldType)) {ad : Nat → Nat} {cA : ClassId} {wr : va_W} (hT : tys[0]? = some (cA, .int)) (a1 : Int32) (σ : SP) {r : Int32} {σ' : SP} (h : m_F_isEnoughFor a1 σ = some (r, σ')) : jM l y_F_isEnoughFor ws_F_isEnoughFor rm_F_isEnoughFor D tys [.ref (ad 11), .int a1] ((wP ad cA σ) ++ wr) (some (.int r)) ((wP ad cA σ') ++ wr) :=
  j_of (by decide +kernel) rfl (Nat.le_of_ble_eq_true rfl) rfl (fun x _ _ hT' hR C hr _ E => w_F_isEnoughFor C (by rw [hT']; exact hT) hR a1 σ hr E h)
def rm_F_most : Room := { frames := 4, cells := 0, slots := 0, locals := 87 }
def b_F_most_16 (v3 : Int32) (v4 : Int32) (σ : SP) : Option ((Int32 × Int32 × SP) ⊕ (Int32 × Int32 × SP)) :=
  (if ((1 : Int32) <<< ((g_sz σ) &&& 31)) ≤ v4 then some (.inr (v3, v4, σ)) else (mb1 (m_JI_bitCount v4) fun r5 => (if r5 ≤ v3 then some (.inl (v3, (v4 + 1), σ)) else (mb2 (m_F_isEnoughFor v4 σ) fun r7 σ8 => (if r7 = 0 then some (.inl (v3, (v4 + 1), σ8)) else (mb1 (m_JI_bitCount v4) fun r10 => some (.inl (r10, (v4 + 1), σ8))))))))
def m_F_most (a2 : Int32) (σ : SP) : Option (Int32 × SP) :=
  (mb1 (m_F_countFree σ) fun σ1 => (mb1 (m_F_chooseOpen a2 σ1) fun σ3 => (mb3 (lp (fun s => b_F_most_16 s.1 s.2.1 s.2.2) FU ((0 : Int32), (0 : Int32), σ3)) fun w12 w13 σ14 => some (w12, σ14))))
set_option maxHeartbeats 4000000 in
set_option maxRecDepth 100000 in
theorem wb_F_most_16 {x : JX} {ad : Nat → Nat} {cA : ClassId} {wr : va_W} (C : jC x cc_F_most 5 "PlainWarehouse$Fillings") (hT : (jT x)[0]? = some (cA, .int)) (hR : jR x = rm_F_most)  (σ : SP) (v3 : Int32) (v4 : Int32) {o : (Int32 × Int32 × SP) ⊕ (Int32 × Int32 × SP)} (h : b_F_most_16 v3 v4 σ = some o) (kc : ∀ (u3 : Int32) (u4 : Int32) (τ : SP), o = .inl (u3, u4, τ) → jW x 5 0 0 16 [(0, .ref (ad 11)), (3, .int u3), (4, .int u4)] [] ((wP ad cA τ) ++ wr)) (ke : ∀ (u3 : Int32) (u4 : Int32) (τ : SP), o = .inr (u3, u4, τ) → jW x 5 0 0 57 [(0, .ref (ad 11)), (3, .int u3), (4, .int u4)] [] ((wP ad cA τ) ++ wr)) : jW x 5 0 0 16 [(0, .ref (ad 11)), (3, .int v3), (4, .int v4)] [] ((wP ad cA σ) ++ wr) := by
  unfold b_F_most_16 at h
  refine j_iload C 2 d_F_most_16 rfl rfl ?_
  refine j_iconst (v := 1) C d_F_most_18 rfl (by decide) ?_
  refine j_aload_n C 0 d_F_most_19 rfl rfl rfl ?_
  refine j_get C in_F 11 rfl rfl 4 (by decide) tw_121 rfl (v := .int (g_sz σ)) rfl d_F_most_20 rfl ?_
  refine j_ishl C d_F_most_23 rfl ?_
  refine j_icmp_ge (tgt := 57) C d_F_most_24 (by decide) rfl h (fun h => ?_) (fun h => ?_)
  · cases h
    refine j_sub [0, 1, 2] rfl (ke _ _ _ rfl)
  · refine j_iload C 2 d_F_most_27 rfl rfl ?_
    obtain ⟨r5, h6, h⟩ := mb1_some h
    refine j_callS C hR (As := [.int v4]) (ct_JI_bitCount (jl x) (jD x) (jT x) v4 h6) kf_JI_bitCount (by decide) tw_451 tw_431 (rest := []) rfl rfl (Nat.le_of_ble_eq_true rfl) (by decide) ⟨rfl, rfl⟩ d_F_most_29 rfl (st1 := [.int r5]) rfl ?_
    refine j_iload_n C 1 d_F_most_32 rfl rfl rfl ?_
    refine j_icmp_le (tgt := 51) C d_F_most_33 (by decide) rfl h (fun h => ?_) (fun h => ?_)
    · refine j_iinc (v' := (v4 + 1)) (lv' := [(4, .int (v4 + 1)), (0, .ref (ad 11)), (3, .int v3)]) C 2 d_F_most_51 rfl rfl rfl (by decide) rfl ?_
      refine j_goto (tgt := 16) C d_F_most_54 (by decide) ?_
      cases h
      refine j_sub [1, 2, 0] rfl (kc _ _ _ rfl)
    · refine j_aload_n C 0 d_F_most_36 rfl rfl rfl ?_
      refine j_iload C 2 d_F_most_37 rfl rfl ?_
      obtain ⟨r7, σ8, h9, h⟩ := mb2_some h
      refine j_callV C hR (As := [.int v4]) (ct_F_isEnoughFor (jl x) (jD x) (jT x) hT v4 σ h9) kf_F_isEnoughFor (by decide) tw_452 tw_454 tw_25 11 rfl rfl (rest := []) rfl rfl (Nat.le_of_ble_eq_true rfl) (by decide) ⟨rfl, rfl⟩ d_F_most_39 rfl (st1 := [.int r7]) rfl ?_
      refine j_if_eq (tgt := 51) C d_F_most_42 (by decide) rfl h (fun h => ?_) (fun h => ?_)
      · refine j_iinc (v' := (v4 + 1)) (lv' := [(4, .int (v4 + 1)), (0, .ref (ad 11)), (3, .int v3)]) C 2 d_F_most_51 rfl rfl rfl (by decide) rfl ?_
        refine j_goto (tgt := 16) C d_F_most_54 (by decide) ?_
        cases h
        refine j_sub [1, 2, 0] rfl (kc _ _ _ rfl)
      · refine j_iload C 2 d_F_most_45 rfl rfl ?_
        obtain ⟨r10, h11, h⟩ := mb1_some h
        refine j_callS C hR (As := [.int v4]) (ct_JI_bitCount (jl x) (jD x) (jT x) v4 h11) kf_JI_bitCount (by decide) tw_451 tw_431 (rest := []) rfl rfl (Nat.le_of_ble_eq_true rfl) (by decide) ⟨rfl, rfl⟩ d_F_most_47 rfl (st1 := [.int r10]) rfl ?_
        refine j_istore_n (lv' := [(3, .int r10), (0, .ref (ad 11)), (4, .int v4)]) C d_F_most_50 rfl rfl (by decide) rfl ?_
        refine j_iinc (v' := (v4 + 1)) (lv' := [(4, .int (v4 + 1)), (3, .int r10), (0, .ref (ad 11))]) C 2 d_F_most_51 rfl rfl rfl (by decide) rfl ?_
        refine j_goto (tgt := 16) C d_F_most_54 (by decide) ?_
        cases h
        refine j_sub [2, 1, 0] rfl (kc _ _ _ rfl)
set_option maxRecDepth 100000 in
theorem wl_F_most_16 {x : JX} {ad : Nat → Nat} {cA : ClassId} {wr : va_W} (C : jC x cc_F_most 5 "PlainWarehouse$Fillings") (hT : (jT x)[0]? = some (cA, .int)) (hR : jR x = rm_F_most)  (σ : SP) (v3 : Int32) (v4 : Int32) {u3 : Int32} {u4 : Int32} {τ : SP} (n : Nat) (h : lp (fun s => b_F_most_16 s.1 s.2.1 s.2.2) n (v3, v4, σ) = some (u3, u4, τ)) (K : jW x 5 0 0 57 [(0, .ref (ad 11)), (3, .int u3), (4, .int u4)] [] ((wP ad cA τ) ++ wr)) : jW x 5 0 0 16 [(0, .ref (ad 11)), (3, .int v3), (4, .int v4)] [] ((wP ad cA σ) ++ wr) :=
  j_lp (Pr := fun s => jW x 5 0 0 16 [(0, .ref (ad 11)), (3, .int s.1), (4, .int s.2.1)] [] ((wP ad cA s.2.2) ++ wr)) (K := fun s => jW x 5 0 0 57 [(0, .ref (ad 11)), (3, .int s.1), (4, .int s.2.1)] [] ((wP ad cA s.2.2) ++ wr)) (fun s o h kc ke => wb_F_most_16 C hT hR  s.2.2 s.1 s.2.1 h (fun u3 u4 τ e => kc _ e) (fun u3 u4 τ e => ke _ e)) n _ _ h K
set_option maxHeartbeats 4000000 in
set_option maxRecDepth 100000 in
theorem w_F_most {x : JX} {ad : Nat → Nat} {cA : ClassId} {wr : va_W} (C : jC x cc_F_most 5 "PlainWarehouse$Fillings") (hT : (jT x)[0]? = some (cA, .int)) (hR : jR x = rm_F_most)  (a2 : Int32) (σ : SP) {r : Int32} {σ' : SP} (hr : (jt x).sig.returnType = some .int) (E : jE x 0 0 (some (.int r)) ((wP ad cA σ') ++ wr)) (h : m_F_most a2 σ = some (r, σ')) : jW x 5 0 0 0 [(0, .ref (ad 11)), (1, .ref (ad 2)), (2, .int a2)] [] ((wP ad cA σ) ++ wr) := by
  unfold m_F_most at h
  refine j_aload_n C 0 d_F_most_0 rfl rfl rfl ?_
  refine j_aload_n C 1 d_F_most_1 rfl rfl rfl ?_
  obtain ⟨σ1, h2, h⟩ := mb1_some h
  refine j_callV C hR (As := [.ref (ad 2)]) (ct_F_countFree (jl x) (jD x) (jT x) hT  σ h2) kf_F_countFree (by decide) tw_440 tw_442 tw_23 11 rfl rfl (rest := []) rfl rfl (Nat.le_of_ble_eq_true rfl) (by decide) ⟨rfl, rfl⟩ d_F_most_2 rfl (st1 := []) rfl ?_
  refine j_aload_n C 0 d_F_most_5 rfl rfl rfl ?_
  refine j_aload_n C 1 d_F_most_6 rfl rfl rfl ?_
  refine j_iload_n C 2 d_F_most_7 rfl rfl rfl ?_
  obtain ⟨σ3, h4, h⟩ := mb1_some h
  refine j_callV C hR (As := [.ref (ad 2), .int a2]) (ct_F_chooseOpen (jl x) (jD x) (jT x) hT a2 σ1 h4) kf_F_chooseOpen (by decide) tw_445 tw_447 tw_24 11 rfl rfl (rest := []) rfl rfl (Nat.le_of_ble_eq_true rfl) (by decide) ⟨rfl, rfl⟩ d_F_most_8 rfl (st1 := []) rfl ?_
  refine j_iconst (v := 0) C d_F_most_11 rfl (by decide) ?_
  refine j_istore_n (lv' := [(3, .int (0 : Int32)), (0, .ref (ad 11)), (1, .ref (ad 2)), (2, .int a2)]) C d_F_most_12 rfl rfl (by decide) rfl ?_
  refine j_iconst (v := 0) C d_F_most_13 rfl (by decide) ?_
  refine j_istore (lv' := [(4, .int (0 : Int32)), (3, .int (0 : Int32)), (0, .ref (ad 11)), (1, .ref (ad 2)), (2, .int a2)]) C d_F_most_14 rfl (by decide) rfl ?_
  obtain ⟨w12, w13, σ14, h15, h⟩ := mb3_some h
  refine j_sub [2, 1, 0] rfl (wl_F_most_16 C hT hR  σ3 (0 : Int32) (0 : Int32) FU h15 ?_)
  refine j_iload_n C 1 d_F_most_57 rfl rfl rfl ?_
  cases h
  exact j_iret C E hr d_F_most_58
theorem ct_F_most (l : Launch) (D : va_G) (tys : List (ClassId × FieldType)) {ad : Nat → Nat} {cA : ClassId} {wr : va_W} (hT : tys[0]? = some (cA, .int)) (a2 : Int32) (σ : SP) {r : Int32} {σ' : SP} (h : m_F_most a2 σ = some (r, σ')) : jM l y_F_most ws_F_most rm_F_most D tys [.ref (ad 11), .ref (ad 2), .int a2] ((wP ad cA σ) ++ wr) (some (.int r)) ((wP ad cA σ') ++ wr) :=
  j_of (by decide +kernel) rfl (Nat.le_of_ble_eq_true rfl) rfl (fun x _ _ hT' hR C hr _ E => w_F_most C (by rw [hT']; exact hT) hR a2 σ hr E h)
def rm_Y_layLinks : Room := { frames := 1, cells := 0, slots := 0, locals := 21 }
def b_Y_layLinks_10 (c2 : Int32) (v3 : Int32) (σ : SP) : Option ((Int32 × SP) ⊕ (Int32 × SP)) :=
  (if (10 : Int32) ≤ v3 then some (.inr (v3, σ)) else (mb1 (m_P_pair c2 v3) fun r1 => (mrd 100 (g_lk σ) r1 fun r3 => (mb1 (m_P_pair c2 v3) fun r4 => (if r3 ≤ 0 then (mck 100 r4 (mlet (u_se σ (upd (g_se σ) r4.toNatClampNeg (1000000 : Int32))) fun σ6 => some (.inl ((v3 + 1), σ6)))) else (mck 100 r4 (mlet (u_se σ (upd (g_se σ) r4.toNatClampNeg r3)) fun σ7 => some (.inl ((v3 + 1), σ7)))))))))
def b_Y_layLinks_2 (v2 : Int32) (σ : SP) : Option ((Int32 × SP) ⊕ (Int32 × SP)) :=
  (if (10 : Int32) ≤ v2 then some (.inr (v2, σ)) else (mb2 (lp (fun s => b_Y_layLinks_10 v2 s.1 s.2) FU ((0 : Int32), σ)) fun w8 σ9 => (mb1 (m_P_pair v2 v2) fun r11 => (mck 100 r11 (mlet (u_se σ9 (upd (g_se σ9) r11.toNatClampNeg (0 : Int32))) fun σ13 => some (.inl ((v2 + 1), σ13)))))))
def m_Y_layLinks (σ : SP) : Option (SP) :=
  (mb2 (lp (fun s => b_Y_layLinks_2 s.1 s.2) FU ((0 : Int32), σ)) fun w14 σ15 => some σ15)
set_option maxHeartbeats 4000000 in
set_option maxRecDepth 100000 in
theorem wb_Y_layLinks_10 {x : JX} {ad : Nat → Nat} {cA : ClassId} {wr : va_W} (C : jC x cc_Y_layLinks 5 "PlainWarehouse$Ways") (hT : (jT x)[0]? = some (cA, .int)) (hR : jR x = rm_Y_layLinks)  (c2 : Int32) (σ : SP) (v3 : Int32) {o : (Int32 × SP) ⊕ (Int32 × SP)} (h : b_Y_layLinks_10 c2 v3 σ = some o) (kc : ∀ (u3 : Int32) (τ : SP), o = .inl (u3, τ) → jW x 5 0 0 10 [(0, .ref (ad 16)), (1, .ref (ad 2)), (2, .int c2), (3, .int u3)] [] ((wP ad cA τ) ++ wr)) (ke : ∀ (u3 : Int32) (τ : SP), o = .inr (u3, τ) → jW x 5 0 0 56 [(0, .ref (ad 16)), (1, .ref (ad 2)), (2, .int c2), (3, .int u3)] [] ((wP ad cA τ) ++ wr)) : jW x 5 0 0 10 [(0, .ref (ad 16)), (1, .ref (ad 2)), (2, .int c2), (3, .int v3)] [] ((wP ad cA σ) ++ wr) := by
  unfold b_Y_layLinks_10 at h
  refine j_iload_n C 3 d_Y_layLinks_10 rfl rfl rfl ?_
  refine j_bipush (v := 10) C d_Y_layLinks_11 rfl (by decide) ?_
  refine j_icmp_ge (tgt := 56) C d_Y_layLinks_13 (by decide) rfl h (fun h => ?_) (fun h => ?_)
  · cases h
    refine j_sub [0, 1, 2, 3] rfl (ke _ _ rfl)
  · refine j_aload_n C 1 d_Y_layLinks_16 rfl rfl rfl ?_
    refine j_getN C in_H 2 rfl rfl 7 (by decide) tw_92 rfl (v := .ref (ad 10)) rfl d_Y_layLinks_17 rfl ?_
    refine j_iload_n C 2 d_Y_layLinks_20 rfl rfl rfl ?_
    refine j_iload_n C 3 d_Y_layLinks_21 rfl rfl rfl ?_
    obtain ⟨r1, h2, h⟩ := mb1_some h
    refine j_callSN C hR (As := [.int c2, .int v3]) (ct_P_pair (jl x) (jD x) (jT x) c2 v3 h2) kf_P_pair (by decide) tw_474 tw_218 (rest := [.ref (ad 10)]) rfl rfl (Nat.le_of_ble_eq_true rfl) (by decide) ⟨rfl, rfl⟩ d_Y_layLinks_22 rfl (st1 := [.int r1, .ref (ad 10)]) rfl ?_
    refine j_iald C 10 0 rfl hT d_Y_layLinks_25 rfl h (fun r3 h => ?_)
    refine j_istore (lv' := [(4, .int r3), (0, .ref (ad 16)), (1, .ref (ad 2)), (2, .int c2), (3, .int v3)]) C d_Y_layLinks_26 rfl (by decide) rfl ?_
    refine j_aload_n C 1 d_Y_layLinks_28 rfl rfl rfl ?_
    refine j_get C in_Y 16 rfl rfl 0 (by decide) tw_139 rfl (v := .ref (ad 17)) rfl d_Y_layLinks_29 rfl ?_
    refine j_iload_n C 3 d_Y_layLinks_32 rfl rfl rfl ?_
    refine j_iload_n C 4 d_Y_layLinks_33 rfl rfl rfl ?_
    obtain ⟨r4, h5, h⟩ := mb1_some h
    refine j_callSN C hR (As := [.int c2, .int v3]) (ct_P_pair (jl x) (jD x) (jT x) c2 v3 h5) kf_P_pair (by decide) tw_474 tw_218 (rest := [.ref (ad 17)]) rfl rfl (Nat.le_of_ble_eq_true rfl) (by decide) ⟨rfl, rfl⟩ d_Y_layLinks_34 rfl (st1 := [.int r4, .ref (ad 17)]) rfl ?_
    refine j_iload C 0 d_Y_layLinks_37 rfl rfl ?_
    refine j_if_le (tgt := 47) C d_Y_layLinks_39 (by decide) rfl h (fun h => ?_) (fun h => ?_)
    · refine j_ldc (v := 1000000) C d_Y_layLinks_47 rfl tw_475 ?_
      refine j_iast C (fun t => (wP ad cA t) ++ wr) 17 0 rfl hT d_Y_layLinks_49 rfl h rfl (fun σ6 h => ?_)
      refine j_iinc (v' := (v3 + 1)) (lv' := [(3, .int (v3 + 1)), (4, .int r3), (0, .ref (ad 16)), (1, .ref (ad 2)), (2, .int c2)]) C 4 d_Y_layLinks_50 rfl rfl rfl (by decide) rfl ?_
      refine j_goto (tgt := 10) C d_Y_layLinks_53 (by decide) ?_
      cases h
      refine j_sub [2, 3, 4, 0] rfl (kc _ _ rfl)
    · refine j_iload C 0 d_Y_layLinks_42 rfl rfl ?_
      refine j_goto (tgt := 49) C d_Y_layLinks_44 (by decide) ?_
      refine j_iast C (fun t => (wP ad cA t) ++ wr) 17 0 rfl hT d_Y_layLinks_49 rfl h rfl (fun σ7 h => ?_)
      refine j_iinc (v' := (v3 + 1)) (lv' := [(3, .int (v3 + 1)), (4, .int r3), (0, .ref (ad 16)), (1, .ref (ad 2)), (2, .int c2)]) C 4 d_Y_layLinks_50 rfl rfl rfl (by decide) rfl ?_
      refine j_goto (tgt := 10) C d_Y_layLinks_53 (by decide) ?_
      cases h
      refine j_sub [2, 3, 4, 0] rfl (kc _ _ rfl)
set_option maxRecDepth 100000 in
theorem wl_Y_layLinks_10 {x : JX} {ad : Nat → Nat} {cA : ClassId} {wr : va_W} (C : jC x cc_Y_layLinks 5 "PlainWarehouse$Ways") (hT : (jT x)[0]? = some (cA, .int)) (hR : jR x = rm_Y_layLinks)  (c2 : Int32) (σ : SP) (v3 : Int32) {u3 : Int32} {τ : SP} (n : Nat) (h : lp (fun s => b_Y_layLinks_10 c2 s.1 s.2) n (v3, σ) = some (u3, τ)) (K : jW x 5 0 0 56 [(0, .ref (ad 16)), (1, .ref (ad 2)), (2, .int c2), (3, .int u3)] [] ((wP ad cA τ) ++ wr)) : jW x 5 0 0 10 [(0, .ref (ad 16)), (1, .ref (ad 2)), (2, .int c2), (3, .int v3)] [] ((wP ad cA σ) ++ wr) :=
  j_lp (Pr := fun s => jW x 5 0 0 10 [(0, .ref (ad 16)), (1, .ref (ad 2)), (2, .int c2), (3, .int s.1)] [] ((wP ad cA s.2) ++ wr)) (K := fun s => jW x 5 0 0 56 [(0, .ref (ad 16)), (1, .ref (ad 2)), (2, .int c2), (3, .int s.1)] [] ((wP ad cA s.2) ++ wr)) (fun s o h kc ke => wb_Y_layLinks_10 C hT hR c2 s.2 s.1 h (fun u3 τ e => kc _ e) (fun u3 τ e => ke _ e)) n _ _ h K
set_option maxHeartbeats 4000000 in
set_option maxRecDepth 100000 in
theorem wb_Y_layLinks_2 {x : JX} {ad : Nat → Nat} {cA : ClassId} {wr : va_W} (C : jC x cc_Y_layLinks 5 "PlainWarehouse$Ways") (hT : (jT x)[0]? = some (cA, .int)) (hR : jR x = rm_Y_layLinks)  (σ : SP) (v2 : Int32) {o : (Int32 × SP) ⊕ (Int32 × SP)} (h : b_Y_layLinks_2 v2 σ = some o) (kc : ∀ (u2 : Int32) (τ : SP), o = .inl (u2, τ) → jW x 5 0 0 2 [(0, .ref (ad 16)), (1, .ref (ad 2)), (2, .int u2)] [] ((wP ad cA τ) ++ wr)) (ke : ∀ (u2 : Int32) (τ : SP), o = .inr (u2, τ) → jW x 5 0 0 73 [(0, .ref (ad 16)), (1, .ref (ad 2)), (2, .int u2)] [] ((wP ad cA τ) ++ wr)) : jW x 5 0 0 2 [(0, .ref (ad 16)), (1, .ref (ad 2)), (2, .int v2)] [] ((wP ad cA σ) ++ wr) := by
  unfold b_Y_layLinks_2 at h
  refine j_iload_n C 2 d_Y_layLinks_2 rfl rfl rfl ?_
  refine j_bipush (v := 10) C d_Y_layLinks_3 rfl (by decide) ?_
  refine j_icmp_ge (tgt := 73) C d_Y_layLinks_5 (by decide) rfl h (fun h => ?_) (fun h => ?_)
  · cases h
    refine j_sub [0, 1, 2] rfl (ke _ _ rfl)
  · refine j_iconst (v := 0) C d_Y_layLinks_8 rfl (by decide) ?_
    refine j_istore_n (lv' := [(3, .int (0 : Int32)), (0, .ref (ad 16)), (1, .ref (ad 2)), (2, .int v2)]) C d_Y_layLinks_9 rfl rfl (by decide) rfl ?_
    obtain ⟨w8, σ9, h10, h⟩ := mb2_some h
    refine j_sub [1, 2, 3, 0] rfl (wl_Y_layLinks_10 C hT hR v2 σ (0 : Int32) FU h10 ?_)
    refine j_aload_n C 0 d_Y_layLinks_56 rfl rfl rfl ?_
    refine j_get C in_Y 16 rfl rfl 0 (by decide) tw_139 rfl (v := .ref (ad 17)) rfl d_Y_layLinks_57 rfl ?_
    refine j_iload_n C 2 d_Y_layLinks_60 rfl rfl rfl ?_
    refine j_iload_n C 2 d_Y_layLinks_61 rfl rfl rfl ?_
    obtain ⟨r11, h12, h⟩ := mb1_some h
    refine j_callSN C hR (As := [.int v2, .int v2]) (ct_P_pair (jl x) (jD x) (jT x) v2 v2 h12) kf_P_pair (by decide) tw_474 tw_218 (rest := [.ref (ad 17)]) rfl rfl (Nat.le_of_ble_eq_true rfl) (by decide) ⟨rfl, rfl⟩ d_Y_layLinks_62 rfl (st1 := [.int r11, .ref (ad 17)]) rfl ?_
    refine j_iconst (v := 0) C d_Y_layLinks_65 rfl (by decide) ?_
    refine j_iast C (fun t => (wP ad cA t) ++ wr) 17 0 rfl hT d_Y_layLinks_66 rfl h rfl (fun σ13 h => ?_)
    refine j_iinc (v' := (v2 + 1)) (lv' := [(2, .int (v2 + 1)), (0, .ref (ad 16)), (1, .ref (ad 2)), (3, .int w8)]) C 2 d_Y_layLinks_67 rfl rfl rfl (by decide) rfl ?_
    refine j_goto (tgt := 2) C d_Y_layLinks_70 (by decide) ?_
    cases h
    refine j_sub [1, 2, 0] rfl (kc _ _ rfl)
set_option maxRecDepth 100000 in
theorem wl_Y_layLinks_2 {x : JX} {ad : Nat → Nat} {cA : ClassId} {wr : va_W} (C : jC x cc_Y_layLinks 5 "PlainWarehouse$Ways") (hT : (jT x)[0]? = some (cA, .int)) (hR : jR x = rm_Y_layLinks)  (σ : SP) (v2 : Int32) {u2 : Int32} {τ : SP} (n : Nat) (h : lp (fun s => b_Y_layLinks_2 s.1 s.2) n (v2, σ) = some (u2, τ)) (K : jW x 5 0 0 73 [(0, .ref (ad 16)), (1, .ref (ad 2)), (2, .int u2)] [] ((wP ad cA τ) ++ wr)) : jW x 5 0 0 2 [(0, .ref (ad 16)), (1, .ref (ad 2)), (2, .int v2)] [] ((wP ad cA σ) ++ wr) :=
  j_lp (Pr := fun s => jW x 5 0 0 2 [(0, .ref (ad 16)), (1, .ref (ad 2)), (2, .int s.1)] [] ((wP ad cA s.2) ++ wr)) (K := fun s => jW x 5 0 0 73 [(0, .ref (ad 16)), (1, .ref (ad 2)), (2, .int s.1)] [] ((wP ad cA s.2) ++ wr)) (fun s o h kc ke => wb_Y_layLinks_2 C hT hR  s.2 s.1 h (fun u2 τ e => kc _ e) (fun u2 τ e => ke _ e)) n _ _ h K
set_option maxHeartbeats 4000000 in
set_option maxRecDepth 100000 in
theorem w_Y_layLinks {x : JX} {ad : Nat → Nat} {cA : ClassId} {wr : va_W} (C : jC x cc_Y_layLinks 5 "PlainWarehouse$Ways") (hT : (jT x)[0]? = some (cA, .int)) (hR : jR x = rm_Y_layLinks)  (σ : SP) {σ' : SP} (hr : (jt x).sig.returnType = none) (E : jE x 0 0 none ((wP ad cA σ') ++ wr)) (h : m_Y_layLinks σ = some σ') : jW x 5 0 0 0 [(0, .ref (ad 16)), (1, .ref (ad 2))] [] ((wP ad cA σ) ++ wr) := by
  unfold m_Y_layLinks at h
  refine j_iconst (v := 0) C d_Y_layLinks_0 rfl (by decide) ?_
  refine j_istore_n (lv' := [(2, .int (0 : Int32)), (0, .ref (ad 16)), (1, .ref (ad 2))]) C d_Y_layLinks_1 rfl rfl (by decide) rfl ?_
  obtain ⟨w14, σ15, h16, h⟩ := mb2_some h
  refine j_sub [1, 2, 0] rfl (wl_Y_layLinks_2 C hT hR  σ (0 : Int32) FU h16 ?_)
  cases h
  exact j_vret C E hr d_Y_layLinks_73
theorem ct_Y_layLinks (l : Launch) (D : va_G) (tys : List (ClassId × FieldType)) {ad : Nat → Nat} {cA : ClassId} {wr : va_W} (hT : tys[0]? = some (cA, .int)) (σ : SP) {σ' : SP} (h : m_Y_layLinks σ = some σ') : jM l y_Y_layLinks ws_Y_layLinks rm_Y_layLinks D tys [.ref (ad 16), .ref (ad 2)] ((wP ad cA σ) ++ wr) none ((wP ad cA σ') ++ wr) :=
  j_of (by decide +kernel) rfl (Nat.le_of_ble_eq_true rfl) rfl (fun x _ _ hT' hR C hr _ E => w_Y_layLinks C (by rw [hT']; exact hT) hR σ hr E h)
def rm_Y_shortenVia : Room := { frames := 1, cells := 0, slots := 0, locals := 21 }
def b_Y_shortenVia_21 (c1 : Int32) (c2 : Int32) (c3 : Int32) (v4 : Int32) (σ : SP) : Option ((Int32 × SP) ⊕ (Int32 × SP)) :=
  (if (10 : Int32) ≤ v4 then some (.inr (v4, σ)) else (mb1 (m_P_pair c1 v4) fun r4 => (mrd 100 (g_se σ) r4 fun r6 => (mb1 (m_P_pair c2 v4) fun r7 => (mb1 (m_P_pair c2 v4) fun r9 => (mrd 100 (g_se σ) r9 fun r11 => (mlet (if (c3 + r6) < r11 then (c3 + r6) else r11) fun r12 => (mck 100 r7 (mlet (u_se σ (upd (g_se σ) r7.toNatClampNeg r12)) fun σ13 => some (.inl ((v4 + 1), σ13)))))))))))
def m_Y_shortenVia (a1 : Int32) (a2 : Int32) (σ : SP) : Option (SP) :=
  (mb1 (m_P_pair a2 a1) fun r1 => (mrd 100 (g_se σ) r1 fun r3 => (if r3 < (1000000 : Int32) then (mb2 (lp (fun s => b_Y_shortenVia_21 a1 a2 r3 s.1 s.2) FU ((0 : Int32), σ)) fun w14 σ15 => some σ15) else some σ)))
set_option maxHeartbeats 4000000 in
set_option maxRecDepth 100000 in
theorem wb_Y_shortenVia_21 {x : JX} {ad : Nat → Nat} {cA : ClassId} {wr : va_W} (C : jC x cc_Y_shortenVia 6 "PlainWarehouse$Ways") (hT : (jT x)[0]? = some (cA, .int)) (hR : jR x = rm_Y_shortenVia)  (c1 : Int32) (c2 : Int32) (c3 : Int32) (σ : SP) (v4 : Int32) {o : (Int32 × SP) ⊕ (Int32 × SP)} (h : b_Y_shortenVia_21 c1 c2 c3 v4 σ = some o) (kc : ∀ (u4 : Int32) (τ : SP), o = .inl (u4, τ) → jW x 6 0 0 21 [(0, .ref (ad 16)), (1, .int c1), (2, .int c2), (3, .int c3), (4, .int u4)] [] ((wP ad cA τ) ++ wr)) (ke : ∀ (u4 : Int32) (τ : SP), o = .inr (u4, τ) → jW x 6 0 0 76 [(0, .ref (ad 16)), (1, .int c1), (2, .int c2), (3, .int c3), (4, .int u4)] [] ((wP ad cA τ) ++ wr)) : jW x 6 0 0 21 [(0, .ref (ad 16)), (1, .int c1), (2, .int c2), (3, .int c3), (4, .int v4)] [] ((wP ad cA σ) ++ wr) := by
  unfold b_Y_shortenVia_21 at h
  refine j_iload C 4 d_Y_shortenVia_21 rfl rfl ?_
  refine j_bipush (v := 10) C d_Y_shortenVia_23 rfl (by decide) ?_
  refine j_icmp_ge (tgt := 76) C d_Y_shortenVia_25 (by decide) rfl h (fun h => ?_) (fun h => ?_)
  · cases h
    refine j_sub [0, 1, 2, 3, 4] rfl (ke _ _ rfl)
  · refine j_iload_n C 3 d_Y_shortenVia_28 rfl rfl rfl ?_
    refine j_aload_n C 0 d_Y_shortenVia_29 rfl rfl rfl ?_
    refine j_get C in_Y 16 rfl rfl 0 (by decide) tw_139 rfl (v := .ref (ad 17)) rfl d_Y_shortenVia_30 rfl ?_
    refine j_iload_n C 1 d_Y_shortenVia_33 rfl rfl rfl ?_
    refine j_iload C 4 d_Y_shortenVia_34 rfl rfl ?_
    obtain ⟨r4, h5, h⟩ := mb1_some h
    refine j_callSN C hR (As := [.int c1, .int v4]) (ct_P_pair (jl x) (jD x) (jT x) c1 v4 h5) kf_P_pair (by decide) tw_474 tw_218 (rest := [.ref (ad 17), .int c3]) rfl rfl (Nat.le_of_ble_eq_true rfl) (by decide) ⟨rfl, rfl⟩ d_Y_shortenVia_36 rfl (st1 := [.int r4, .ref (ad 17), .int c3]) rfl ?_
    refine j_iald C 17 0 rfl hT d_Y_shortenVia_39 rfl h (fun r6 h => ?_)
    refine j_iadd C d_Y_shortenVia_40 rfl ?_
    refine j_istore (lv' := [(5, .int (c3 + r6)), (0, .ref (ad 16)), (1, .int c1), (2, .int c2), (3, .int c3), (4, .int v4)]) C d_Y_shortenVia_41 rfl (by decide) rfl ?_
    refine j_aload_n C 1 d_Y_shortenVia_43 rfl rfl rfl ?_
    refine j_get C in_Y 16 rfl rfl 0 (by decide) tw_139 rfl (v := .ref (ad 17)) rfl d_Y_shortenVia_44 rfl ?_
    refine j_iload_n C 3 d_Y_shortenVia_47 rfl rfl rfl ?_
    refine j_iload C 5 d_Y_shortenVia_48 rfl rfl ?_
    obtain ⟨r7, h8, h⟩ := mb1_some h
    refine j_callSN C hR (As := [.int c2, .int v4]) (ct_P_pair (jl x) (jD x) (jT x) c2 v4 h8) kf_P_pair (by decide) tw_474 tw_218 (rest := [.ref (ad 17)]) rfl rfl (Nat.le_of_ble_eq_true rfl) (by decide) ⟨rfl, rfl⟩ d_Y_shortenVia_50 rfl (st1 := [.int r7, .ref (ad 17)]) rfl ?_
    refine j_aload_n C 1 d_Y_shortenVia_53 rfl rfl rfl ?_
    refine j_get C in_Y 16 rfl rfl 0 (by decide) tw_139 rfl (v := .ref (ad 17)) rfl d_Y_shortenVia_54 rfl ?_
    refine j_iload_n C 3 d_Y_shortenVia_57 rfl rfl rfl ?_
    refine j_iload C 5 d_Y_shortenVia_58 rfl rfl ?_
    obtain ⟨r9, h10, h⟩ := mb1_some h
    refine j_callSN C hR (As := [.int c2, .int v4]) (ct_P_pair (jl x) (jD x) (jT x) c2 v4 h10) kf_P_pair (by decide) tw_474 tw_218 (rest := [.ref (ad 17), .int r7, .ref (ad 17)]) rfl rfl (Nat.le_of_ble_eq_true rfl) (by decide) ⟨rfl, rfl⟩ d_Y_shortenVia_60 rfl (st1 := [.int r9, .ref (ad 17), .int r7, .ref (ad 17)]) rfl ?_
    refine j_iald C 17 0 rfl hT d_Y_shortenVia_63 rfl h (fun r11 h => ?_)
    refine j_iload C 0 d_Y_shortenVia_64 rfl rfl ?_
    refine j_mmin C hR tw_480 tw_481 tw_61 tw_482 (by first | decide | exact Nat.le_of_ble_eq_true rfl) (by first | decide | exact Nat.le_of_ble_eq_true rfl) (by first | decide | exact Nat.le_of_ble_eq_true rfl) (by first | decide | exact Nat.le_of_ble_eq_true rfl) d_Y_shortenVia_66 rfl h (fun r12 h => ?_)
    refine j_iast C (fun t => (wP ad cA t) ++ wr) 17 0 rfl hT d_Y_shortenVia_69 rfl h rfl (fun σ13 h => ?_)
    refine j_iinc (v' := (v4 + 1)) (lv' := [(4, .int (v4 + 1)), (5, .int (c3 + r6)), (0, .ref (ad 16)), (1, .int c1), (2, .int c2), (3, .int c3)]) C 5 d_Y_shortenVia_70 rfl rfl rfl (by decide) rfl ?_
    refine j_goto (tgt := 21) C d_Y_shortenVia_73 (by decide) ?_
    cases h
    refine j_sub [2, 3, 4, 5, 0] rfl (kc _ _ rfl)
set_option maxRecDepth 100000 in
theorem wl_Y_shortenVia_21 {x : JX} {ad : Nat → Nat} {cA : ClassId} {wr : va_W} (C : jC x cc_Y_shortenVia 6 "PlainWarehouse$Ways") (hT : (jT x)[0]? = some (cA, .int)) (hR : jR x = rm_Y_shortenVia)  (c1 : Int32) (c2 : Int32) (c3 : Int32) (σ : SP) (v4 : Int32) {u4 : Int32} {τ : SP} (n : Nat) (h : lp (fun s => b_Y_shortenVia_21 c1 c2 c3 s.1 s.2) n (v4, σ) = some (u4, τ)) (K : jW x 6 0 0 76 [(0, .ref (ad 16)), (1, .int c1), (2, .int c2), (3, .int c3), (4, .int u4)] [] ((wP ad cA τ) ++ wr)) : jW x 6 0 0 21 [(0, .ref (ad 16)), (1, .int c1), (2, .int c2), (3, .int c3), (4, .int v4)] [] ((wP ad cA σ) ++ wr) :=
  j_lp (Pr := fun s => jW x 6 0 0 21 [(0, .ref (ad 16)), (1, .int c1), (2, .int c2), (3, .int c3), (4, .int s.1)] [] ((wP ad cA s.2) ++ wr)) (K := fun s => jW x 6 0 0 76 [(0, .ref (ad 16)), (1, .int c1), (2, .int c2), (3, .int c3), (4, .int s.1)] [] ((wP ad cA s.2) ++ wr)) (fun s o h kc ke => wb_Y_shortenVia_21 C hT hR c1 c2 c3 s.2 s.1 h (fun u4 τ e => kc _ e) (fun u4 τ e => ke _ e)) n _ _ h K
set_option maxHeartbeats 4000000 in
set_option maxRecDepth 100000 in
theorem w_Y_shortenVia {x : JX} {ad : Nat → Nat} {cA : ClassId} {wr : va_W} (C : jC x cc_Y_shortenVia 6 "PlainWarehouse$Ways") (hT : (jT x)[0]? = some (cA, .int)) (hR : jR x = rm_Y_shortenVia)  (a1 : Int32) (a2 : Int32) (σ : SP) {σ' : SP} (hr : (jt x).sig.returnType = none) (E : jE x 0 0 none ((wP ad cA σ') ++ wr)) (h : m_Y_shortenVia a1 a2 σ = some σ') : jW x 6 0 0 0 [(0, .ref (ad 16)), (1, .int a1), (2, .int a2)] [] ((wP ad cA σ) ++ wr) := by
  unfold m_Y_shortenVia at h
  refine j_aload_n C 0 d_Y_shortenVia_0 rfl rfl rfl ?_
  refine j_get C in_Y 16 rfl rfl 0 (by decide) tw_139 rfl (v := .ref (ad 17)) rfl d_Y_shortenVia_1 rfl ?_
  refine j_iload_n C 2 d_Y_shortenVia_4 rfl rfl rfl ?_
  refine j_iload_n C 1 d_Y_shortenVia_5 rfl rfl rfl ?_
  obtain ⟨r1, h2, h⟩ := mb1_some h
  refine j_callSN C hR (As := [.int a2, .int a1]) (ct_P_pair (jl x) (jD x) (jT x) a2 a1 h2) kf_P_pair (by decide) tw_474 tw_218 (rest := [.ref (ad 17)]) rfl rfl (Nat.le_of_ble_eq_true rfl) (by decide) ⟨rfl, rfl⟩ d_Y_shortenVia_6 rfl (st1 := [.int r1, .ref (ad 17)]) rfl ?_
  refine j_iald C 17 0 rfl hT d_Y_shortenVia_9 rfl h (fun r3 h => ?_)
  refine j_istore_n (lv' := [(3, .int r3), (0, .ref (ad 16)), (1, .int a1), (2, .int a2)]) C d_Y_shortenVia_10 rfl rfl (by decide) rfl ?_
  refine j_iload_n C 0 d_Y_shortenVia_11 rfl rfl rfl ?_
  refine j_ldc (v := 1000000) C d_Y_shortenVia_12 rfl tw_475 ?_
  refine j_icmp_lt (tgt := 18) C d_Y_shortenVia_14 (by decide) rfl h (fun h => ?_) (fun h => ?_)
  · refine j_iconst (v := 0) C d_Y_shortenVia_18 rfl (by decide) ?_
    refine j_istore (lv' := [(4, .int (0 : Int32)), (3, .int r3), (0, .ref (ad 16)), (1, .int a1), (2, .int a2)]) C d_Y_shortenVia_19 rfl (by decide) rfl ?_
    obtain ⟨w14, σ15, h16, h⟩ := mb2_some h
    refine j_sub [2, 3, 4, 1, 0] rfl (wl_Y_shortenVia_21 C hT hR a1 a2 r3 σ (0 : Int32) FU h16 ?_)
    cases h
    exact j_vret C E hr d_Y_shortenVia_76
  · cases h
    exact j_vret C E hr d_Y_shortenVia_17
theorem ct_Y_shortenVia (l : Launch) (D : va_G) (tys : List (ClassId × FieldType)) {ad : Nat → Nat} {cA : ClassId} {wr : va_W} (hT : tys[0]? = some (cA, .int)) (a1 : Int32) (a2 : Int32) (σ : SP) {σ' : SP} (h : m_Y_shortenVia a1 a2 σ = some σ') : jM l y_Y_shortenVia ws_Y_shortenVia rm_Y_shortenVia D tys [.ref (ad 16), .int a1, .int a2] ((wP ad cA σ) ++ wr) none ((wP ad cA σ') ++ wr) :=
  j_of (by decide +kernel) rfl (Nat.le_of_ble_eq_true rfl) rfl (fun x _ _ hT' hR C hr _ E => w_Y_shortenVia C (by rw [hT']; exact hT) hR a1 a2 σ hr E h)
def rm_Y_measure : Room := { frames := 2, cells := 0, slots := 0, locals := 46 }
def b_Y_measure_15 (c2 : Int32) (v3 : Int32) (σ : SP) : Option ((Int32 × SP) ⊕ (Int32 × SP)) :=
  (if (10 : Int32) ≤ v3 then some (.inr (v3, σ)) else (mb1 (m_Y_shortenVia c2 v3 σ) fun σ3 => some (.inl ((v3 + 1), σ3))))
def b_Y_measure_7 (v2 : Int32) (σ : SP) : Option ((Int32 × SP) ⊕ (Int32 × SP)) :=
  (if (10 : Int32) ≤ v2 then some (.inr (v2, σ)) else (mb2 (lp (fun s => b_Y_measure_15 v2 s.1 s.2) FU ((0 : Int32), σ)) fun w5 σ6 => some (.inl ((v2 + 1), σ6))))
def m_Y_measure (σ : SP) : Option (SP) :=
  (mb1 (m_Y_layLinks σ) fun σ1 => (mb2 (lp (fun s => b_Y_measure_7 s.1 s.2) FU ((0 : Int32), σ1)) fun w8 σ9 => some σ9))
set_option maxHeartbeats 4000000 in
set_option maxRecDepth 100000 in
theorem wb_Y_measure_15 {x : JX} {ad : Nat → Nat} {cA : ClassId} {wr : va_W} (C : jC x cc_Y_measure 4 "PlainWarehouse$Ways") (hT : (jT x)[0]? = some (cA, .int)) (hR : jR x = rm_Y_measure)  (c2 : Int32) (σ : SP) (v3 : Int32) {o : (Int32 × SP) ⊕ (Int32 × SP)} (h : b_Y_measure_15 c2 v3 σ = some o) (kc : ∀ (u3 : Int32) (τ : SP), o = .inl (u3, τ) → jW x 4 0 0 15 [(0, .ref (ad 16)), (2, .int c2), (3, .int u3)] [] ((wP ad cA τ) ++ wr)) (ke : ∀ (u3 : Int32) (τ : SP), o = .inr (u3, τ) → jW x 4 0 0 33 [(0, .ref (ad 16)), (2, .int c2), (3, .int u3)] [] ((wP ad cA τ) ++ wr)) : jW x 4 0 0 15 [(0, .ref (ad 16)), (2, .int c2), (3, .int v3)] [] ((wP ad cA σ) ++ wr) := by
  unfold b_Y_measure_15 at h
  refine j_iload_n C 2 d_Y_measure_15 rfl rfl rfl ?_
  refine j_bipush (v := 10) C d_Y_measure_16 rfl (by decide) ?_
  refine j_icmp_ge (tgt := 33) C d_Y_measure_18 (by decide) rfl h (fun h => ?_) (fun h => ?_)
  · cases h
    refine j_sub [0, 1, 2] rfl (ke _ _ rfl)
  · refine j_aload_n C 0 d_Y_measure_21 rfl rfl rfl ?_
    refine j_iload_n C 1 d_Y_measure_22 rfl rfl rfl ?_
    refine j_iload_n C 2 d_Y_measure_23 rfl rfl rfl ?_
    obtain ⟨σ3, h4, h⟩ := mb1_some h
    refine j_callV C hR (As := [.int c2, .int v3]) (ct_Y_shortenVia (jl x) (jD x) (jT x) hT c2 v3 σ h4) kf_Y_shortenVia (by decide) tw_476 tw_478 tw_28 16 rfl rfl (rest := []) rfl rfl (Nat.le_of_ble_eq_true rfl) (by decide) ⟨rfl, rfl⟩ d_Y_measure_24 rfl (st1 := []) rfl ?_
    refine j_iinc (v' := (v3 + 1)) (lv' := [(3, .int (v3 + 1)), (0, .ref (ad 16)), (2, .int c2)]) C 2 d_Y_measure_27 rfl rfl rfl (by decide) rfl ?_
    refine j_goto (tgt := 15) C d_Y_measure_30 (by decide) ?_
    cases h
    refine j_sub [1, 2, 0] rfl (kc _ _ rfl)
set_option maxRecDepth 100000 in
theorem wl_Y_measure_15 {x : JX} {ad : Nat → Nat} {cA : ClassId} {wr : va_W} (C : jC x cc_Y_measure 4 "PlainWarehouse$Ways") (hT : (jT x)[0]? = some (cA, .int)) (hR : jR x = rm_Y_measure)  (c2 : Int32) (σ : SP) (v3 : Int32) {u3 : Int32} {τ : SP} (n : Nat) (h : lp (fun s => b_Y_measure_15 c2 s.1 s.2) n (v3, σ) = some (u3, τ)) (K : jW x 4 0 0 33 [(0, .ref (ad 16)), (2, .int c2), (3, .int u3)] [] ((wP ad cA τ) ++ wr)) : jW x 4 0 0 15 [(0, .ref (ad 16)), (2, .int c2), (3, .int v3)] [] ((wP ad cA σ) ++ wr) :=
  j_lp (Pr := fun s => jW x 4 0 0 15 [(0, .ref (ad 16)), (2, .int c2), (3, .int s.1)] [] ((wP ad cA s.2) ++ wr)) (K := fun s => jW x 4 0 0 33 [(0, .ref (ad 16)), (2, .int c2), (3, .int s.1)] [] ((wP ad cA s.2) ++ wr)) (fun s o h kc ke => wb_Y_measure_15 C hT hR c2 s.2 s.1 h (fun u3 τ e => kc _ e) (fun u3 τ e => ke _ e)) n _ _ h K
set_option maxHeartbeats 4000000 in
set_option maxRecDepth 100000 in
theorem wb_Y_measure_7 {x : JX} {ad : Nat → Nat} {cA : ClassId} {wr : va_W} (C : jC x cc_Y_measure 4 "PlainWarehouse$Ways") (hT : (jT x)[0]? = some (cA, .int)) (hR : jR x = rm_Y_measure)  (σ : SP) (v2 : Int32) {o : (Int32 × SP) ⊕ (Int32 × SP)} (h : b_Y_measure_7 v2 σ = some o) (kc : ∀ (u2 : Int32) (τ : SP), o = .inl (u2, τ) → jW x 4 0 0 7 [(0, .ref (ad 16)), (2, .int u2)] [] ((wP ad cA τ) ++ wr)) (ke : ∀ (u2 : Int32) (τ : SP), o = .inr (u2, τ) → jW x 4 0 0 39 [(0, .ref (ad 16)), (2, .int u2)] [] ((wP ad cA τ) ++ wr)) : jW x 4 0 0 7 [(0, .ref (ad 16)), (2, .int v2)] [] ((wP ad cA σ) ++ wr) := by
  unfold b_Y_measure_7 at h
  refine j_iload_n C 1 d_Y_measure_7 rfl rfl rfl ?_
  refine j_bipush (v := 10) C d_Y_measure_8 rfl (by decide) ?_
  refine j_icmp_ge (tgt := 39) C d_Y_measure_10 (by decide) rfl h (fun h => ?_) (fun h => ?_)
  · cases h
    refine j_sub [0, 1] rfl (ke _ _ rfl)
  · refine j_iconst (v := 0) C d_Y_measure_13 rfl (by decide) ?_
    refine j_istore_n (lv' := [(3, .int (0 : Int32)), (0, .ref (ad 16)), (2, .int v2)]) C d_Y_measure_14 rfl rfl (by decide) rfl ?_
    obtain ⟨w5, σ6, h7, h⟩ := mb2_some h
    refine j_sub [1, 2, 0] rfl (wl_Y_measure_15 C hT hR v2 σ (0 : Int32) FU h7 ?_)
    refine j_iinc (v' := (v2 + 1)) (lv' := [(2, .int (v2 + 1)), (0, .ref (ad 16)), (3, .int w5)]) C 1 d_Y_measure_33 rfl rfl rfl (by decide) rfl ?_
    refine j_goto (tgt := 7) C d_Y_measure_36 (by decide) ?_
    cases h
    refine j_sub [1, 0] rfl (kc _ _ rfl)
set_option maxRecDepth 100000 in
theorem wl_Y_measure_7 {x : JX} {ad : Nat → Nat} {cA : ClassId} {wr : va_W} (C : jC x cc_Y_measure 4 "PlainWarehouse$Ways") (hT : (jT x)[0]? = some (cA, .int)) (hR : jR x = rm_Y_measure)  (σ : SP) (v2 : Int32) {u2 : Int32} {τ : SP} (n : Nat) (h : lp (fun s => b_Y_measure_7 s.1 s.2) n (v2, σ) = some (u2, τ)) (K : jW x 4 0 0 39 [(0, .ref (ad 16)), (2, .int u2)] [] ((wP ad cA τ) ++ wr)) : jW x 4 0 0 7 [(0, .ref (ad 16)), (2, .int v2)] [] ((wP ad cA σ) ++ wr) :=
  j_lp (Pr := fun s => jW x 4 0 0 7 [(0, .ref (ad 16)), (2, .int s.1)] [] ((wP ad cA s.2) ++ wr)) (K := fun s => jW x 4 0 0 39 [(0, .ref (ad 16)), (2, .int s.1)] [] ((wP ad cA s.2) ++ wr)) (fun s o h kc ke => wb_Y_measure_7 C hT hR  s.2 s.1 h (fun u2 τ e => kc _ e) (fun u2 τ e => ke _ e)) n _ _ h K
set_option maxHeartbeats 4000000 in
set_option maxRecDepth 100000 in
theorem w_Y_measure {x : JX} {ad : Nat → Nat} {cA : ClassId} {wr : va_W} (C : jC x cc_Y_measure 4 "PlainWarehouse$Ways") (hT : (jT x)[0]? = some (cA, .int)) (hR : jR x = rm_Y_measure)  (σ : SP) {σ' : SP} (hr : (jt x).sig.returnType = none) (E : jE x 0 0 none ((wP ad cA σ') ++ wr)) (h : m_Y_measure σ = some σ') : jW x 4 0 0 0 [(0, .ref (ad 16)), (1, .ref (ad 2))] [] ((wP ad cA σ) ++ wr) := by
  unfold m_Y_measure at h
  refine j_aload_n C 0 d_Y_measure_0 rfl rfl rfl ?_
  refine j_aload_n C 1 d_Y_measure_1 rfl rfl rfl ?_
  obtain ⟨σ1, h2, h⟩ := mb1_some h
  refine j_callV C hR (As := [.ref (ad 2)]) (ct_Y_layLinks (jl x) (jD x) (jT x) hT  σ h2) kf_Y_layLinks (by decide) tw_470 tw_472 tw_27 16 rfl rfl (rest := []) rfl rfl (Nat.le_of_ble_eq_true rfl) (by decide) ⟨rfl, rfl⟩ d_Y_measure_2 rfl (st1 := []) rfl ?_
  refine j_iconst (v := 0) C d_Y_measure_5 rfl (by decide) ?_
  refine j_istore_n (lv' := [(2, .int (0 : Int32)), (0, .ref (ad 16)), (1, .ref (ad 2))]) C d_Y_measure_6 rfl rfl (by decide) rfl ?_
  obtain ⟨w8, σ9, h10, h⟩ := mb2_some h
  refine j_sub [1, 0] rfl (wl_Y_measure_7 C hT hR  σ1 (0 : Int32) FU h10 ?_)
  cases h
  exact j_vret C E hr d_Y_measure_39
theorem ct_Y_measure (l : Launch) (D : va_G) (tys : List (ClassId × FieldType)) {ad : Nat → Nat} {cA : ClassId} {wr : va_W} (hT : tys[0]? = some (cA, .int)) (σ : SP) {σ' : SP} (h : m_Y_measure σ = some σ') : jM l y_Y_measure ws_Y_measure rm_Y_measure D tys [.ref (ad 16), .ref (ad 2)] ((wP ad cA σ) ++ wr) none ((wP ad cA σ') ++ wr) :=
  j_of (by decide +kernel) rfl (Nat.le_of_ble_eq_true rfl) rfl (fun x _ _ hT' hR C hr _ E => w_Y_measure C (by rw [hT']; exact hT) hR σ hr E h)
def rm_Y_between : Room := { frames := 1, cells := 0, slots := 0, locals := 21 }
def m_Y_between (a1 : Int32) (a2 : Int32) (σ : SP) : Option (Int32) :=
  (mb1 (m_P_pair a1 a2) fun r1 => (mrd 100 (g_se σ) r1 fun r3 => some r3))
set_option maxHeartbeats 4000000 in
set_option maxRecDepth 100000 in
theorem w_Y_between {x : JX} {ad : Nat → Nat} {cA : ClassId} {wr : va_W} (C : jC x cc_Y_between 3 "PlainWarehouse$Ways") (hT : (jT x)[0]? = some (cA, .int)) (hR : jR x = rm_Y_between)  (a1 : Int32) (a2 : Int32) (σ : SP) {r : Int32} (hr : (jt x).sig.returnType = some .int) (E : jE x 0 0 (some (.int r)) ((wP ad cA σ) ++ wr)) (h : m_Y_between a1 a2 σ = some r) : jW x 3 0 0 0 [(0, .ref (ad 16)), (1, .int a1), (2, .int a2)] [] ((wP ad cA σ) ++ wr) := by
  unfold m_Y_between at h
  refine j_aload_n C 0 d_Y_between_0 rfl rfl rfl ?_
  refine j_get C in_Y 16 rfl rfl 0 (by decide) tw_139 rfl (v := .ref (ad 17)) rfl d_Y_between_1 rfl ?_
  refine j_iload_n C 1 d_Y_between_4 rfl rfl rfl ?_
  refine j_iload_n C 2 d_Y_between_5 rfl rfl rfl ?_
  obtain ⟨r1, h2, h⟩ := mb1_some h
  refine j_callSN C hR (As := [.int a1, .int a2]) (ct_P_pair (jl x) (jD x) (jT x) a1 a2 h2) kf_P_pair (by decide) tw_474 tw_218 (rest := [.ref (ad 17)]) rfl rfl (Nat.le_of_ble_eq_true rfl) (by decide) ⟨rfl, rfl⟩ d_Y_between_6 rfl (st1 := [.int r1, .ref (ad 17)]) rfl ?_
  refine j_iald C 17 0 rfl hT d_Y_between_9 rfl h (fun r3 h => ?_)
  cases h
  exact j_iret C E hr d_Y_between_10
theorem ct_Y_between (l : Launch) (D : va_G) (tys : List (ClassId × FieldType)) {ad : Nat → Nat} {cA : ClassId} {wr : va_W} (hT : tys[0]? = some (cA, .int)) (a1 : Int32) (a2 : Int32) (σ : SP) {r : Int32} (h : m_Y_between a1 a2 σ = some r) : jM l y_Y_between ws_Y_between rm_Y_between D tys [.ref (ad 16), .int a1, .int a2] ((wP ad cA σ) ++ wr) (some (.int r)) ((wP ad cA σ) ++ wr) :=
  j_of (by decide +kernel) rfl (Nat.le_of_ble_eq_true rfl) rfl (fun x _ _ hT' hR C hr _ E => w_Y_between C (by rw [hT']; exact hT) hR a1 a2 σ hr E h)
end
section
set_option maxRecDepth 100000 in
theorem tw_0 : Cond.selects "PlainWarehouse" (⟨"PlainWarehouse", "replay", "(I)V"⟩ : MethodName) (⟨"PlainWarehouse", "replay", "(I)V"⟩ : MethodName) ∈ WS := ws_in 0 rfl rfl
set_option maxRecDepth 100000 in
theorem tw_1 : Cond.selects "PlainWarehouse$House" (⟨"PlainWarehouse$House", "empty", "()V"⟩ : MethodName) (⟨"PlainWarehouse$House", "empty", "()V"⟩ : MethodName) ∈ WS := ws_in 1 rfl rfl
set_option maxRecDepth 100000 in
theorem tw_2 : Cond.selects "PlainWarehouse" (⟨"PlainWarehouse", "takeKept", "(I)Z"⟩ : MethodName) (⟨"PlainWarehouse", "takeKept", "(I)Z"⟩ : MethodName) ∈ WS := ws_in 2 rfl rfl
set_option maxRecDepth 100000 in
theorem tw_3 : Cond.selects "PlainWarehouse$House" (⟨"PlainWarehouse$House", "take", "(IIII)Z"⟩ : MethodName) (⟨"PlainWarehouse$House", "take", "(IIII)Z"⟩ : MethodName) ∈ WS := ws_in 3 rfl rfl
set_option maxRecDepth 100000 in
theorem tw_12 : Cond.selects "PlainWarehouse$House" (⟨"PlainWarehouse$House", "unitsAt", "(II)I"⟩ : MethodName) (⟨"PlainWarehouse$House", "unitsAt", "(II)I"⟩ : MethodName) ∈ WS := ws_in 12 rfl rfl
set_option maxRecDepth 100000 in
theorem tw_13 : Cond.selects "PlainWarehouse$House" (⟨"PlainWarehouse$House", "toldOrders", "()I"⟩ : MethodName) (⟨"PlainWarehouse$House", "toldOrders", "()I"⟩ : MethodName) ∈ WS := ws_in 13 rfl rfl
set_option maxRecDepth 100000 in
theorem tw_14 : Cond.selects "PlainWarehouse$House" (⟨"PlainWarehouse$House", "fullOrders", "()I"⟩ : MethodName) (⟨"PlainWarehouse$House", "fullOrders", "()I"⟩ : MethodName) ∈ WS := ws_in 14 rfl rfl
set_option maxRecDepth 100000 in
theorem tw_16 : Cond.selects "PlainWarehouse$House" (⟨"PlainWarehouse$House", "linkedPairs", "()I"⟩ : MethodName) (⟨"PlainWarehouse$House", "linkedPairs", "()I"⟩ : MethodName) ∈ WS := ws_in 16 rfl rfl
set_option maxRecDepth 100000 in
theorem tw_143 : Cond.fieldLink "PlainWarehouse" (9 : Nat) "PlainWarehouse" "row" "[I" ∈ WS := ws_in 143 rfl rfl
set_option maxRecDepth 100000 in
theorem tw_144 : Cond.fieldLink "PlainWarehouse" (13 : Nat) "PlainWarehouse" "eventCount" "I" ∈ WS := ws_in 144 rfl rfl
set_option maxRecDepth 100000 in
theorem tw_145 : Cond.fieldLink "PlainWarehouse" (17 : Nat) "PlainWarehouse" "refusedCount" "I" ∈ WS := ws_in 145 rfl rfl
set_option maxRecDepth 100000 in
theorem tw_146 : Cond.fieldLink "PlainWarehouse" (23 : Nat) "PlainWarehouse" "house" "LPlainWarehouse$House;" ∈ WS := ws_in 146 rfl rfl
set_option maxRecDepth 100000 in
theorem tw_166 : Cond.methodLink "PlainWarehouse" (57 : Nat) ({ cls := "PlainWarehouse", name := "replay", desc := "(I)V" } : MethodName) ∈ WS := ws_in 166 rfl rfl
set_option maxRecDepth 100000 in
theorem tw_168 : Cond.instanceMethod ({ cls := "PlainWarehouse", name := "replay", desc := "(I)V" } : MethodName) ∈ WS := ws_in 168 rfl rfl
set_option maxRecDepth 100000 in
theorem tw_170 : Cond.methodLinkNest "PlainWarehouse" (186 : Nat) ({ cls := "PlainWarehouse$House", name := "empty", desc := "()V" } : MethodName) "PlainWarehouse" ∈ NWS := nws_in 170 rfl rfl
set_option maxRecDepth 100000 in
theorem tw_172 : Cond.instanceMethod ({ cls := "PlainWarehouse$House", name := "empty", desc := "()V" } : MethodName) ∈ WS := ws_in 172 rfl rfl
set_option maxRecDepth 100000 in
theorem tw_177 : Cond.methodLink "PlainWarehouse" (162 : Nat) ({ cls := "PlainWarehouse", name := "takeKept", desc := "(I)Z" } : MethodName) ∈ WS := ws_in 177 rfl rfl
set_option maxRecDepth 100000 in
theorem tw_179 : Cond.instanceMethod ({ cls := "PlainWarehouse", name := "takeKept", desc := "(I)Z" } : MethodName) ∈ WS := ws_in 179 rfl rfl
set_option maxRecDepth 100000 in
theorem tw_181 : Cond.methodLinkNest "PlainWarehouse" (61 : Nat) ({ cls := "PlainWarehouse$House", name := "take", desc := "(IIII)Z" } : MethodName) "PlainWarehouse" ∈ NWS := nws_in 181 rfl rfl
set_option maxRecDepth 100000 in
theorem tw_183 : Cond.instanceMethod ({ cls := "PlainWarehouse$House", name := "take", desc := "(IIII)Z" } : MethodName) ∈ WS := ws_in 183 rfl rfl
set_option maxRecDepth 100000 in
theorem tw_220 : Cond.methodLinkNest "PlainWarehouse" (79 : Nat) ({ cls := "PlainWarehouse$House", name := "unitsAt", desc := "(II)I" } : MethodName) "PlainWarehouse" ∈ NWS := nws_in 220 rfl rfl
set_option maxRecDepth 100000 in
theorem tw_222 : Cond.instanceMethod ({ cls := "PlainWarehouse$House", name := "unitsAt", desc := "(II)I" } : MethodName) ∈ WS := ws_in 222 rfl rfl
set_option maxRecDepth 100000 in
theorem tw_227 : Cond.methodLinkNest "PlainWarehouse" (176 : Nat) ({ cls := "PlainWarehouse$House", name := "toldOrders", desc := "()I" } : MethodName) "PlainWarehouse" ∈ NWS := nws_in 227 rfl rfl
set_option maxRecDepth 100000 in
theorem tw_229 : Cond.instanceMethod ({ cls := "PlainWarehouse$House", name := "toldOrders", desc := "()I" } : MethodName) ∈ WS := ws_in 229 rfl rfl
set_option maxRecDepth 100000 in
theorem tw_231 : Cond.methodLinkNest "PlainWarehouse" (180 : Nat) ({ cls := "PlainWarehouse$House", name := "fullOrders", desc := "()I" } : MethodName) "PlainWarehouse" ∈ NWS := nws_in 231 rfl rfl
set_option maxRecDepth 100000 in
theorem tw_233 : Cond.instanceMethod ({ cls := "PlainWarehouse$House", name := "fullOrders", desc := "()I" } : MethodName) ∈ WS := ws_in 233 rfl rfl
set_option maxRecDepth 100000 in
theorem tw_239 : Cond.methodLinkNest "PlainWarehouse" (183 : Nat) ({ cls := "PlainWarehouse$House", name := "linkedPairs", desc := "()I" } : MethodName) "PlainWarehouse" ∈ NWS := nws_in 239 rfl rfl
set_option maxRecDepth 100000 in
theorem tw_241 : Cond.instanceMethod ({ cls := "PlainWarehouse$House", name := "linkedPairs", desc := "()I" } : MethodName) ∈ WS := ws_in 241 rfl rfl
set_option maxRecDepth 100000 in
theorem tw_407 : Cond.methodLinkNest "PlainWarehouse" (99 : Nat) ({ cls := "PlainWarehouse$House", name := "isTold", desc := "(I)Z" } : MethodName) "PlainWarehouse" ∈ NWS := nws_in 407 rfl rfl
set_option maxRecDepth 100000 in
theorem tw_426 : Cond.methodLink "PlainWarehouse" (189 : Nat) ({ cls := "PlainWarehouse", name := "isInSet", desc := "(II)Z" } : MethodName) ∈ WS := ws_in 426 rfl rfl
def rm_P_takeKept : Room := { frames := 4, cells := 0, slots := 0, locals := 89 }
def m_P_takeKept (a1 : Int32) (σ : SP) : Option (Int32 × SP) :=
  (mrd 240 (g_row σ) (a1 * (4 : Int32)) fun r1 => (mrd 240 (g_row σ) ((a1 * (4 : Int32)) + (1 : Int32)) fun r2 => (mrd 240 (g_row σ) ((a1 * (4 : Int32)) + (2 : Int32)) fun r3 => (mrd 240 (g_row σ) ((a1 * (4 : Int32)) + (3 : Int32)) fun r4 => (mb2 (m_H_take r1 r2 r3 r4 σ) fun r5 σ6 => (mzr r5 (some (r5, σ6))))))))
set_option maxHeartbeats 4000000 in
set_option maxRecDepth 100000 in
theorem w_P_takeKept {x : JX} {ad : Nat → Nat} {cA : ClassId} {wr : va_W} (C : jC x cc_P_takeKept 3 "PlainWarehouse") (hT : (jT x)[0]? = some (cA, .int)) (hR : jR x = rm_P_takeKept)  (a1 : Int32) (σ : SP) {r : Int32} {σ' : SP} (hr : (jt x).sig.returnType = some .boolean) (E : jE x 0 0 (some (.int r)) ((wP ad cA σ') ++ wr)) (h : m_P_takeKept a1 σ = some (r, σ')) : jW x 3 0 0 0 [(0, .ref (ad 0)), (1, .int a1)] [] ((wP ad cA σ) ++ wr) := by
  unfold m_P_takeKept at h
  refine j_iload_n C 1 d_P_takeKept_0 rfl rfl rfl ?_
  refine j_iconst (v := 4) C d_P_takeKept_1 rfl (by decide) ?_
  refine j_imul C d_P_takeKept_2 rfl ?_
  refine j_istore_n (lv' := [(2, .int (a1 * (4 : Int32))), (0, .ref (ad 0)), (1, .int a1)]) C d_P_takeKept_3 rfl rfl (by decide) rfl ?_
  refine j_aload_n C 1 d_P_takeKept_4 rfl rfl rfl ?_
  refine j_get C in_P 0 rfl rfl 3 (by decide) tw_146 rfl (v := .ref (ad 2)) rfl d_P_takeKept_5 rfl ?_
  refine j_aload_n C 1 d_P_takeKept_8 rfl rfl rfl ?_
  refine j_get C in_P 0 rfl rfl 0 (by decide) tw_143 rfl (v := .ref (ad 1)) rfl d_P_takeKept_9 rfl ?_
  refine j_iload_n C 0 d_P_takeKept_12 rfl rfl rfl ?_
  refine j_iald C 1 0 rfl hT d_P_takeKept_13 rfl h (fun r1 h => ?_)
  refine j_aload_n C 1 d_P_takeKept_14 rfl rfl rfl ?_
  refine j_get C in_P 0 rfl rfl 0 (by decide) tw_143 rfl (v := .ref (ad 1)) rfl d_P_takeKept_15 rfl ?_
  refine j_iload_n C 0 d_P_takeKept_18 rfl rfl rfl ?_
  refine j_iconst (v := 1) C d_P_takeKept_19 rfl (by decide) ?_
  refine j_iadd C d_P_takeKept_20 rfl ?_
  refine j_iald C 1 0 rfl hT d_P_takeKept_21 rfl h (fun r2 h => ?_)
  refine j_aload_n C 1 d_P_takeKept_22 rfl rfl rfl ?_
  refine j_get C in_P 0 rfl rfl 0 (by decide) tw_143 rfl (v := .ref (ad 1)) rfl d_P_takeKept_23 rfl ?_
  refine j_iload_n C 0 d_P_takeKept_26 rfl rfl rfl ?_
  refine j_iconst (v := 2) C d_P_takeKept_27 rfl (by decide) ?_
  refine j_iadd C d_P_takeKept_28 rfl ?_
  refine j_iald C 1 0 rfl hT d_P_takeKept_29 rfl h (fun r3 h => ?_)
  refine j_aload_n C 1 d_P_takeKept_30 rfl rfl rfl ?_
  refine j_get C in_P 0 rfl rfl 0 (by decide) tw_143 rfl (v := .ref (ad 1)) rfl d_P_takeKept_31 rfl ?_
  refine j_iload_n C 0 d_P_takeKept_34 rfl rfl rfl ?_
  refine j_iconst (v := 3) C d_P_takeKept_35 rfl (by decide) ?_
  refine j_iadd C d_P_takeKept_36 rfl ?_
  refine j_iald C 1 0 rfl hT d_P_takeKept_37 rfl h (fun r4 h => ?_)
  obtain ⟨r5, σ6, h7, h⟩ := mb2_some h
  refine j_callVN C hR (As := [.int r1, .int r2, .int r3, .int r4]) (ct_H_take (jl x) (jD x) (jT x) hT r1 r2 r3 r4 σ h7) kf_H_take (by decide) tw_181 tw_183 tw_3 2 rfl rfl (rest := []) rfl rfl (Nat.le_of_ble_eq_true rfl) (by decide) ⟨rfl, rfl⟩ d_P_takeKept_38 rfl (st1 := [.int r5]) rfl ?_
  obtain ⟨hz, h⟩ := mzr_some h
  cases h
  exact j_zret C E hr hz d_P_takeKept_41
theorem ct_P_takeKept (l : Launch) (D : va_G) (tys : List (ClassId × FieldType)) {ad : Nat → Nat} {cA : ClassId} {wr : va_W} (hT : tys[0]? = some (cA, .int)) (a1 : Int32) (σ : SP) {r : Int32} {σ' : SP} (h : m_P_takeKept a1 σ = some (r, σ')) : jM l y_P_takeKept ws_P_takeKept rm_P_takeKept D tys [.ref (ad 0), .int a1] ((wP ad cA σ) ++ wr) (some (.int r)) ((wP ad cA σ') ++ wr) :=
  j_of (by decide +kernel) rfl (Nat.le_of_ble_eq_true rfl) rfl (fun x _ _ hT' hR C hr _ E => w_P_takeKept C (by rw [hT']; exact hT) hR a1 σ hr E h)
def rm_P_replay : Room := { frames := 5, cells := 0, slots := 0, locals := 111 }
def b_P_replay_9 (c1 : Int32) (v2 : Int32) (σ : SP) : Option ((Int32 × SP) ⊕ (Int32 × SP)) :=
  (if c1 ≤ v2 then some (.inr (v2, σ)) else (mb2 (m_P_takeKept v2 σ) fun r3 σ4 => some (.inl ((v2 + 1), σ4))))
def m_P_replay (a1 : Int32) (σ : SP) : Option (SP) :=
  (mb1 (m_H_empty σ) fun σ1 => (mb2 (lp (fun s => b_P_replay_9 a1 s.1 s.2) FU ((0 : Int32), σ1)) fun w6 σ7 => some σ7))
set_option maxHeartbeats 4000000 in
set_option maxRecDepth 100000 in
theorem wb_P_replay_9 {x : JX} {ad : Nat → Nat} {cA : ClassId} {wr : va_W} (C : jC x cc_P_replay 3 "PlainWarehouse") (hT : (jT x)[0]? = some (cA, .int)) (hR : jR x = rm_P_replay)  (c1 : Int32) (σ : SP) (v2 : Int32) {o : (Int32 × SP) ⊕ (Int32 × SP)} (h : b_P_replay_9 c1 v2 σ = some o) (kc : ∀ (u2 : Int32) (τ : SP), o = .inl (u2, τ) → jW x 3 0 0 9 [(0, .ref (ad 0)), (1, .int c1), (2, .int u2)] [] ((wP ad cA τ) ++ wr)) (ke : ∀ (u2 : Int32) (τ : SP), o = .inr (u2, τ) → jW x 3 0 0 26 [(0, .ref (ad 0)), (1, .int c1), (2, .int u2)] [] ((wP ad cA τ) ++ wr)) : jW x 3 0 0 9 [(0, .ref (ad 0)), (1, .int c1), (2, .int v2)] [] ((wP ad cA σ) ++ wr) := by
  unfold b_P_replay_9 at h
  refine j_iload_n C 2 d_P_replay_9 rfl rfl rfl ?_
  refine j_iload_n C 1 d_P_replay_10 rfl rfl rfl ?_
  refine j_icmp_ge (tgt := 26) C d_P_replay_11 (by decide) rfl h (fun h => ?_) (fun h => ?_)
  · cases h
    refine j_sub [0, 1, 2] rfl (ke _ _ rfl)
  · refine j_aload_n C 0 d_P_replay_14 rfl rfl rfl ?_
    refine j_iload_n C 2 d_P_replay_15 rfl rfl rfl ?_
    obtain ⟨r3, σ4, h5, h⟩ := mb2_some h
    refine j_callV C hR (As := [.int v2]) (ct_P_takeKept (jl x) (jD x) (jT x) hT v2 σ h5) kf_P_takeKept (by decide) tw_177 tw_179 tw_2 0 rfl rfl (rest := []) rfl rfl (Nat.le_of_ble_eq_true rfl) (by decide) ⟨rfl, rfl⟩ d_P_replay_16 rfl (st1 := [.int r3]) rfl ?_
    refine j_pop C d_P_replay_19 rfl rfl ?_
    refine j_iinc (v' := (v2 + 1)) (lv' := [(2, .int (v2 + 1)), (0, .ref (ad 0)), (1, .int c1)]) C 2 d_P_replay_20 rfl rfl rfl (by decide) rfl ?_
    refine j_goto (tgt := 9) C d_P_replay_23 (by decide) ?_
    cases h
    refine j_sub [1, 2, 0] rfl (kc _ _ rfl)
set_option maxRecDepth 100000 in
theorem wl_P_replay_9 {x : JX} {ad : Nat → Nat} {cA : ClassId} {wr : va_W} (C : jC x cc_P_replay 3 "PlainWarehouse") (hT : (jT x)[0]? = some (cA, .int)) (hR : jR x = rm_P_replay)  (c1 : Int32) (σ : SP) (v2 : Int32) {u2 : Int32} {τ : SP} (n : Nat) (h : lp (fun s => b_P_replay_9 c1 s.1 s.2) n (v2, σ) = some (u2, τ)) (K : jW x 3 0 0 26 [(0, .ref (ad 0)), (1, .int c1), (2, .int u2)] [] ((wP ad cA τ) ++ wr)) : jW x 3 0 0 9 [(0, .ref (ad 0)), (1, .int c1), (2, .int v2)] [] ((wP ad cA σ) ++ wr) :=
  j_lp (Pr := fun s => jW x 3 0 0 9 [(0, .ref (ad 0)), (1, .int c1), (2, .int s.1)] [] ((wP ad cA s.2) ++ wr)) (K := fun s => jW x 3 0 0 26 [(0, .ref (ad 0)), (1, .int c1), (2, .int s.1)] [] ((wP ad cA s.2) ++ wr)) (fun s o h kc ke => wb_P_replay_9 C hT hR c1 s.2 s.1 h (fun u2 τ e => kc _ e) (fun u2 τ e => ke _ e)) n _ _ h K
set_option maxHeartbeats 4000000 in
set_option maxRecDepth 100000 in
theorem w_P_replay {x : JX} {ad : Nat → Nat} {cA : ClassId} {wr : va_W} (C : jC x cc_P_replay 3 "PlainWarehouse") (hT : (jT x)[0]? = some (cA, .int)) (hR : jR x = rm_P_replay)  (a1 : Int32) (σ : SP) {σ' : SP} (hr : (jt x).sig.returnType = none) (E : jE x 0 0 none ((wP ad cA σ') ++ wr)) (h : m_P_replay a1 σ = some σ') : jW x 3 0 0 0 [(0, .ref (ad 0)), (1, .int a1)] [] ((wP ad cA σ) ++ wr) := by
  unfold m_P_replay at h
  refine j_aload_n C 0 d_P_replay_0 rfl rfl rfl ?_
  refine j_get C in_P 0 rfl rfl 3 (by decide) tw_146 rfl (v := .ref (ad 2)) rfl d_P_replay_1 rfl ?_
  obtain ⟨σ1, h2, h⟩ := mb1_some h
  refine j_callVN C hR (As := []) (ct_H_empty (jl x) (jD x) (jT x) hT  σ h2) kf_H_empty (by decide) tw_170 tw_172 tw_1 2 rfl rfl (rest := []) rfl rfl (Nat.le_of_ble_eq_true rfl) (by decide) ⟨rfl, rfl⟩ d_P_replay_4 rfl (st1 := []) rfl ?_
  refine j_iconst (v := 0) C d_P_replay_7 rfl (by decide) ?_
  refine j_istore_n (lv' := [(2, .int (0 : Int32)), (0, .ref (ad 0)), (1, .int a1)]) C d_P_replay_8 rfl rfl (by decide) rfl ?_
  obtain ⟨w6, σ7, h8, h⟩ := mb2_some h
  refine j_sub [1, 2, 0] rfl (wl_P_replay_9 C hT hR a1 σ1 (0 : Int32) FU h8 ?_)
  cases h
  exact j_vret C E hr d_P_replay_26
theorem ct_P_replay (l : Launch) (D : va_G) (tys : List (ClassId × FieldType)) {ad : Nat → Nat} {cA : ClassId} {wr : va_W} (hT : tys[0]? = some (cA, .int)) (a1 : Int32) (σ : SP) {σ' : SP} (h : m_P_replay a1 σ = some σ') : jM l y_P_replay ws_P_replay rm_P_replay D tys [.ref (ad 0), .int a1] ((wP ad cA σ) ++ wr) none ((wP ad cA σ') ++ wr) :=
  j_of (by decide +kernel) rfl (Nat.le_of_ble_eq_true rfl) rfl (fun x _ _ hT' hR C hr _ E => w_P_replay C (by rw [hT']; exact hT) hR a1 σ hr E h)
def rm_P_keep : Room := { frames := 0, cells := 0, slots := 0, locals := 0 }
def m_P_keep (a1 : Int32) (a2 : Int32) (a3 : Int32) (a4 : Int32) (σ : SP) : Option (SP) :=
  (mck 240 ((g_ec σ) * (4 : Int32)) (mlet (u_row σ (upd (g_row σ) ((g_ec σ) * (4 : Int32)).toNatClampNeg a1)) fun σ1 => (mck 240 (((g_ec σ) * (4 : Int32)) + (1 : Int32)) (mlet (u_row σ1 (upd (g_row σ1) (((g_ec σ) * (4 : Int32)) + (1 : Int32)).toNatClampNeg a2)) fun σ2 => (mck 240 (((g_ec σ) * (4 : Int32)) + (2 : Int32)) (mlet (u_row σ2 (upd (g_row σ2) (((g_ec σ) * (4 : Int32)) + (2 : Int32)).toNatClampNeg a3)) fun σ3 => (mck 240 (((g_ec σ) * (4 : Int32)) + (3 : Int32)) (mlet (u_row σ3 (upd (g_row σ3) (((g_ec σ) * (4 : Int32)) + (3 : Int32)).toNatClampNeg a4)) fun σ4 => (mlet (u_ec σ4 ((g_ec σ4) + (1 : Int32))) fun σ5 => some σ5)))))))))
set_option maxHeartbeats 4000000 in
set_option maxRecDepth 100000 in
theorem w_P_keep {x : JX} {ad : Nat → Nat} {cA : ClassId} {wr : va_W} (C : jC x cc_P_keep 6 "PlainWarehouse") (hT : (jT x)[0]? = some (cA, .int)) (hR : jR x = rm_P_keep)  (a1 : Int32) (a2 : Int32) (a3 : Int32) (a4 : Int32) (σ : SP) {σ' : SP} (hr : (jt x).sig.returnType = none) (E : jE x 0 0 none ((wP ad cA σ') ++ wr)) (h : m_P_keep a1 a2 a3 a4 σ = some σ') : jW x 6 0 0 0 [(0, .ref (ad 0)), (1, .int a1), (2, .int a2), (3, .int a3), (4, .int a4)] [] ((wP ad cA σ) ++ wr) := by
  unfold m_P_keep at h
  refine j_aload_n C 0 d_P_keep_0 rfl rfl rfl ?_
  refine j_get C in_P 0 rfl rfl 1 (by decide) tw_144 rfl (v := .int (g_ec σ)) rfl d_P_keep_1 rfl ?_
  refine j_iconst (v := 4) C d_P_keep_4 rfl (by decide) ?_
  refine j_imul C d_P_keep_5 rfl ?_
  refine j_istore (lv' := [(5, .int ((g_ec σ) * (4 : Int32))), (0, .ref (ad 0)), (1, .int a1), (2, .int a2), (3, .int a3), (4, .int a4)]) C d_P_keep_6 rfl (by decide) rfl ?_
  refine j_aload_n C 1 d_P_keep_8 rfl rfl rfl ?_
  refine j_get C in_P 0 rfl rfl 0 (by decide) tw_143 rfl (v := .ref (ad 1)) rfl d_P_keep_9 rfl ?_
  refine j_iload C 0 d_P_keep_12 rfl rfl ?_
  refine j_iload_n C 2 d_P_keep_14 rfl rfl rfl ?_
  refine j_iast C (fun t => (wP ad cA t) ++ wr) 1 0 rfl hT d_P_keep_15 rfl h rfl (fun σ1 h => ?_)
  refine j_aload_n C 1 d_P_keep_16 rfl rfl rfl ?_
  refine j_get C in_P 0 rfl rfl 0 (by decide) tw_143 rfl (v := .ref (ad 1)) rfl d_P_keep_17 rfl ?_
  refine j_iload C 0 d_P_keep_20 rfl rfl ?_
  refine j_iconst (v := 1) C d_P_keep_22 rfl (by decide) ?_
  refine j_iadd C d_P_keep_23 rfl ?_
  refine j_iload_n C 3 d_P_keep_24 rfl rfl rfl ?_
  refine j_iast C (fun t => (wP ad cA t) ++ wr) 1 0 rfl hT d_P_keep_25 rfl h rfl (fun σ2 h => ?_)
  refine j_aload_n C 1 d_P_keep_26 rfl rfl rfl ?_
  refine j_get C in_P 0 rfl rfl 0 (by decide) tw_143 rfl (v := .ref (ad 1)) rfl d_P_keep_27 rfl ?_
  refine j_iload C 0 d_P_keep_30 rfl rfl ?_
  refine j_iconst (v := 2) C d_P_keep_32 rfl (by decide) ?_
  refine j_iadd C d_P_keep_33 rfl ?_
  refine j_iload_n C 4 d_P_keep_34 rfl rfl rfl ?_
  refine j_iast C (fun t => (wP ad cA t) ++ wr) 1 0 rfl hT d_P_keep_35 rfl h rfl (fun σ3 h => ?_)
  refine j_aload_n C 1 d_P_keep_36 rfl rfl rfl ?_
  refine j_get C in_P 0 rfl rfl 0 (by decide) tw_143 rfl (v := .ref (ad 1)) rfl d_P_keep_37 rfl ?_
  refine j_iload C 0 d_P_keep_40 rfl rfl ?_
  refine j_iconst (v := 3) C d_P_keep_42 rfl (by decide) ?_
  refine j_iadd C d_P_keep_43 rfl ?_
  refine j_iload C 5 d_P_keep_44 rfl rfl ?_
  refine j_iast C (fun t => (wP ad cA t) ++ wr) 1 0 rfl hT d_P_keep_46 rfl h rfl (fun σ4 h => ?_)
  refine j_aload_n C 1 d_P_keep_47 rfl rfl rfl ?_
  refine j_dup C d_P_keep_48 rfl rfl ?_
  refine j_get C in_P 0 rfl rfl 1 (by decide) tw_144 rfl (v := .int (g_ec σ4)) rfl d_P_keep_49 rfl ?_
  refine j_iconst (v := 1) C d_P_keep_52 rfl (by decide) ?_
  refine j_iadd C d_P_keep_53 rfl ?_
  refine j_put C in_P ty_P_ok nm_P 0 rfl rfl 1 (by decide) tw_144 rfl rfl rfl (by decide) (fun t => (wP ad cA t) ++ wr) d_P_keep_54 rfl h rfl (fun σ5 h => ?_)
  cases h
  exact j_vret C E hr d_P_keep_57
theorem ct_P_keep (l : Launch) (D : va_G) (tys : List (ClassId × FieldType)) {ad : Nat → Nat} {cA : ClassId} {wr : va_W} (hT : tys[0]? = some (cA, .int)) (a1 : Int32) (a2 : Int32) (a3 : Int32) (a4 : Int32) (σ : SP) {σ' : SP} (h : m_P_keep a1 a2 a3 a4 σ = some σ') : jM l y_P_keep ws_P_keep rm_P_keep D tys [.ref (ad 0), .int a1, .int a2, .int a3, .int a4] ((wP ad cA σ) ++ wr) none ((wP ad cA σ') ++ wr) :=
  j_of (by decide +kernel) rfl (Nat.le_of_ble_eq_true rfl) rfl (fun x _ _ hT' hR C hr _ E => w_P_keep C (by rw [hT']; exact hT) hR a1 a2 a3 a4 σ hr E h)
def rm_P_areAllTold : Room := { frames := 1, cells := 0, slots := 0, locals := 21 }
def b_P_areAllTold_2 (c1 : Int32) (σ : SP) (v2 : Int32) : Option ((Int32) ⊕ (Nat × Int32)) :=
  (if (32 : Int32) ≤ v2 then some (.inr (1, v2)) else (mb1 (m_P_isInSet v2 c1) fun r1 => (if r1 = 0 then some (.inl (v2 + 1)) else (mb1 (m_H_isTold v2 σ) fun r3 => (if r3 = 0 then some (.inr (0, v2)) else some (.inl (v2 + 1)))))))
def m_P_areAllTold (a1 : Int32) (σ : SP) : Option (Int32) :=
  (mb2 (lp (fun s => b_P_areAllTold_2 a1 σ s) FU (0 : Int32)) fun tg7 w5 => (if tg7 = 0 then some (0 : Int32) else some (1 : Int32)))
set_option maxHeartbeats 4000000 in
set_option maxRecDepth 100000 in
theorem wb_P_areAllTold_2 {x : JX} {ad : Nat → Nat} {cA : ClassId} {wr : va_W} (C : jC x cc_P_areAllTold 3 "PlainWarehouse") (hT : (jT x)[0]? = some (cA, .int)) (hR : jR x = rm_P_areAllTold)  (c1 : Int32) (σ : SP) (v2 : Int32) {o : (Int32) ⊕ (Nat × Int32)} (h : b_P_areAllTold_2 c1 σ v2 = some o) (kc : ∀ (u2 : Int32), o = .inl u2 → jW x 3 0 0 2 [(0, .ref (ad 0)), (1, .int c1), (2, .int u2)] [] ((wP ad cA σ) ++ wr)) (ke0 : ∀ (u2 : Int32), o = .inr (0, u2) → jW x 3 0 0 27 [(0, .ref (ad 0)), (1, .int c1), (2, .int u2)] [] ((wP ad cA σ) ++ wr)) (ke1 : ∀ (u2 : Int32), o = .inr (1, u2) → jW x 3 0 0 35 [(0, .ref (ad 0)), (1, .int c1), (2, .int u2)] [] ((wP ad cA σ) ++ wr)) : jW x 3 0 0 2 [(0, .ref (ad 0)), (1, .int c1), (2, .int v2)] [] ((wP ad cA σ) ++ wr) := by
  unfold b_P_areAllTold_2 at h
  refine j_iload_n C 2 d_P_areAllTold_2 rfl rfl rfl ?_
  refine j_bipush (v := 32) C d_P_areAllTold_3 rfl (by decide) ?_
  refine j_icmp_ge (tgt := 35) C d_P_areAllTold_5 (by decide) rfl h (fun h => ?_) (fun h => ?_)
  · cases h
    refine j_sub [0, 1, 2] rfl (ke1 _ rfl)
  · refine j_iload_n C 2 d_P_areAllTold_8 rfl rfl rfl ?_
    refine j_iload_n C 1 d_P_areAllTold_9 rfl rfl rfl ?_
    obtain ⟨r1, h2, h⟩ := mb1_some h
    refine j_callS C hR (As := [.int v2, .int c1]) (ct_P_isInSet (jl x) (jD x) (jT x) v2 c1 h2) kf_P_isInSet (by decide) tw_426 tw_427 (rest := []) rfl rfl (Nat.le_of_ble_eq_true rfl) (by decide) ⟨rfl, rfl⟩ d_P_areAllTold_10 rfl (st1 := [.int r1]) rfl ?_
    refine j_if_eq (tgt := 29) C d_P_areAllTold_13 (by decide) rfl h (fun h => ?_) (fun h => ?_)
    · refine j_iinc (v' := (v2 + 1)) (lv' := [(2, .int (v2 + 1)), (0, .ref (ad 0)), (1, .int c1)]) C 2 d_P_areAllTold_29 rfl rfl rfl (by decide) rfl ?_
      refine j_goto (tgt := 2) C d_P_areAllTold_32 (by decide) ?_
      cases h
      refine j_sub [1, 2, 0] rfl (kc _ rfl)
    · refine j_aload_n C 0 d_P_areAllTold_16 rfl rfl rfl ?_
      refine j_get C in_P 0 rfl rfl 3 (by decide) tw_146 rfl (v := .ref (ad 2)) rfl d_P_areAllTold_17 rfl ?_
      refine j_iload_n C 2 d_P_areAllTold_20 rfl rfl rfl ?_
      obtain ⟨r3, h4, h⟩ := mb1_some h
      refine j_callVN C hR (As := [.int v2]) (ct_H_isTold (jl x) (jD x) (jT x) hT v2 σ h4) kf_H_isTold (by decide) tw_407 tw_199 tw_7 2 rfl rfl (rest := []) rfl rfl (Nat.le_of_ble_eq_true rfl) (by decide) ⟨rfl, rfl⟩ d_P_areAllTold_21 rfl (st1 := [.int r3]) rfl ?_
      refine j_if_ne (tgt := 29) C d_P_areAllTold_24 (by decide) rfl h (fun h => ?_) (fun h => ?_)
      · refine j_iinc (v' := (v2 + 1)) (lv' := [(2, .int (v2 + 1)), (0, .ref (ad 0)), (1, .int c1)]) C 2 d_P_areAllTold_29 rfl rfl rfl (by decide) rfl ?_
        refine j_goto (tgt := 2) C d_P_areAllTold_32 (by decide) ?_
        cases h
        refine j_sub [1, 2, 0] rfl (kc _ rfl)
      · cases h
        refine j_sub [0, 1, 2] rfl (ke0 _ rfl)
set_option maxRecDepth 100000 in
theorem wl_P_areAllTold_2 {x : JX} {ad : Nat → Nat} {cA : ClassId} {wr : va_W} (C : jC x cc_P_areAllTold 3 "PlainWarehouse") (hT : (jT x)[0]? = some (cA, .int)) (hR : jR x = rm_P_areAllTold)  (c1 : Int32) (σ : SP) (v2 : Int32) {u2 : Int32} {tg : Nat} (n : Nat) (h : lp (fun s => b_P_areAllTold_2 c1 σ s) n v2 = some (tg, u2)) (K0 : tg = 0 → jW x 3 0 0 27 [(0, .ref (ad 0)), (1, .int c1), (2, .int u2)] [] ((wP ad cA σ) ++ wr)) (K1 : ¬ tg = 0 → jW x 3 0 0 35 [(0, .ref (ad 0)), (1, .int c1), (2, .int u2)] [] ((wP ad cA σ) ++ wr)) : jW x 3 0 0 2 [(0, .ref (ad 0)), (1, .int c1), (2, .int v2)] [] ((wP ad cA σ) ++ wr) :=
  j_lp (Pr := fun s => jW x 3 0 0 2 [(0, .ref (ad 0)), (1, .int c1), (2, .int s)] [] ((wP ad cA σ) ++ wr)) (K := fun s => (s.1 = 0 → jW x 3 0 0 27 [(0, .ref (ad 0)), (1, .int c1), (2, .int s.2)] [] ((wP ad cA σ) ++ wr)) ∧ (¬ s.1 = 0 → jW x 3 0 0 35 [(0, .ref (ad 0)), (1, .int c1), (2, .int s.2)] [] ((wP ad cA σ) ++ wr))) (fun s o h kc ke => wb_P_areAllTold_2 C hT hR c1 σ s h (fun u2 e => kc _ e) (fun u2 e => (ke _ e).1 rfl) (fun u2 e => (ke _ e).2 (by decide))) n _ _ h ⟨K0, K1⟩
set_option maxHeartbeats 4000000 in
set_option maxRecDepth 100000 in
theorem w_P_areAllTold {x : JX} {ad : Nat → Nat} {cA : ClassId} {wr : va_W} (C : jC x cc_P_areAllTold 3 "PlainWarehouse") (hT : (jT x)[0]? = some (cA, .int)) (hR : jR x = rm_P_areAllTold)  (a1 : Int32) (σ : SP) {r : Int32} (hr : (jt x).sig.returnType = some .boolean) (E : jE x 0 0 (some (.int r)) ((wP ad cA σ) ++ wr)) (h : m_P_areAllTold a1 σ = some r) : jW x 3 0 0 0 [(0, .ref (ad 0)), (1, .int a1)] [] ((wP ad cA σ) ++ wr) := by
  unfold m_P_areAllTold at h
  refine j_iconst (v := 0) C d_P_areAllTold_0 rfl (by decide) ?_
  refine j_istore_n (lv' := [(2, .int (0 : Int32)), (0, .ref (ad 0)), (1, .int a1)]) C d_P_areAllTold_1 rfl rfl (by decide) rfl ?_
  obtain ⟨tg7, w5, h6, h⟩ := mb2_some h
  refine j_sub [1, 2, 0] rfl (wl_P_areAllTold_2 C hT hR a1 σ (0 : Int32) FU h6 (fun q => ?_) (fun q => ?_))
  · rw [if_pos q] at h
    refine j_iconst (v := 0) C d_P_areAllTold_27 rfl (by decide) ?_
    cases h
    exact j_zret C E hr rfl d_P_areAllTold_28
  · rw [if_neg q] at h
    refine j_iconst (v := 1) C d_P_areAllTold_35 rfl (by decide) ?_
    cases h
    exact j_zret C E hr rfl d_P_areAllTold_36
theorem ct_P_areAllTold (l : Launch) (D : va_G) (tys : List (ClassId × FieldType)) {ad : Nat → Nat} {cA : ClassId} {wr : va_W} (hT : tys[0]? = some (cA, .int)) (a1 : Int32) (σ : SP) {r : Int32} (h : m_P_areAllTold a1 σ = some r) : jM l y_P_areAllTold ws_P_areAllTold rm_P_areAllTold D tys [.ref (ad 0), .int a1] ((wP ad cA σ) ++ wr) (some (.int r)) ((wP ad cA σ) ++ wr) :=
  j_of (by decide +kernel) rfl (Nat.le_of_ble_eq_true rfl) rfl (fun x _ _ hT' hR C hr _ E => w_P_areAllTold C (by rw [hT']; exact hT) hR a1 σ hr E h)
def rm_P_isEvent : Room := { frames := 1, cells := 0, slots := 0, locals := 22 }
def m_P_isEvent (a1 : Int32) (σ : SP) : Option (Int32) :=
  (mb1 (m_P_isWithin a1 (0 : Int32) ((g_ec σ) - (1 : Int32))) fun r1 => (mzr r1 (some r1)))
set_option maxHeartbeats 4000000 in
set_option maxRecDepth 100000 in
theorem w_P_isEvent {x : JX} {ad : Nat → Nat} {cA : ClassId} {wr : va_W} (C : jC x cc_P_isEvent 2 "PlainWarehouse") (hT : (jT x)[0]? = some (cA, .int)) (hR : jR x = rm_P_isEvent)  (a1 : Int32) (σ : SP) {r : Int32} (hr : (jt x).sig.returnType = some .boolean) (E : jE x 0 0 (some (.int r)) ((wP ad cA σ) ++ wr)) (h : m_P_isEvent a1 σ = some r) : jW x 2 0 0 0 [(0, .ref (ad 0)), (1, .int a1)] [] ((wP ad cA σ) ++ wr) := by
  unfold m_P_isEvent at h
  refine j_iload_n C 1 d_P_isEvent_0 rfl rfl rfl ?_
  refine j_iconst (v := 0) C d_P_isEvent_1 rfl (by decide) ?_
  refine j_aload_n C 0 d_P_isEvent_2 rfl rfl rfl ?_
  refine j_get C in_P 0 rfl rfl 1 (by decide) tw_144 rfl (v := .int (g_ec σ)) rfl d_P_isEvent_3 rfl ?_
  refine j_iconst (v := 1) C d_P_isEvent_6 rfl (by decide) ?_
  refine j_isub C d_P_isEvent_7 rfl ?_
  obtain ⟨r1, h2, h⟩ := mb1_some h
  refine j_callS C hR (As := [.int a1, .int (0 : Int32), .int ((g_ec σ) - (1 : Int32))]) (ct_P_isWithin (jl x) (jD x) (jT x) a1 (0 : Int32) ((g_ec σ) - (1 : Int32)) h2) kf_P_isWithin (by decide) tw_258 tw_259 (rest := []) rfl rfl (Nat.le_of_ble_eq_true rfl) (by decide) ⟨rfl, rfl⟩ d_P_isEvent_8 rfl (st1 := [.int r1]) rfl ?_
  obtain ⟨hz, h⟩ := mzr_some h
  cases h
  exact j_zret C E hr hz d_P_isEvent_11
theorem ct_P_isEvent (l : Launch) (D : va_G) (tys : List (ClassId × FieldType)) {ad : Nat → Nat} {cA : ClassId} {wr : va_W} (hT : tys[0]? = some (cA, .int)) (a1 : Int32) (σ : SP) {r : Int32} (h : m_P_isEvent a1 σ = some r) : jM l y_P_isEvent ws_P_isEvent rm_P_isEvent D tys [.ref (ad 0), .int a1] ((wP ad cA σ) ++ wr) (some (.int r)) ((wP ad cA σ) ++ wr) :=
  j_of (by decide +kernel) rfl (Nat.le_of_ble_eq_true rfl) rfl (fun x _ _ hT' hR C hr _ E => w_P_isEvent C (by rw [hT']; exact hT) hR a1 σ hr E h)
def rm_P_hasSoMany : Room := { frames := 1, cells := 0, slots := 0, locals := 22 }
def m_P_hasSoMany (a1 : Int32) (σ : SP) : Option (Int32) :=
  (mb1 (m_P_isWithin a1 (0 : Int32) (g_ec σ)) fun r1 => (mzr r1 (some r1)))
set_option maxHeartbeats 4000000 in
set_option maxRecDepth 100000 in
theorem w_P_hasSoMany {x : JX} {ad : Nat → Nat} {cA : ClassId} {wr : va_W} (C : jC x cc_P_hasSoMany 2 "PlainWarehouse") (hT : (jT x)[0]? = some (cA, .int)) (hR : jR x = rm_P_hasSoMany)  (a1 : Int32) (σ : SP) {r : Int32} (hr : (jt x).sig.returnType = some .boolean) (E : jE x 0 0 (some (.int r)) ((wP ad cA σ) ++ wr)) (h : m_P_hasSoMany a1 σ = some r) : jW x 2 0 0 0 [(0, .ref (ad 0)), (1, .int a1)] [] ((wP ad cA σ) ++ wr) := by
  unfold m_P_hasSoMany at h
  refine j_iload_n C 1 d_P_hasSoMany_0 rfl rfl rfl ?_
  refine j_iconst (v := 0) C d_P_hasSoMany_1 rfl (by decide) ?_
  refine j_aload_n C 0 d_P_hasSoMany_2 rfl rfl rfl ?_
  refine j_get C in_P 0 rfl rfl 1 (by decide) tw_144 rfl (v := .int (g_ec σ)) rfl d_P_hasSoMany_3 rfl ?_
  obtain ⟨r1, h2, h⟩ := mb1_some h
  refine j_callS C hR (As := [.int a1, .int (0 : Int32), .int (g_ec σ)]) (ct_P_isWithin (jl x) (jD x) (jT x) a1 (0 : Int32) (g_ec σ) h2) kf_P_isWithin (by decide) tw_258 tw_259 (rest := []) rfl rfl (Nat.le_of_ble_eq_true rfl) (by decide) ⟨rfl, rfl⟩ d_P_hasSoMany_6 rfl (st1 := [.int r1]) rfl ?_
  obtain ⟨hz, h⟩ := mzr_some h
  cases h
  exact j_zret C E hr hz d_P_hasSoMany_9
theorem ct_P_hasSoMany (l : Launch) (D : va_G) (tys : List (ClassId × FieldType)) {ad : Nat → Nat} {cA : ClassId} {wr : va_W} (hT : tys[0]? = some (cA, .int)) (a1 : Int32) (σ : SP) {r : Int32} (h : m_P_hasSoMany a1 σ = some r) : jM l y_P_hasSoMany ws_P_hasSoMany rm_P_hasSoMany D tys [.ref (ad 0), .int a1] ((wP ad cA σ) ++ wr) (some (.int r)) ((wP ad cA σ) ++ wr) :=
  j_of (by decide +kernel) rfl (Nat.le_of_ble_eq_true rfl) rfl (fun x _ _ hT' hR C hr _ E => w_P_hasSoMany C (by rw [hT']; exact hT) hR a1 σ hr E h)
def rm_P_count : Room := { frames := 6, cells := 0, slots := 0, locals := 133 }
def m_P_count (a1 : Int32) (σ : SP) : Option (Int32 × SP) :=
  (mb1 (m_P_replay (g_ec σ) σ) fun σ1 => (if a1 = 0 then some ((g_ec σ1), σ1) else (if a1 = 1 then some ((g_rc σ1), σ1) else (if a1 = 2 then (mb1 (m_H_unitsAt (-1 : Int32) (-1 : Int32) σ1) fun r3 => some (r3, σ1)) else (if a1 = 3 then (mb1 (m_H_toldOrders σ1) fun r5 => some (r5, σ1)) else (if a1 = 4 then (mb1 (m_H_fullOrders σ1) fun r7 => some (r7, σ1)) else (if a1 = 5 then (mb1 (m_H_linkedPairs σ1) fun r9 => some (r9, σ1)) else some ((-1 : Int32), σ1))))))))
set_option maxHeartbeats 4000000 in
set_option maxRecDepth 100000 in
theorem w_P_count {x : JX} {ad : Nat → Nat} {cA : ClassId} {wr : va_W} (C : jC x cc_P_count 2 "PlainWarehouse") (hT : (jT x)[0]? = some (cA, .int)) (hR : jR x = rm_P_count)  (a1 : Int32) (σ : SP) {r : Int32} {σ' : SP} (hr : (jt x).sig.returnType = some .int) (E : jE x 0 0 (some (.int r)) ((wP ad cA σ') ++ wr)) (h : m_P_count a1 σ = some (r, σ')) : jW x 2 0 0 0 [(0, .ref (ad 0)), (1, .int a1)] [] ((wP ad cA σ) ++ wr) := by
  unfold m_P_count at h
  refine j_aload_n C 0 d_P_count_0 rfl rfl rfl ?_
  refine j_aload_n C 0 d_P_count_1 rfl rfl rfl ?_
  refine j_get C in_P 0 rfl rfl 1 (by decide) tw_144 rfl (v := .int (g_ec σ)) rfl d_P_count_2 rfl ?_
  obtain ⟨σ1, h2, h⟩ := mb1_some h
  refine j_callV C hR (As := [.int (g_ec σ)]) (ct_P_replay (jl x) (jD x) (jT x) hT (g_ec σ) σ h2) kf_P_replay (by decide) tw_166 tw_168 tw_0 0 rfl rfl (rest := []) rfl rfl (Nat.le_of_ble_eq_true rfl) (by decide) ⟨rfl, rfl⟩ d_P_count_5 rfl (st1 := []) rfl ?_
  refine j_iload_n C 1 d_P_count_8 rfl rfl rfl ?_
  refine j_tsw (k := 0) (tgt := 48) C d_P_count_9 (by decide) (by decide) rfl (by decide) h (fun h => ?_) (fun n0 h => ?_)
  · refine j_aload_n C 0 d_P_count_48 rfl rfl rfl ?_
    refine j_get C in_P 0 rfl rfl 1 (by decide) tw_144 rfl (v := .int (g_ec σ1)) rfl d_P_count_49 rfl ?_
    cases h
    exact j_iret C E hr d_P_count_52
  refine j_tsw (k := 1) (tgt := 53) C d_P_count_9 (by decide) (by decide) rfl (by decide) h (fun h => ?_) (fun n1 h => ?_)
  · refine j_aload_n C 0 d_P_count_53 rfl rfl rfl ?_
    refine j_get C in_P 0 rfl rfl 2 (by decide) tw_145 rfl (v := .int (g_rc σ1)) rfl d_P_count_54 rfl ?_
    cases h
    exact j_iret C E hr d_P_count_57
  refine j_tsw (k := 2) (tgt := 58) C d_P_count_9 (by decide) (by decide) rfl (by decide) h (fun h => ?_) (fun n2 h => ?_)
  · refine j_aload_n C 0 d_P_count_58 rfl rfl rfl ?_
    refine j_get C in_P 0 rfl rfl 3 (by decide) tw_146 rfl (v := .ref (ad 2)) rfl d_P_count_59 rfl ?_
    refine j_iconst (v := (-1)) C d_P_count_62 rfl (by decide) ?_
    refine j_iconst (v := (-1)) C d_P_count_63 rfl (by decide) ?_
    obtain ⟨r3, h4, h⟩ := mb1_some h
    refine j_callVN C hR (As := [.int (-1 : Int32), .int (-1 : Int32)]) (ct_H_unitsAt (jl x) (jD x) (jT x) hT (-1 : Int32) (-1 : Int32) σ1 h4) kf_H_unitsAt (by decide) tw_220 tw_222 tw_12 2 rfl rfl (rest := []) rfl rfl (Nat.le_of_ble_eq_true rfl) (by decide) ⟨rfl, rfl⟩ d_P_count_64 rfl (st1 := [.int r3]) rfl ?_
    cases h
    exact j_iret C E hr d_P_count_67
  refine j_tsw (k := 3) (tgt := 68) C d_P_count_9 (by decide) (by decide) rfl (by decide) h (fun h => ?_) (fun n3 h => ?_)
  · refine j_aload_n C 0 d_P_count_68 rfl rfl rfl ?_
    refine j_get C in_P 0 rfl rfl 3 (by decide) tw_146 rfl (v := .ref (ad 2)) rfl d_P_count_69 rfl ?_
    obtain ⟨r5, h6, h⟩ := mb1_some h
    refine j_callVN C hR (As := []) (ct_H_toldOrders (jl x) (jD x) (jT x) hT  σ1 h6) kf_H_toldOrders (by decide) tw_227 tw_229 tw_13 2 rfl rfl (rest := []) rfl rfl (Nat.le_of_ble_eq_true rfl) (by decide) ⟨rfl, rfl⟩ d_P_count_72 rfl (st1 := [.int r5]) rfl ?_
    cases h
    exact j_iret C E hr d_P_count_75
  refine j_tsw (k := 4) (tgt := 76) C d_P_count_9 (by decide) (by decide) rfl (by decide) h (fun h => ?_) (fun n4 h => ?_)
  · refine j_aload_n C 0 d_P_count_76 rfl rfl rfl ?_
    refine j_get C in_P 0 rfl rfl 3 (by decide) tw_146 rfl (v := .ref (ad 2)) rfl d_P_count_77 rfl ?_
    obtain ⟨r7, h8, h⟩ := mb1_some h
    refine j_callVN C hR (As := []) (ct_H_fullOrders (jl x) (jD x) (jT x) hT  σ1 h8) kf_H_fullOrders (by decide) tw_231 tw_233 tw_14 2 rfl rfl (rest := []) rfl rfl (Nat.le_of_ble_eq_true rfl) (by decide) ⟨rfl, rfl⟩ d_P_count_80 rfl (st1 := [.int r7]) rfl ?_
    cases h
    exact j_iret C E hr d_P_count_83
  refine j_tsw (k := 5) (tgt := 84) C d_P_count_9 (by decide) (by decide) rfl (by decide) h (fun h => ?_) (fun n5 h => ?_)
  · refine j_aload_n C 0 d_P_count_84 rfl rfl rfl ?_
    refine j_get C in_P 0 rfl rfl 3 (by decide) tw_146 rfl (v := .ref (ad 2)) rfl d_P_count_85 rfl ?_
    obtain ⟨r9, h10, h⟩ := mb1_some h
    refine j_callVN C hR (As := []) (ct_H_linkedPairs (jl x) (jD x) (jT x) hT  σ1 h10) kf_H_linkedPairs (by decide) tw_239 tw_241 tw_16 2 rfl rfl (rest := []) rfl rfl (Nat.le_of_ble_eq_true rfl) (by decide) ⟨rfl, rfl⟩ d_P_count_88 rfl (st1 := [.int r9]) rfl ?_
    cases h
    exact j_iret C E hr d_P_count_91
  refine j_tswD (tgt := 92) C d_P_count_9 (by have q0 := tiNe (z := 0) (by decide) n0; have q1 := tiNe (z := 1) (by decide) n1; have q2 := tiNe (z := 2) (by decide) n2; have q3 := tiNe (z := 3) (by decide) n3; have q4 := tiNe (z := 4) (by decide) n4; have q5 := tiNe (z := 5) (by decide) n5; omega) (by decide) ?_
  refine j_iconst (v := (-1)) C d_P_count_92 rfl (by decide) ?_
  cases h
  exact j_iret C E hr d_P_count_93
theorem ct_P_count (l : Launch) (D : va_G) (tys : List (ClassId × FieldType)) {ad : Nat → Nat} {cA : ClassId} {wr : va_W} (hT : tys[0]? = some (cA, .int)) (a1 : Int32) (σ : SP) {r : Int32} {σ' : SP} (h : m_P_count a1 σ = some (r, σ')) : jM l y_P_count ws_P_count rm_P_count D tys [.ref (ad 0), .int a1] ((wP ad cA σ) ++ wr) (some (.int r)) ((wP ad cA σ') ++ wr) :=
  j_of (by decide +kernel) rfl (Nat.le_of_ble_eq_true rfl) rfl (fun x _ _ hT' hR C hr _ E => w_P_count C (by rw [hT']; exact hT) hR a1 σ hr E h)
end
