section
-- ===== PART A: goes FIRST, ahead of the names: the tables' words, and 'selects' of the private methods out of them =====
/-- a private method of a class that the tables say can be made, by its rows of tables_1 -/
def lw_okq (q : MethodName × Nat) : Prop := (q.1.cls ≠ "java/lang/invoke/MethodHandle" ∧ q.1.cls ≠ "java/lang/invoke/VarHandle") ∧ Cond.instantiable q.1.cls q.2 ∈ tables_1 ∧ Cond.privateMethod q.1 ∈ tables_1 ∧ Cond.instanceMethod q.1 ∈ tables_1
theorem lw_p0 : lw_okq (⟨"PlainWarehouse", "replay", "(I)V"⟩, 6) := ⟨⟨by decide +kernel, by decide +kernel⟩, List.mem_of_getElem? (i := 18) (by decide +kernel), List.mem_of_getElem? (i := 121) (by decide +kernel), List.mem_of_getElem? (i := 122) (by decide +kernel)⟩
theorem lw_p1 : lw_okq (⟨"PlainWarehouse$House", "empty", "()V"⟩, 8) := ⟨⟨by decide +kernel, by decide +kernel⟩, List.mem_of_getElem? (i := 26) (by decide +kernel), List.mem_of_getElem? (i := 125) (by decide +kernel), List.mem_of_getElem? (i := 126) (by decide +kernel)⟩
theorem lw_p2 : lw_okq (⟨"PlainWarehouse", "takeKept", "(I)Z"⟩, 6) := ⟨⟨by decide +kernel, by decide +kernel⟩, List.mem_of_getElem? (i := 18) (by decide +kernel), List.mem_of_getElem? (i := 132) (by decide +kernel), List.mem_of_getElem? (i := 133) (by decide +kernel)⟩
theorem lw_p3 : lw_okq (⟨"PlainWarehouse$House", "take", "(IIII)Z"⟩, 8) := ⟨⟨by decide +kernel, by decide +kernel⟩, List.mem_of_getElem? (i := 26) (by decide +kernel), List.mem_of_getElem? (i := 136) (by decide +kernel), List.mem_of_getElem? (i := 137) (by decide +kernel)⟩
theorem lw_p4 : lw_okq (⟨"PlainWarehouse$House", "isPossible", "(III)Z"⟩, 8) := ⟨⟨by decide +kernel, by decide +kernel⟩, List.mem_of_getElem? (i := 26) (by decide +kernel), List.mem_of_getElem? (i := 140) (by decide +kernel), List.mem_of_getElem? (i := 141) (by decide +kernel)⟩
theorem lw_p5 : lw_okq (⟨"PlainWarehouse$House", "isInside", "(I)Z"⟩, 8) := ⟨⟨by decide +kernel, by decide +kernel⟩, List.mem_of_getElem? (i := 26) (by decide +kernel), List.mem_of_getElem? (i := 144) (by decide +kernel), List.mem_of_getElem? (i := 145) (by decide +kernel)⟩
theorem lw_p6 : lw_okq (⟨"PlainWarehouse$House", "isOpen", "(I)Z"⟩, 8) := ⟨⟨by decide +kernel, by decide +kernel⟩, List.mem_of_getElem? (i := 26) (by decide +kernel), List.mem_of_getElem? (i := 148) (by decide +kernel), List.mem_of_getElem? (i := 149) (by decide +kernel)⟩
theorem lw_p7 : lw_okq (⟨"PlainWarehouse$House", "isTold", "(I)Z"⟩, 8) := ⟨⟨by decide +kernel, by decide +kernel⟩, List.mem_of_getElem? (i := 26) (by decide +kernel), List.mem_of_getElem? (i := 152) (by decide +kernel), List.mem_of_getElem? (i := 153) (by decide +kernel)⟩
theorem lw_p8 : lw_okq (⟨"PlainWarehouse$House", "isFree", "(I)Z"⟩, 8) := ⟨⟨by decide +kernel, by decide +kernel⟩, List.mem_of_getElem? (i := 26) (by decide +kernel), List.mem_of_getElem? (i := 156) (by decide +kernel), List.mem_of_getElem? (i := 157) (by decide +kernel)⟩
theorem lw_p9 : lw_okq (⟨"PlainWarehouse$House", "happen", "(IIII)V"⟩, 8) := ⟨⟨by decide +kernel, by decide +kernel⟩, List.mem_of_getElem? (i := 26) (by decide +kernel), List.mem_of_getElem? (i := 160) (by decide +kernel), List.mem_of_getElem? (i := 161) (by decide +kernel)⟩
theorem lw_p10 : lw_okq (⟨"PlainWarehouse$House", "come", "(III)V"⟩, 8) := ⟨⟨by decide +kernel, by decide +kernel⟩, List.mem_of_getElem? (i := 26) (by decide +kernel), List.mem_of_getElem? (i := 164) (by decide +kernel), List.mem_of_getElem? (i := 165) (by decide +kernel)⟩
theorem lw_p11 : lw_okq (⟨"PlainWarehouse$House", "leave", "(I)V"⟩, 8) := ⟨⟨by decide +kernel, by decide +kernel⟩, List.mem_of_getElem? (i := 26) (by decide +kernel), List.mem_of_getElem? (i := 168) (by decide +kernel), List.mem_of_getElem? (i := 169) (by decide +kernel)⟩
theorem lw_p12 : lw_okq (⟨"PlainWarehouse$House", "unitsAt", "(II)I"⟩, 8) := ⟨⟨by decide +kernel, by decide +kernel⟩, List.mem_of_getElem? (i := 26) (by decide +kernel), List.mem_of_getElem? (i := 175) (by decide +kernel), List.mem_of_getElem? (i := 176) (by decide +kernel)⟩
theorem lw_p13 : lw_okq (⟨"PlainWarehouse$House", "toldOrders", "()I"⟩, 8) := ⟨⟨by decide +kernel, by decide +kernel⟩, List.mem_of_getElem? (i := 26) (by decide +kernel), List.mem_of_getElem? (i := 182) (by decide +kernel), List.mem_of_getElem? (i := 183) (by decide +kernel)⟩
theorem lw_p14 : lw_okq (⟨"PlainWarehouse$House", "fullOrders", "()I"⟩, 8) := ⟨⟨by decide +kernel, by decide +kernel⟩, List.mem_of_getElem? (i := 26) (by decide +kernel), List.mem_of_getElem? (i := 186) (by decide +kernel), List.mem_of_getElem? (i := 187) (by decide +kernel)⟩
theorem lw_p15 : lw_okq (⟨"PlainWarehouse$House", "isFull", "(I)Z"⟩, 8) := ⟨⟨by decide +kernel, by decide +kernel⟩, List.mem_of_getElem? (i := 26) (by decide +kernel), List.mem_of_getElem? (i := 190) (by decide +kernel), List.mem_of_getElem? (i := 191) (by decide +kernel)⟩
def lw_privs_1 : List (MethodName × Nat) := [(⟨"PlainWarehouse", "replay", "(I)V"⟩, 6), (⟨"PlainWarehouse$House", "empty", "()V"⟩, 8), (⟨"PlainWarehouse", "takeKept", "(I)Z"⟩, 6), (⟨"PlainWarehouse$House", "take", "(IIII)Z"⟩, 8), (⟨"PlainWarehouse$House", "isPossible", "(III)Z"⟩, 8), (⟨"PlainWarehouse$House", "isInside", "(I)Z"⟩, 8), (⟨"PlainWarehouse$House", "isOpen", "(I)Z"⟩, 8), (⟨"PlainWarehouse$House", "isTold", "(I)Z"⟩, 8), (⟨"PlainWarehouse$House", "isFree", "(I)Z"⟩, 8), (⟨"PlainWarehouse$House", "happen", "(IIII)V"⟩, 8), (⟨"PlainWarehouse$House", "come", "(III)V"⟩, 8), (⟨"PlainWarehouse$House", "leave", "(I)V"⟩, 8), (⟨"PlainWarehouse$House", "unitsAt", "(II)I"⟩, 8), (⟨"PlainWarehouse$House", "toldOrders", "()I"⟩, 8), (⟨"PlainWarehouse$House", "fullOrders", "()I"⟩, 8), (⟨"PlainWarehouse$House", "isFull", "(I)Z"⟩, 8)]
theorem lw_r1 : ∀ q ∈ lw_privs_1, lw_okq q := List.forall_mem_cons.mpr ⟨lw_p0, List.forall_mem_cons.mpr ⟨lw_p1, List.forall_mem_cons.mpr ⟨lw_p2, List.forall_mem_cons.mpr ⟨lw_p3, List.forall_mem_cons.mpr ⟨lw_p4, List.forall_mem_cons.mpr ⟨lw_p5, List.forall_mem_cons.mpr ⟨lw_p6, List.forall_mem_cons.mpr ⟨lw_p7, List.forall_mem_cons.mpr ⟨lw_p8, List.forall_mem_cons.mpr ⟨lw_p9, List.forall_mem_cons.mpr ⟨lw_p10, List.forall_mem_cons.mpr ⟨lw_p11, List.forall_mem_cons.mpr ⟨lw_p12, List.forall_mem_cons.mpr ⟨lw_p13, List.forall_mem_cons.mpr ⟨lw_p14, List.forall_mem_cons.mpr ⟨lw_p15, fun _ h => absurd h List.not_mem_nil⟩⟩⟩⟩⟩⟩⟩⟩⟩⟩⟩⟩⟩⟩⟩⟩
theorem lw_p16 : lw_okq (⟨"PlainWarehouse$House", "linkedPairs", "()I"⟩, 8) := ⟨⟨by decide +kernel, by decide +kernel⟩, List.mem_of_getElem? (i := 26) (by decide +kernel), List.mem_of_getElem? (i := 194) (by decide +kernel), List.mem_of_getElem? (i := 195) (by decide +kernel)⟩
theorem lw_p17 : lw_okq (⟨"java/lang/Throwable", "fillInStackTrace", "(I)Ljava/lang/Throwable;"⟩, 6) := ⟨⟨by decide +kernel, by decide +kernel⟩, List.mem_of_getElem? (i := 267) (by decide +kernel), List.mem_of_getElem? (i := 265) (by decide +kernel), List.mem_of_getElem? (i := 266) (by decide +kernel)⟩
theorem lw_p18 : lw_okq (⟨"PlainWarehouse", "keep", "(IIII)V"⟩, 6) := ⟨⟨by decide +kernel, by decide +kernel⟩, List.mem_of_getElem? (i := 18) (by decide +kernel), List.mem_of_getElem? (i := 313) (by decide +kernel), List.mem_of_getElem? (i := 314) (by decide +kernel)⟩
theorem lw_p19 : lw_okq (⟨"PlainWarehouse", "hasSoMany", "(I)Z"⟩, 6) := ⟨⟨by decide +kernel, by decide +kernel⟩, List.mem_of_getElem? (i := 18) (by decide +kernel), List.mem_of_getElem? (i := 334) (by decide +kernel), List.mem_of_getElem? (i := 335) (by decide +kernel)⟩
theorem lw_p20 : lw_okq (⟨"PlainWarehouse$House", "freeUnits", "(I)I"⟩, 8) := ⟨⟨by decide +kernel, by decide +kernel⟩, List.mem_of_getElem? (i := 26) (by decide +kernel), List.mem_of_getElem? (i := 365) (by decide +kernel), List.mem_of_getElem? (i := 366) (by decide +kernel)⟩
theorem lw_p21 : lw_okq (⟨"PlainWarehouse", "areAllTold", "(I)Z"⟩, 6) := ⟨⟨by decide +kernel, by decide +kernel⟩, List.mem_of_getElem? (i := 18) (by decide +kernel), List.mem_of_getElem? (i := 377) (by decide +kernel), List.mem_of_getElem? (i := 378) (by decide +kernel)⟩
theorem lw_p22 : lw_okq (⟨"PlainWarehouse$Fillings", "most", "(LPlainWarehouse$House;I)I"⟩, 5) := ⟨⟨by decide +kernel, by decide +kernel⟩, List.mem_of_getElem? (i := 66) (by decide +kernel), List.mem_of_getElem? (i := 391) (by decide +kernel), List.mem_of_getElem? (i := 392) (by decide +kernel)⟩
theorem lw_p23 : lw_okq (⟨"PlainWarehouse$Fillings", "countFree", "(LPlainWarehouse$House;)V"⟩, 5) := ⟨⟨by decide +kernel, by decide +kernel⟩, List.mem_of_getElem? (i := 66) (by decide +kernel), List.mem_of_getElem? (i := 395) (by decide +kernel), List.mem_of_getElem? (i := 396) (by decide +kernel)⟩
theorem lw_p24 : lw_okq (⟨"PlainWarehouse$Fillings", "chooseOpen", "(LPlainWarehouse$House;I)V"⟩, 5) := ⟨⟨by decide +kernel, by decide +kernel⟩, List.mem_of_getElem? (i := 66) (by decide +kernel), List.mem_of_getElem? (i := 400) (by decide +kernel), List.mem_of_getElem? (i := 401) (by decide +kernel)⟩
theorem lw_p25 : lw_okq (⟨"PlainWarehouse$Fillings", "isEnoughFor", "(I)Z"⟩, 5) := ⟨⟨by decide +kernel, by decide +kernel⟩, List.mem_of_getElem? (i := 66) (by decide +kernel), List.mem_of_getElem? (i := 407) (by decide +kernel), List.mem_of_getElem? (i := 408) (by decide +kernel)⟩
theorem lw_p26 : lw_okq (⟨"PlainWarehouse$Ways", "measure", "(LPlainWarehouse$House;)V"⟩, 1) := ⟨⟨by decide +kernel, by decide +kernel⟩, List.mem_of_getElem? (i := 88) (by decide +kernel), List.mem_of_getElem? (i := 421) (by decide +kernel), List.mem_of_getElem? (i := 422) (by decide +kernel)⟩
theorem lw_p27 : lw_okq (⟨"PlainWarehouse$Ways", "layLinks", "(LPlainWarehouse$House;)V"⟩, 1) := ⟨⟨by decide +kernel, by decide +kernel⟩, List.mem_of_getElem? (i := 88) (by decide +kernel), List.mem_of_getElem? (i := 425) (by decide +kernel), List.mem_of_getElem? (i := 426) (by decide +kernel)⟩
theorem lw_p28 : lw_okq (⟨"PlainWarehouse$Ways", "shortenVia", "(II)V"⟩, 1) := ⟨⟨by decide +kernel, by decide +kernel⟩, List.mem_of_getElem? (i := 88) (by decide +kernel), List.mem_of_getElem? (i := 431) (by decide +kernel), List.mem_of_getElem? (i := 432) (by decide +kernel)⟩
theorem lw_p29 : lw_okq (⟨"PlainWarehouse$Ways", "between", "(II)I"⟩, 1) := ⟨⟨by decide +kernel, by decide +kernel⟩, List.mem_of_getElem? (i := 88) (by decide +kernel), List.mem_of_getElem? (i := 438) (by decide +kernel), List.mem_of_getElem? (i := 439) (by decide +kernel)⟩
theorem lw_p30 : lw_okq (⟨"PlainWarehouse$House", "placesOfUnitsGivenTo", "(I)I"⟩, 8) := ⟨⟨by decide +kernel, by decide +kernel⟩, List.mem_of_getElem? (i := 26) (by decide +kernel), List.mem_of_getElem? (i := 453) (by decide +kernel), List.mem_of_getElem? (i := 454) (by decide +kernel)⟩
theorem lw_p31 : lw_okq (⟨"PlainWarehouse$Ways", "fewestThrough", "(II)I"⟩, 1) := ⟨⟨by decide +kernel, by decide +kernel⟩, List.mem_of_getElem? (i := 88) (by decide +kernel), List.mem_of_getElem? (i := 457) (by decide +kernel), List.mem_of_getElem? (i := 458) (by decide +kernel)⟩
def lw_privs_2 : List (MethodName × Nat) := [(⟨"PlainWarehouse$House", "linkedPairs", "()I"⟩, 8), (⟨"java/lang/Throwable", "fillInStackTrace", "(I)Ljava/lang/Throwable;"⟩, 6), (⟨"PlainWarehouse", "keep", "(IIII)V"⟩, 6), (⟨"PlainWarehouse", "hasSoMany", "(I)Z"⟩, 6), (⟨"PlainWarehouse$House", "freeUnits", "(I)I"⟩, 8), (⟨"PlainWarehouse", "areAllTold", "(I)Z"⟩, 6), (⟨"PlainWarehouse$Fillings", "most", "(LPlainWarehouse$House;I)I"⟩, 5), (⟨"PlainWarehouse$Fillings", "countFree", "(LPlainWarehouse$House;)V"⟩, 5), (⟨"PlainWarehouse$Fillings", "chooseOpen", "(LPlainWarehouse$House;I)V"⟩, 5), (⟨"PlainWarehouse$Fillings", "isEnoughFor", "(I)Z"⟩, 5), (⟨"PlainWarehouse$Ways", "measure", "(LPlainWarehouse$House;)V"⟩, 1), (⟨"PlainWarehouse$Ways", "layLinks", "(LPlainWarehouse$House;)V"⟩, 1), (⟨"PlainWarehouse$Ways", "shortenVia", "(II)V"⟩, 1), (⟨"PlainWarehouse$Ways", "between", "(II)I"⟩, 1), (⟨"PlainWarehouse$House", "placesOfUnitsGivenTo", "(I)I"⟩, 8), (⟨"PlainWarehouse$Ways", "fewestThrough", "(II)I"⟩, 1)]
theorem lw_r2 : ∀ q ∈ lw_privs_2, lw_okq q := List.forall_mem_cons.mpr ⟨lw_p16, List.forall_mem_cons.mpr ⟨lw_p17, List.forall_mem_cons.mpr ⟨lw_p18, List.forall_mem_cons.mpr ⟨lw_p19, List.forall_mem_cons.mpr ⟨lw_p20, List.forall_mem_cons.mpr ⟨lw_p21, List.forall_mem_cons.mpr ⟨lw_p22, List.forall_mem_cons.mpr ⟨lw_p23, List.forall_mem_cons.mpr ⟨lw_p24, List.forall_mem_cons.mpr ⟨lw_p25, List.forall_mem_cons.mpr ⟨lw_p26, List.forall_mem_cons.mpr ⟨lw_p27, List.forall_mem_cons.mpr ⟨lw_p28, List.forall_mem_cons.mpr ⟨lw_p29, List.forall_mem_cons.mpr ⟨lw_p30, List.forall_mem_cons.mpr ⟨lw_p31, fun _ h => absurd h List.not_mem_nil⟩⟩⟩⟩⟩⟩⟩⟩⟩⟩⟩⟩⟩⟩⟩⟩
theorem lw_p32 : lw_okq (⟨"PlainWarehouse", "isEvent", "(I)Z"⟩, 6) := ⟨⟨by decide +kernel, by decide +kernel⟩, List.mem_of_getElem? (i := 18) (by decide +kernel), List.mem_of_getElem? (i := 480) (by decide +kernel), List.mem_of_getElem? (i := 481) (by decide +kernel)⟩
theorem lw_p33 : lw_okq (⟨"PlainWarehouseModel", "can", "(IIII)Z"⟩, 18) := ⟨⟨by decide +kernel, by decide +kernel⟩, List.mem_of_getElem? (i := 524) (by decide +kernel), List.mem_of_getElem? (i := 605) (by decide +kernel), List.mem_of_getElem? (i := 606) (by decide +kernel)⟩
theorem lw_p34 : lw_okq (⟨"PlainWarehouseModel", "mayGo", "(II)Z"⟩, 18) := ⟨⟨by decide +kernel, by decide +kernel⟩, List.mem_of_getElem? (i := 524) (by decide +kernel), List.mem_of_getElem? (i := 609) (by decide +kernel), List.mem_of_getElem? (i := 610) (by decide +kernel)⟩
theorem lw_p35 : lw_okq (⟨"PlainWarehouseModel", "isOpen", "(II)Z"⟩, 18) := ⟨⟨by decide +kernel, by decide +kernel⟩, List.mem_of_getElem? (i := 524) (by decide +kernel), List.mem_of_getElem? (i := 613) (by decide +kernel), List.mem_of_getElem? (i := 614) (by decide +kernel)⟩
theorem lw_p36 : lw_okq (⟨"PlainWarehouseModel", "mayGive", "(III)Z"⟩, 18) := ⟨⟨by decide +kernel, by decide +kernel⟩, List.mem_of_getElem? (i := 524) (by decide +kernel), List.mem_of_getElem? (i := 617) (by decide +kernel), List.mem_of_getElem? (i := 618) (by decide +kernel)⟩
theorem lw_p37 : lw_okq (⟨"PlainWarehouseModel", "copy", "(II)V"⟩, 18) := ⟨⟨by decide +kernel, by decide +kernel⟩, List.mem_of_getElem? (i := 524) (by decide +kernel), List.mem_of_getElem? (i := 621) (by decide +kernel), List.mem_of_getElem? (i := 622) (by decide +kernel)⟩
theorem lw_p38 : lw_okq (⟨"PlainWarehouseModel", "apply", "(IIIII)V"⟩, 18) := ⟨⟨by decide +kernel, by decide +kernel⟩, List.mem_of_getElem? (i := 524) (by decide +kernel), List.mem_of_getElem? (i := 625) (by decide +kernel), List.mem_of_getElem? (i := 626) (by decide +kernel)⟩
theorem lw_p39 : lw_okq (⟨"PlainWarehouseModel", "isOrder", "(I)Z"⟩, 18) := ⟨⟨by decide +kernel, by decide +kernel⟩, List.mem_of_getElem? (i := 524) (by decide +kernel), List.mem_of_getElem? (i := 649) (by decide +kernel), List.mem_of_getElem? (i := 650) (by decide +kernel)⟩
theorem lw_p40 : lw_okq (⟨"PlainWarehouseModel", "freeOf", "(I)I"⟩, 18) := ⟨⟨by decide +kernel, by decide +kernel⟩, List.mem_of_getElem? (i := 524) (by decide +kernel), List.mem_of_getElem? (i := 653) (by decide +kernel), List.mem_of_getElem? (i := 654) (by decide +kernel)⟩
theorem lw_p41 : lw_okq (⟨"PlainWarehouseModel", "filled", "(II)I"⟩, 18) := ⟨⟨by decide +kernel, by decide +kernel⟩, List.mem_of_getElem? (i := 524) (by decide +kernel), List.mem_of_getElem? (i := 661) (by decide +kernel), List.mem_of_getElem? (i := 662) (by decide +kernel)⟩
theorem lw_p42 : lw_okq (⟨"PlainWarehouseModel", "reach", "()V"⟩, 18) := ⟨⟨by decide +kernel, by decide +kernel⟩, List.mem_of_getElem? (i := 524) (by decide +kernel), List.mem_of_getElem? (i := 669) (by decide +kernel), List.mem_of_getElem? (i := 670) (by decide +kernel)⟩
theorem lw_p43 : lw_okq (⟨"PlainWarehouseModel", "places", "(I)I"⟩, 18) := ⟨⟨by decide +kernel, by decide +kernel⟩, List.mem_of_getElem? (i := 524) (by decide +kernel), List.mem_of_getElem? (i := 678) (by decide +kernel), List.mem_of_getElem? (i := 679) (by decide +kernel)⟩
theorem lw_p44 : lw_okq (⟨"PlainWarehouseModel", "isEvent", "(I)Z"⟩, 18) := ⟨⟨by decide +kernel, by decide +kernel⟩, List.mem_of_getElem? (i := 524) (by decide +kernel), List.mem_of_getElem? (i := 686) (by decide +kernel), List.mem_of_getElem? (i := 687) (by decide +kernel)⟩
theorem lw_p45 : lw_okq (⟨"PlainWarehouseModel", "without", "(IZ)I"⟩, 18) := ⟨⟨by decide +kernel, by decide +kernel⟩, List.mem_of_getElem? (i := 524) (by decide +kernel), List.mem_of_getElem? (i := 690) (by decide +kernel), List.mem_of_getElem? (i := 691) (by decide +kernel)⟩
def lw_privs_3 : List (MethodName × Nat) := [(⟨"PlainWarehouse", "isEvent", "(I)Z"⟩, 6), (⟨"PlainWarehouseModel", "can", "(IIII)Z"⟩, 18), (⟨"PlainWarehouseModel", "mayGo", "(II)Z"⟩, 18), (⟨"PlainWarehouseModel", "isOpen", "(II)Z"⟩, 18), (⟨"PlainWarehouseModel", "mayGive", "(III)Z"⟩, 18), (⟨"PlainWarehouseModel", "copy", "(II)V"⟩, 18), (⟨"PlainWarehouseModel", "apply", "(IIIII)V"⟩, 18), (⟨"PlainWarehouseModel", "isOrder", "(I)Z"⟩, 18), (⟨"PlainWarehouseModel", "freeOf", "(I)I"⟩, 18), (⟨"PlainWarehouseModel", "filled", "(II)I"⟩, 18), (⟨"PlainWarehouseModel", "reach", "()V"⟩, 18), (⟨"PlainWarehouseModel", "places", "(I)I"⟩, 18), (⟨"PlainWarehouseModel", "isEvent", "(I)Z"⟩, 18), (⟨"PlainWarehouseModel", "without", "(IZ)I"⟩, 18)]
theorem lw_r3 : ∀ q ∈ lw_privs_3, lw_okq q := List.forall_mem_cons.mpr ⟨lw_p32, List.forall_mem_cons.mpr ⟨lw_p33, List.forall_mem_cons.mpr ⟨lw_p34, List.forall_mem_cons.mpr ⟨lw_p35, List.forall_mem_cons.mpr ⟨lw_p36, List.forall_mem_cons.mpr ⟨lw_p37, List.forall_mem_cons.mpr ⟨lw_p38, List.forall_mem_cons.mpr ⟨lw_p39, List.forall_mem_cons.mpr ⟨lw_p40, List.forall_mem_cons.mpr ⟨lw_p41, List.forall_mem_cons.mpr ⟨lw_p42, List.forall_mem_cons.mpr ⟨lw_p43, List.forall_mem_cons.mpr ⟨lw_p44, List.forall_mem_cons.mpr ⟨lw_p45, fun _ h => absurd h List.not_mem_nil⟩⟩⟩⟩⟩⟩⟩⟩⟩⟩⟩⟩⟩⟩
def lw_privs : List (MethodName × Nat) := lw_privs_1 ++ (lw_privs_2 ++ (lw_privs_3))
def lw_tbl : List Cond := k2_sels lw_privs ++ tables_1
theorem lw_privs_ok : ∀ q ∈ lw_privs, lw_okq q := by
  show ∀ q ∈ lw_privs_1 ++ (lw_privs_2 ++ (lw_privs_3)), lw_okq q
  exact List.forall_mem_append.mpr ⟨lw_r1, List.forall_mem_append.mpr ⟨lw_r2, lw_r3⟩⟩
end
section
/-! ===== BEGIN words of one list among another's, by their places ===== -/
theorem goodIn_r {big : List Cond} (ws : List Cond) (ps : List Nat) (hp : ws = ps.filterMap (fun i => big[i]?)) (h : ws.all goodWord = true) : GoodIn big ws := by
  intro w hw
  have h1 := List.all_eq_true.mp h w hw
  rw [hp] at hw
  obtain ⟨i, -, hi⟩ := List.mem_filterMap.mp hw
  have hm : w ∈ big := by first | exact List.mem_of_getElem? hi | exact List.getElem?_mem hi
  exact ⟨hm, good_of_word h1⟩
theorem goodIn_app {big a b : List Cond} (ha : GoodIn big a) (hb : GoodIn big b) : GoodIn big (a ++ b) := fun w h => (List.mem_append.mp h).elim (ha w) (hb w)
theorem goodIn_ca {big a b : List Cond} {c : Cond} (ha : GoodIn big (c :: a)) (hb : GoodIn big b) : GoodIn big (c :: (a ++ b)) := fun w h => (List.mem_cons.mp h).elim (fun e => ha w (List.mem_cons.mpr (Or.inl e))) (fun h => (List.mem_append.mp h).elim (fun h => ha w (List.mem_cons.mpr (Or.inr h))) (hb w))
theorem goodIn_sub {big ws : List Cond} (hm : ∀ w ∈ ws, w ∈ big) (h : ws.all goodWord = true) : GoodIn big ws := fun w hw => ⟨hm w hw, good_of_word (List.all_eq_true.mp h w hw)⟩
/-! ===== END ===== -/

/-! ===== BEGIN exceptions that leave a method, and their catching by the caller (launches without stack traces) ===== -/
section VXA
/-! The laws vx_back, vx_callV, vx_callS, vx_callSW, vx_throw0, vx_throwS follow proofs of the library, with one case more: JvmDerived/Free/Laws.lean (Back.of_free), Shelf42/LK1.lean (callV, callS), Shelf/KitTraced.lean (throwNew0V, throwNewS). -/
/-- where a method has thrown q: the class by its name, the cell, what was written, the world -/
def vx_T (XC : String → State → State → Prop) (st : State) (q : Addr) (t : State) (mc ms : Nat) (free : Addr → Prop) : Prop :=
  ∃ (E : String) (ce : Cell) (L : List Loc), XC E st t ∧ t.heap[q]? = some ce ∧ ce.vm = .none ∧ st.vm.findClass E = some ce.cls ∧ st.WarmedH t.vm ∧ st.sameButNew ({ t with vm := st.vm } : State) L mc ms ∧ ∀ z ∈ L, free z.base
def vx_Q (Qc : Array Value → State → Outcome → State → Prop) (XC : String → State → State → Prop) (mc ms : Nat) (free : Addr → Prop) : Array Value → State → Outcome → State → Prop := fun a st o t =>
  (Qc a st o t ∧ ∃ L, FrameEnd st o t L mc ms ∧ ∀ q ∈ L, free q.base) ∨ ∃ q, o = .threw q ∧ vx_T XC st q t mc ms free
/-- a callee that returns or throws -/
def vx_Met (l : Launch) (y : MethodName) (ws : List Cond) (rm : Room) (Pc : Array Value → State → Prop) (Qc : Array Value → State → Outcome → State → Prop) (XC : String → State → State → Prop) (mc ms : Nat) (free : Addr → Prop) : Prop :=
  MetFree l y (headSpec ws rm) Pc (fun _ _ _ _ _ => True) (vx_Q Qc XC mc ms free)
def vx_Post (XC : String → State → State → Prop) (mc ms : Nat) (free : Addr → Prop) : Pt → Array Value → Addr → Pt → Prop := fun A a q B =>
  ∃ (g : JFrame) (mk : MethodId) (t : State) (L : List Loc) (E : String) (ce : Cell), B.U.heap = t.heap ∧ B.U.vm = t.vm ∧ XC E (A.U.calling g mk a) t ∧ t.heap[q]? = some ce ∧ ce.vm = .none ∧ A.U.vm.findClass E = some ce.cls ∧ B.locs = A.locs ++ L ∧ (∀ z ∈ L, free z.base) ∧ B.cells = A.cells + mc ∧ B.slots = A.slots + ms
def vx_Back (l : Launch) (R : Room) (p : Program) (e : Env) (below : List Frame) (s : State) (sargs : Array Value) (y : MethodName) (len W9 : Nat)
    (Pre : Pt → Array Value → Prop) (Post : Pt → Array Value → Option Value → Pt → Prop) (PostX : Pt → Array Value → Addr → Pt → Prop) : Prop :=
  ∀ (m : MethodId) (meth : Method) (c : Code) (A : Pt) (g : JFrame) (ig : Instr) (mk : MethodId) (a : Array Value),
    Stand p l e R s m sargs below meth c A.U A.locs A.cells A.slots → g.method = m → g.locals.size = c.maxLocals → decode c.code g.pc = .ok (ig, len) →
    2 * g.monitorRoom + (g.stack.map fun v => v.category).sum ≤ W9 → A.U.methodNamed? y = some mk → Pre A a →
    (∃ (v : Option Value) (B : Pt), Stand p l e R s m sargs below meth c B.U B.locs B.cells B.slots ∧ Post A a v B ∧
      Steps p.tables e below (doInvoke e (A.U.setTop g) [] mk a).1 (B.U.setTop { g with pc := g.pc + len, stack := v.toList ++ g.stack })) ∨
    (∃ (q : Addr) (B : Pt), Stand p l e R s m sargs below meth c B.U B.locs B.cells B.slots ∧ PostX A a q B ∧
      Steps p.tables e below (doInvoke e (A.U.setTop g) [] mk a).1 ((B.U.setTop g).pushFrame (.throwing q)))
section Payer
variable {l : Launch} {R : Room} {p : Program} {e : Env} {below : List Frame} {s : State} {sargs : Array Value} {y : MethodName} {len W9 : Nat}
theorem vx_back {ws : List Cond} {rm : Room} {Pc : Array Value → State → Prop} {Qc : Array Value → State → Outcome → State → Prop} {XC : String → State → State → Prop} {mc ms : Nat} {free : Addr → Prop} {bytes : ByteArray} {maxL : Nat} {ret : Option FieldType}
    (hM : vx_Met l y ws rm Pc Qc XC mc ms free) (hblind : FrameBlind Pc) (hrc : rm.cells = mc) (hrs : rm.slots = ms)
    (hframes : rm.frames + 1 ≤ R.frames) (hlocals : W9 + (maxL + 11) + rm.locals ≤ R.locals)
    (hws : ∀ w ∈ ws, ∀ a' U, s.WarmedH U.vm → w.before a' U = true) (hcode : Cond.code y bytes maxL ret ∈ ws) (hinit : ∀ a' U, s.WarmedH U.vm → (Cond.initialized y.cls).before a' U = true) :
    vx_Back l R p e below s sargs y len W9 (PreOf R mc ms Pc) (PostOf Qc mc ms free) (vx_Post XC mc ms free) := by
  intro m meth c A g ig mk a X hg hsize hdg hW hn hp
  have h1 : (headSpec ws rm).pre.before a A.U = true := atoms_intro fun w hw => hws w hw _ _ X.warmed
  have h2 : (Cond.code y bytes maxL ret).before a A.U = true := hws _ hcode _ _ X.warmed
  have h3 : (Cond.initialized y.cls).before a A.U = true := hinit _ _ X.warmed
  have h4 : A.cells + (headSpec ws rm).room.cells ≤ R.cells := by rw [show (headSpec ws rm).room.cells = mc from hrc]; exact hp.1
  have h5 : A.slots + (headSpec ws rm).room.slots ≤ R.slots := by rw [show (headSpec ws rm).room.slots = ms from hrs]; exact hp.2.1
  have hPc : Pc a (A.U.calling g mk a) := hblind _ _ _ _ hp.2.2
  obtain ⟨U, Ls, c0, s0⟩ := A
  dsimp only [Pt.U, Pt.locs, Pt.cells, Pt.slots] at h1 h2 h3 h4 h5 X hn hPc ⊢
  obtain ⟨methY, cY, hmY, hcY, -, hlY, -, -, -, -⟩ := Cond.code_spec hn h2
  obtain ⟨kY, hkY, -⟩ := className_of_methodNamed hn
  have hinitY : kY.init = .initialized := Cond.initialized_spec (findClass_of_methodNamed hn) hkY h3
  have h : At U g.method c below := by rw [hg]; exact X.here
  have hlocals9 : W9 + (maxL + 11) + (headSpec ws rm).room.locals ≤ R.locals := hlocals
  have happ : (headSpec ws rm).appliesLoose y e.platform (U.calling g mk a) = true :=
    Spec.appliesLoose_calling (g := g) h hdg hn hkY hinitY
      (X.room_calling (g := g) (R' := (headSpec ws rm).room) hsize hmY hcY hframes (by rw [hlY]; omega) h4 h5) h1
  obtain ⟨mid, hmid⟩ := h.above
  have hfr : (U.setTop g).frames = (.java g :: mid) ++ below := by rw [State.frames_setTop' g h.top, hmid]; rfl
  obtain ⟨o, s₂, hsteps, -, hend, hq⟩ := Steps.callFree hM p X.admits X.cas X.clock (acts := []) hfr happ hPc trivial
  have hq' : vx_Q Qc XC mc ms free a (U.calling g mk a) o s₂ := hq
  rw [State.frames_setTop' g h.top] at hend
  obtain ⟨g₀, hg0⟩ := Option.isSome_iff_exists.mp h.top
  obtain ⟨r, hr⟩ := State.topJava?_eq_some.mp hg0
  have hr' : (({ U with heap := s₂.heap, slotsUsed := s₂.slotsUsed } : State).setVm s₂.vm).frames = .java g₀ :: r := hr
  rcases hq' with ⟨hqc, L, hfe, hL⟩ | ⟨q, rfl, E, ce, L, hx, hce, hcv, hcl, hW₂, hsm, hL⟩
  · obtain ⟨⟨v, rfl⟩, hW₂, e2, q2, q3, q4, q5, q6⟩ := id hfe
    have e3 : s₂ = ({ (U.calling g mk a).setFrames s₂.frames with heap := s₂.heap, slotsUsed := s₂.slotsUsed } : State).setVm s₂.vm := by
      have : s₂ = ({ s₂ with vm := (U.calling g mk a).vm } : State).setVm s₂.vm := rfl
      rw [e2] at this
      exact this
    obtain ⟨c₂, i₂, len₂, hc₂, hd₂, hf₂⟩ := hend
    have hW' : U.WarmedH s₂.vm := hW₂
    have hcc : c₂ = c := by
      have h1 : s₂.code? g.method = U.code? g.method := by
        rw [State.code?_eq, State.code?_eq, hW'.alike.method?]
      exact Option.some.inj (hc₂.symm.trans (h1.trans h.code))
    subst hcc
    have hlen : len₂ = len := by rw [hdg] at hd₂; cases hd₂; rfl
    subst hlen
    have hs₂ : s₂ = (({ U with heap := s₂.heap, slotsUsed := s₂.slotsUsed } : State).setVm s₂.vm).setTop { g with pc := g.pc + len₂, stack := v.toList ++ g.stack } := by
      refine e3.trans ?_
      rw [hf₂, State.calling_eq h.top, State.setFrames_setFrames, State.setTop_of_frames _ hr', hr]
      rfl
    have hsame : U.sameButNew ({ U with heap := s₂.heap, slotsUsed := s₂.slotsUsed } : State) L mc ms := by
      refine ⟨?_, q2, q3, q4, q5, q6⟩
      obtain ⟨t, ht, -⟩ := State.frames_cons hr
      show ({ U with heap := s₂.heap, slotsUsed := s₂.slotsUsed } : State) = { U.setFrames U.frames with heap := s₂.heap, slotsUsed := s₂.slotsUsed }
      rw [State.setFrames_self ht]
    subst hg
    refine Or.inl ⟨v, ⟨(({ U with heap := s₂.heap, slotsUsed := s₂.slotsUsed } : State).setVm s₂.vm), Ls ++ L, c0 + mc, s0 + ms⟩,
      ⟨X.admits, X.cas, X.clock, X.frames, X.room, X.hears, X.method, X.code, (X.here.setHeapUsed s₂.heap s₂.slotsUsed).setVm hW'.alike, X.tail, State.WarmedH.trans X.warmed hW', X.limits, X.bytes, X.same.trans (hsame.setVm s.vm)⟩,
      ⟨g, mk, s₂, L, rfl, rfl, hqc, rfl, hL, rfl, rfl⟩, ?_⟩
    show Steps p.tables e below _ ((({ U with heap := s₂.heap, slotsUsed := s₂.slotsUsed } : State).setVm s₂.vm).setTop { g with pc := g.pc + len₂, stack := v.toList ++ g.stack })
    rw [← hs₂]
    exact hsteps
  · obtain ⟨e2, q2, q3, q4, q5, q6⟩ := id hsm
    have e3 : s₂ = ({ (U.calling g mk a).setFrames s₂.frames with heap := s₂.heap, slotsUsed := s₂.slotsUsed } : State).setVm s₂.vm := by
      have : s₂ = ({ s₂ with vm := (U.calling g mk a).vm } : State).setVm s₂.vm := rfl
      rw [e2] at this
      exact this
    have hf₂ : s₂.frames = .throwing q :: .java g :: U.frames.tail := hend
    have hW' : U.WarmedH s₂.vm := hW₂
    have hs₂ : s₂ = ((({ U with heap := s₂.heap, slotsUsed := s₂.slotsUsed } : State).setVm s₂.vm).setTop g).pushFrame (.throwing q) := by
      refine e3.trans ?_
      rw [hf₂, State.calling_eq h.top, State.setFrames_setFrames, State.pushFrame, State.frames_setTop _ hr', State.setTop_of_frames _ hr', State.setFrames_setFrames, hr]
      rfl
    have hsame : U.sameButNew ({ U with heap := s₂.heap, slotsUsed := s₂.slotsUsed } : State) L mc ms := by
      refine ⟨?_, q2, q3, q4, q5, q6⟩
      obtain ⟨t, ht, -⟩ := State.frames_cons hr
      show ({ U with heap := s₂.heap, slotsUsed := s₂.slotsUsed } : State) = { U.setFrames U.frames with heap := s₂.heap, slotsUsed := s₂.slotsUsed }
      rw [State.setFrames_self ht]
    subst hg
    refine Or.inr ⟨q, ⟨(({ U with heap := s₂.heap, slotsUsed := s₂.slotsUsed } : State).setVm s₂.vm), Ls ++ L, c0 + mc, s0 + ms⟩,
      ⟨X.admits, X.cas, X.clock, X.frames, X.room, X.hears, X.method, X.code, (X.here.setHeapUsed s₂.heap s₂.slotsUsed).setVm hW'.alike, X.tail, State.WarmedH.trans X.warmed hW', X.limits, X.bytes, X.same.trans (hsame.setVm s.vm)⟩,
      ⟨g, mk, s₂, L, E, ce, rfl, rfl, hx, hce, hcv, hcl, rfl, hL, rfl, rfl⟩, ?_⟩
    show Steps p.tables e below _ (((({ U with heap := s₂.heap, slotsUsed := s₂.slotsUsed } : State).setVm s₂.vm).setTop g).pushFrame (.throwing q))
    rw [← hs₂]
    exact hsteps
end Payer
section Calls
variable {p : Program} {l : Launch} {e : Env} {R : Room} {s : State} {m : MethodId} {args : Array Value} {below : List Frame} {meth : Method} {c : Code} {T : State} {locs : List Loc} {cells slots : Nat}
theorem vx_callV (X : Stand p l e R s m args below meth c T locs cells slots) (hexec : p.tables.exec = Jvm.exec) {own C : String} {index : Nat} {y : MethodName} {bytes : ByteArray} {maxL : Nat} {ret : Option FieldType}
    (hown : s.vm.findClass own = some m.cls) (hlink : (Cond.methodLink own index y).before args s = true) (hinst : (Cond.instanceMethod y).before args s = true) (hsel : (Cond.selects C y y).before args s = true)
    (hcode : (Cond.code y bytes maxL ret).before args s = true) (hy : y.cls ≠ "java/lang/invoke/MethodHandle" ∧ y.cls ≠ "java/lang/invoke/VarHandle")
    {W9 : Nat} {Pre : Pt → Array Value → Prop} {Post : Pt → Array Value → Option Value → Pt → Prop} {PostX : Pt → Array Value → Addr → Pt → Prop} (hK : vx_Back l R p e below s args y 3 W9 Pre Post PostX)
    {b : Addr} {cellB : Cell} (hcell : T.heap[b]? = some cellB) (hobj : cellB.vm.isStatics = false) (hcls : s.vm.findClass C = some cellB.cls)
    {g : JFrame} (hg : g.method = m) (hsize : g.locals.size = c.maxLocals) {argsL rest : List Value} (hlen : ∀ sig, parseMethodDescriptor y.desc = some sig → argsL.length = sig.parameters.length)
    (hstack : g.stack = argsL.reverse ++ .ref b :: rest) (hW : 2 * g.monitorRoom + (rest.map fun v => v.category).sum ≤ W9) (hdg : decode c.code g.pc = .ok (.invokevirtual index, 3))
    (hpre : ∀ vm₁, s.WarmedH vm₁ → Pre ⟨T.setVm vm₁, locs, cells, slots⟩ (Value.ref b :: argsL).toArray) :
    (∃ (v : Option Value) (vm₁ : Vm) (B : Pt), s.WarmedH vm₁ ∧ Stand p l e R s m args below meth c B.U B.locs B.cells B.slots ∧ Post ⟨T.setVm vm₁, locs, cells, slots⟩ (Value.ref b :: argsL).toArray v B ∧
      ∀ target, Steps p.tables e below (B.U.setTop { g with pc := g.pc + 3, stack := v.toList ++ rest }) target → Steps p.tables e below (T.setTop g) target) ∨
    (∃ (q : Addr) (vm₁ : Vm) (B : Pt), s.WarmedH vm₁ ∧ Stand p l e R s m args below meth c B.U B.locs B.cells B.slots ∧ PostX ⟨T.setVm vm₁, locs, cells, slots⟩ (Value.ref b :: argsL).toArray q B ∧
      Steps p.tables e below (T.setTop g) ((B.U.setTop { g with stack := rest }).pushFrame (.throwing q))) := by
  obtain ⟨mk, methM, hnamed, hmethM, hstM, habM⟩ := Cond.instanceMethod_spec hinst
  obtain ⟨methM', cM, hmethM', -, -, -, -, -, -, hsigM⟩ := Cond.code_spec hnamed hcode
  cases hmethM.symm.trans hmethM'
  obtain ⟨c2, r2, m2, q1, q2, q3, q4, kP, hkP, hkPi⟩ := Cond.selects_spec hsel
  cases hcls.symm.trans q1
  cases (State.methodFound?_of_named hnamed hy).symm.trans q2
  cases hnamed.symm.trans q3
  have hselP : selectMethod e.platform s.vm cellB.cls mk = .method mk := by rw [Launch.admits_selectMethod X.admits]; exact q4
  obtain ⟨vm₁, X₁, hstep₁⟩ := X.invokevirtual hexec hown hlink hnamed hmethM hstM hkP hkPi hy (a := b) (cell := cellB) hcell
    (fun z h => by rw [h] at hobj; cases hobj) hselP hmethM habM hkP hkPi (g := g) hg (argsL := argsL) (rest := rest) (hlen _ hsigM) hstack hdg
  rcases hK m meth c ⟨T.setVm vm₁, locs, cells, slots⟩ { g with stack := rest } (.invokevirtual index) mk (Value.ref b :: argsL).toArray X₁ hg hsize hdg hW (X₁.named hnamed) (hpre vm₁ X₁.warmed) with ⟨v, B, X', hpost, hsteps⟩ | ⟨q, B, X', hpost, hsteps⟩
  · exact Or.inl ⟨v, vm₁, B, X₁.warmed, X', hpost, fun target h => hstep₁ _ fun acts => by rw [doInvoke_state]; exact hsteps.trans h⟩
  · exact Or.inr ⟨q, vm₁, B, X₁.warmed, X', hpost, hstep₁ _ fun acts => by rw [doInvoke_state]; exact hsteps⟩
theorem vx_callS (X : Stand p l e R s m args below meth c T locs cells slots) (hexec : p.tables.exec = Jvm.exec) {own : String} {index : Nat} {y : MethodName} {bytes : ByteArray} {maxL : Nat} {ret : Option FieldType}
    (hown : s.vm.findClass own = some m.cls) (hlink : (Cond.methodLink own index y).before args s = true) (hstat : (Cond.static y).before args s = true) (hinit : (Cond.initialized y.cls).before args s = true)
    (hcode : (Cond.code y bytes maxL ret).before args s = true) (hy : y.cls ≠ "java/lang/invoke/MethodHandle" ∧ y.cls ≠ "java/lang/invoke/VarHandle")
    {W9 : Nat} {Pre : Pt → Array Value → Prop} {Post : Pt → Array Value → Option Value → Pt → Prop} {PostX : Pt → Array Value → Addr → Pt → Prop} (hK : vx_Back l R p e below s args y 3 W9 Pre Post PostX)
    {g : JFrame} (hg : g.method = m) (hsize : g.locals.size = c.maxLocals) {argsL rest : List Value} (hlen : ∀ sig, parseMethodDescriptor y.desc = some sig → argsL.length = sig.parameters.length)
    (hstack : g.stack = argsL.reverse ++ rest) (hW : 2 * g.monitorRoom + (rest.map fun v => v.category).sum ≤ W9) (hdg : decode c.code g.pc = .ok (.invokestatic index, 3))
    (hpre : ∀ vm₁, s.WarmedH vm₁ → Pre ⟨T.setVm vm₁, locs, cells, slots⟩ argsL.toArray) :
    (∃ (v : Option Value) (vm₁ : Vm) (B : Pt), s.WarmedH vm₁ ∧ Stand p l e R s m args below meth c B.U B.locs B.cells B.slots ∧ Post ⟨T.setVm vm₁, locs, cells, slots⟩ argsL.toArray v B ∧
      ∀ target, Steps p.tables e below (B.U.setTop { g with pc := g.pc + 3, stack := v.toList ++ rest }) target → Steps p.tables e below (T.setTop g) target) ∨
    (∃ (q : Addr) (vm₁ : Vm) (B : Pt), s.WarmedH vm₁ ∧ Stand p l e R s m args below meth c B.U B.locs B.cells B.slots ∧ PostX ⟨T.setVm vm₁, locs, cells, slots⟩ argsL.toArray q B ∧
      Steps p.tables e below (T.setTop g) ((B.U.setTop { g with stack := rest }).pushFrame (.throwing q))) := by
  obtain ⟨mk, hnamed⟩ := Cond.code_named hcode
  obtain ⟨methM, cM, hmethM, -, -, -, -, -, -, hsigM⟩ := Cond.code_spec hnamed hcode
  have hstatic : methM.isStatic = true := Cond.static_spec hnamed hmethM hstat
  obtain ⟨kP, hkP, -⟩ := className_of_methodNamed hnamed
  have hinitP : kP.init = .initialized := Cond.initialized_spec (findClass_of_methodNamed hnamed) hkP hinit
  obtain ⟨vm₁, X₁, hstep₁⟩ := X.invokestatic hexec hown hlink hnamed hmethM hstatic hkP hinitP hy (g := g) hg (argsL := argsL) (rest := rest) (hlen _ hsigM) hstack hdg
  rcases hK m meth c ⟨T.setVm vm₁, locs, cells, slots⟩ { g with stack := rest } (.invokestatic index) mk argsL.toArray X₁ hg hsize hdg hW (X₁.named hnamed) (hpre vm₁ X₁.warmed) with ⟨v, B, X', hpost, hsteps⟩ | ⟨q, B, X', hpost, hsteps⟩
  · exact Or.inl ⟨v, vm₁, B, X₁.warmed, X', hpost, fun target h => hstep₁ _ fun acts => by rw [doInvoke_state]; exact hsteps.trans h⟩
  · exact Or.inr ⟨q, vm₁, B, X₁.warmed, X', hpost, hstep₁ _ fun acts => by rw [doInvoke_state]; exact hsteps⟩
end Calls
theorem vx_cls {s : State} {T : State} {vm₁ : Vm} {E : String} {k : ClassId} (hW : s.WarmedH vm₁) (h : (T.setVm vm₁).vm.findClass E = some k) : s.vm.findClass E = some k := by
  have h1 : vm₁.findClass E = some k := h
  rw [hW.alike.findClass] at h1
  exact h1
/-- the method's frame g, with q thrown over it -/
def vx_W (p : Program) (l : Launch) (e : Env) (R : Room) (s : State) (m : MethodId) (args : Array Value) (below : List Frame) (meth : Method) (c : Code) (H : Heap) (locs : List Loc) (cells slots : Nat) (Q : State → Prop) (g : JFrame) (q : Addr) : Prop :=
  ∀ T : State, T.heap = H → Stand p l e R s m args below meth c T locs cells slots → ∃ t, Steps p.tables e below ((T.setTop g).pushFrame (.throwing q)) t ∧ Q t
def vx_Run (p : Program) (l : Launch) (e : Env) (R : Room) (s : State) (m : MethodId) (args : Array Value) (below : List Frame) (meth : Method) (c : Code) (H : Heap) (locs : List Loc) (cells slots mc ms : Nat) (g : JFrame) (rest : List Value) (Qa : State → Outcome → State → Prop) (XC : String → State → State → Prop) (free : Addr → Prop) : Prop :=
  ∀ T : State, T.heap = H → Stand p l e R s m args below meth c T locs cells slots →
    (∃ (v : Option Value) (st₀ t T' : State) (L : List Loc), st₀.heap = H ∧ Stand p l e R s m args below meth c T' (locs ++ L) (cells + mc) (slots + ms) ∧ (∀ q ∈ L, free q.base) ∧ T'.heap = t.heap ∧ T'.vm = t.vm ∧ Qa st₀ (.returned v) t ∧
      Goes p e below T g T' { g with pc := g.pc + 3, stack := v.toList ++ rest }) ∨
    (∃ (q : Addr) (st₀ t T' : State) (L : List Loc) (E : String) (ce : Cell), st₀.heap = H ∧ Stand p l e R s m args below meth c T' (locs ++ L) (cells + mc) (slots + ms) ∧ (∀ z ∈ L, free z.base) ∧ T'.heap = t.heap ∧ T'.vm = t.vm ∧ XC E st₀ t ∧ t.heap[q]? = some ce ∧ ce.vm = .none ∧ s.vm.findClass E = some ce.cls ∧
      Steps p.tables e below (T.setTop g) ((T'.setTop { g with stack := rest }).pushFrame (.throwing q)))
def vx_X {S : Type} (px : S → Prop) (B : String → S → State → Prop) (A : Nat → Prop) : String → State → State → Prop := fun E st t => ∃ u : S, px u ∧ B E u t ∧ va_F A st t
section Runs
variable {p : Program} {l : Launch} {e : Env} {R : Room} {s : State} {m : MethodId} {args : Array Value} {below : List Frame} {meth : Method} {c : Code} {H : Heap} {locs : List Loc} {cells slots : Nat}
variable {y : MethodName} {bytes cc : ByteArray} {maxL nL mc ms n index : Nat} {ret : Option FieldType} {ws : List Cond} {rm : Room} {Pc : Array Value → State → Prop} {Qc : Array Value → State → Outcome → State → Prop} {XC : String → State → State → Prop} {free : Addr → Prop} {Ts : List Cond} {own C : String} {b : Addr} {As rest : List Value} {g : JFrame}
theorem vx_callBack (cb : CallB R s args own index y bytes maxL ret ws rm mc ms n) (hM : vx_Met l y ws rm Pc Qc XC mc ms free) (hbl : FrameBlind Pc) : vx_Back l R p e below s args y 3 8 (PreOf R mc ms Pc) (PostOf Qc mc ms free) (vx_Post XC mc ms free) := by
  obtain ⟨hrc, hrs, hfr, hlo, hws, hcw, -, hini, -⟩ := cb
  exact vx_back (bytes := bytes) (maxL := maxL) (ret := ret) hM hbl hrc hrs hfr hlo hws hcw (fun a' U hW => word_at hW (Or.inl (by first | rfl | simp [Cond.onTables, Cond.keeps, Cond.steady])) hini)
theorem vx_runV (S : CallFix p m c cc nL s args Ts own) (hM : vx_Met l y ws rm Pc Qc XC mc ms free) (cw : CallW R s args own C index y bytes maxL ret ws rm mc ms n) (hp : PreV s H C b Pc As)
    (hg : g.method = m) (hn : As.length = n) (hsize : g.locals.size = nL) (hstack : g.stack = As.reverse ++ .ref b :: rest) (hW : 2 * g.monitorRoom + (rest.map fun v => v.category).sum ≤ 8) (hdg : decode cc g.pc = .ok (.invokevirtual index, 3)) (hf : cells + mc ≤ R.cells ∧ slots + ms ≤ R.slots) :
    vx_Run p l e R s m args below meth c H locs cells slots mc ms g rest (Qc (Value.ref b :: As).toArray) XC free := by
  have hK : vx_Back l R p e below s args y 3 8 (PreOf R mc ms Pc) (PostOf Qc mc ms free) (vx_Post XC mc ms free) := vx_callBack cw.1 hM hp.1
  obtain ⟨⟨-, -, -, -, -, -, hcode, -, hy, hlen, hl⟩, hin, hse⟩ := cw
  obtain ⟨hx, hb, hml, ho, -⟩ := S
  obtain ⟨-, ⟨cellB, hcB, hoB, hclB⟩, hPc⟩ := hp
  intro T hT X
  rcases vx_callV X hx (C := C) (bytes := bytes) (maxL := maxL) (ret := ret) ho hl hin hse hcode hy hK (by rw [hT]; exact hcB) hoB hclB hg (hsize.trans hml.symm) (argsL := As) (rest := rest) (fun sig h => hn.trans (hlen sig h)) hstack hW (by rw [hb]; exact hdg)
    (fun vm₁ hW₁ => ⟨hf.1, hf.2, hPc (T.setVm vm₁) hT hW₁⟩) with ⟨v, vm₁, ⟨U', l2, c2, s2⟩, hW₁, X', ⟨g', mk, t, L, e1, e2, hq, h1, hL, h2, h3⟩, st⟩ | ⟨q, vm₁, ⟨U', l2, c2, s2⟩, hW₁, X', ⟨g', mk, t, L, E, ce, e1, e2, hq, hce, hcv, hcl, h1, hL, h2, h3⟩, st⟩
  · dsimp only [Pt.U, Pt.locs, Pt.cells, Pt.slots] at X' e1 e2 h1 h2 h3 st
    subst h1; subst h2; subst h3
    exact Or.inl ⟨v, (T.setVm vm₁).calling g' mk (Value.ref b :: As).toArray, t, U', L, hT, X', hL, e1, e2, hq, st⟩
  · dsimp only [Pt.U, Pt.locs, Pt.cells, Pt.slots] at X' e1 e2 h1 h2 h3 st hcl
    subst h1; subst h2; subst h3
    exact Or.inr ⟨q, (T.setVm vm₁).calling g' mk (Value.ref b :: As).toArray, t, U', L, E, ce, hT, X', hL, e1, e2, hq, hce, hcv, vx_cls hW₁ hcl, st⟩
theorem vx_runS (S : CallFix p m c cc nL s args Ts own) (hM : vx_Met l y ws rm Pc Qc XC mc ms free) (cw : CallB R s args own index y bytes maxL ret ws rm mc ms n ∧ (Cond.static y).before args s = true) (hp : PreS s H Pc As)
    (hg : g.method = m) (hn : As.length = n) (hsize : g.locals.size = nL) (hstack : g.stack = As.reverse ++ rest) (hW : 2 * g.monitorRoom + (rest.map fun v => v.category).sum ≤ 8) (hdg : decode cc g.pc = .ok (.invokestatic index, 3)) (hf : cells + mc ≤ R.cells ∧ slots + ms ≤ R.slots) :
    vx_Run p l e R s m args below meth c H locs cells slots mc ms g rest (Qc As.toArray) XC free := by
  have hK : vx_Back l R p e below s args y 3 8 (PreOf R mc ms Pc) (PostOf Qc mc ms free) (vx_Post XC mc ms free) := vx_callBack cw.1 hM hp.1
  obtain ⟨⟨-, -, -, -, -, -, hcode, hini, hy, hlen, hl⟩, hstt⟩ := cw
  obtain ⟨hx, hb, hml, ho, -⟩ := S
  intro T hT X
  rcases vx_callS X hx (bytes := bytes) (maxL := maxL) (ret := ret) ho hl hstt hini hcode hy hK hg (hsize.trans hml.symm) (argsL := As) (rest := rest) (fun sig h => hn.trans (hlen sig h)) hstack hW (by rw [hb]; exact hdg)
    (fun vm₁ hW₁ => ⟨hf.1, hf.2, hp.2 (T.setVm vm₁) hT hW₁⟩) with ⟨v, vm₁, ⟨U', l2, c2, s2⟩, hW₁, X', ⟨g', mk, t, L, e1, e2, hq, h1, hL, h2, h3⟩, st⟩ | ⟨q, vm₁, ⟨U', l2, c2, s2⟩, hW₁, X', ⟨g', mk, t, L, E, ce, e1, e2, hq, hce, hcv, hcl, h1, hL, h2, h3⟩, st⟩
  · dsimp only [Pt.U, Pt.locs, Pt.cells, Pt.slots] at X' e1 e2 h1 h2 h3 st
    subst h1; subst h2; subst h3
    exact Or.inl ⟨v, (T.setVm vm₁).calling g' mk As.toArray, t, U', L, hT, X', hL, e1, e2, hq, st⟩
  · dsimp only [Pt.U, Pt.locs, Pt.cells, Pt.slots] at X' e1 e2 h1 h2 h3 st hcl
    subst h1; subst h2; subst h3
    exact Or.inr ⟨q, (T.setVm vm₁).calling g' mk As.toArray, t, U', L, E, ce, hT, X', hL, e1, e2, hq, hce, hcv, vx_cls hW₁ hcl, st⟩
end Runs
section Rows
variable {p : Program} {l : Launch} {e : Env} {R : Room} {s : State} {m : MethodId} {args : Array Value} {below : List Frame} {meth : Method} {c : Code} {H : Heap} {locs : List Loc} {cells slots : Nat} {Q : State → Prop}
variable {mc ms : Nat} {free : Addr → Prop} {A0 A1 : Nat → Prop} {H0 : Heap} {a : Array Value} {pc : Nat} {ls : Array Slot} {st0 rest : List Value}
theorem vx_keep {st₀ t T' : State} {L : List Loc} (h0 : st₀.heap = H) (e1 : T'.heap = t.heap) (hS : va_S A0 H0 H locs) (hA : ∀ q, q < H.size → A1 q → A0 q) (hf : ∀ q, free q → A0 q) (hL : ∀ q ∈ L, free q.base) (hF : va_F A1 st₀ t) :
    H.size ≤ T'.heap.size ∧ (∀ q : Nat, q < H.size → ¬ A1 q → T'.heap[q]? = H[q]?) ∧ va_S A0 H0 T'.heap (locs ++ L) := by
  obtain ⟨hz, hk⟩ := hF
  rw [h0] at hz hk
  exact ⟨by rw [e1]; exact hz, fun q h1 h2 => by rw [e1]; exact hk q h1 h2,
    ⟨Nat.le_trans hS.1 (by rw [e1]; exact hz), fun q h1 h2 => by rw [e1, hk q (Nat.lt_of_lt_of_le h1 hS.1) (fun z => h2 (hA q (Nat.lt_of_lt_of_le h1 hS.1) z))]; exact hS.2.1 q h1 h2, fun q hq => by
      rcases List.mem_append.mp hq with h | h
      · exact hS.2.2 q h
      · exact hf _ (hL q h)⟩⟩
theorem vx_calli {S SX : Type} {post : Int32 → S → Prop} {px : SX → Prop} {B : S → State → Prop} {BX : String → SX → State → Prop} {AX : Nat → Prop} (hr : vx_Run p l e R s m args below meth c H locs cells slots mc ms (F0 m pc ls st0) rest (va_Qi post B A1 a) (vx_X px BX AX) free) (hS : va_S A0 H0 H locs) (hA : ∀ q, q < H.size → A1 q → A0 q) (hf : ∀ q, free q → A0 q) (hAX : ∀ q, q < H.size → AX q → A0 q)
    (kx : ∀ (E : String) (ce : Cell) (q9 : Addr) (u : SX) (t : State) (H1 : Heap) (locs1 : List Loc), t.heap = H1 → s.vm.Alike t.vm → px u → BX E u t → H.size ≤ H1.size → (∀ q : Nat, q < H.size → ¬ AX q → H1[q]? = H[q]?) → va_S A0 H0 H1 locs1 → H1[q9]? = some ce → ce.vm = .none → s.vm.findClass E = some ce.cls → vx_W p l e R s m args below meth c H1 locs1 (cells + mc) (slots + ms) Q (F0 m pc ls rest) q9)
    (kk : ∀ (r : Int32) (u : S) (t : State) (H1 : Heap) (locs1 : List Loc), t.heap = H1 → s.vm.Alike t.vm → post r u → B u t → H.size ≤ H1.size → (∀ q : Nat, q < H.size → ¬ A1 q → H1[q]? = H[q]?) → va_S A0 H0 H1 locs1 → W p l e R s m args below meth c H1 locs1 (cells + mc) (slots + ms) Q (F0 m (pc + 3) ls (.int r :: rest))) : W p l e R s m args below meth c H locs cells slots Q (F0 m pc ls st0) := by
  intro T hT X
  rcases hr T hT X with ⟨v, st₀, t, T', L, h0, X', hL, e1, e2, ⟨⟨r, u, hv, hp, hb⟩, hF⟩, st⟩ | ⟨q, st₀, t, T', L, E, ce, h0, X', hL, e1, e2, ⟨u, hp, hb, hF⟩, hce, hcv, hcl, st⟩
  · cases hv
    obtain ⟨k1, k2, k3⟩ := vx_keep h0 e1 hS hA hf hL hF
    obtain ⟨t2, a1, b1⟩ := kk r u t T'.heap (locs ++ L) e1.symm (by rw [← e2]; exact X'.warmed.alike) hp hb k1 k2 k3 T' rfl X'
    exact ⟨t2, st t2 a1, b1⟩
  · obtain ⟨k1, k2, k3⟩ := vx_keep h0 e1 hS hAX hf hL hF
    obtain ⟨t2, a1, b1⟩ := kx E ce q u t T'.heap (locs ++ L) e1.symm (by rw [← e2]; exact X'.warmed.alike) hp hb k1 k2 k3 (by rw [e1]; exact hce) hcv hcl T' rfl X'
    exact ⟨t2, st.trans a1, b1⟩
theorem vx_calll {S SX : Type} {post : Int64 → S → Prop} {px : SX → Prop} {B : S → State → Prop} {BX : String → SX → State → Prop} {AX : Nat → Prop} (hr : vx_Run p l e R s m args below meth c H locs cells slots mc ms (F0 m pc ls st0) rest (va_Ql post B A1 a) (vx_X px BX AX) free) (hS : va_S A0 H0 H locs) (hA : ∀ q, q < H.size → A1 q → A0 q) (hf : ∀ q, free q → A0 q) (hAX : ∀ q, q < H.size → AX q → A0 q)
    (kx : ∀ (E : String) (ce : Cell) (q9 : Addr) (u : SX) (t : State) (H1 : Heap) (locs1 : List Loc), t.heap = H1 → s.vm.Alike t.vm → px u → BX E u t → H.size ≤ H1.size → (∀ q : Nat, q < H.size → ¬ AX q → H1[q]? = H[q]?) → va_S A0 H0 H1 locs1 → H1[q9]? = some ce → ce.vm = .none → s.vm.findClass E = some ce.cls → vx_W p l e R s m args below meth c H1 locs1 (cells + mc) (slots + ms) Q (F0 m pc ls rest) q9)
    (kk : ∀ (r : Int64) (u : S) (t : State) (H1 : Heap) (locs1 : List Loc), t.heap = H1 → s.vm.Alike t.vm → post r u → B u t → H.size ≤ H1.size → (∀ q : Nat, q < H.size → ¬ A1 q → H1[q]? = H[q]?) → va_S A0 H0 H1 locs1 → W p l e R s m args below meth c H1 locs1 (cells + mc) (slots + ms) Q (F0 m (pc + 3) ls (.long r :: rest))) : W p l e R s m args below meth c H locs cells slots Q (F0 m pc ls st0) := by
  intro T hT X
  rcases hr T hT X with ⟨v, st₀, t, T', L, h0, X', hL, e1, e2, ⟨⟨r, u, hv, hp, hb⟩, hF⟩, st⟩ | ⟨q, st₀, t, T', L, E, ce, h0, X', hL, e1, e2, ⟨u, hp, hb, hF⟩, hce, hcv, hcl, st⟩
  · cases hv
    obtain ⟨k1, k2, k3⟩ := vx_keep h0 e1 hS hA hf hL hF
    obtain ⟨t2, a1, b1⟩ := kk r u t T'.heap (locs ++ L) e1.symm (by rw [← e2]; exact X'.warmed.alike) hp hb k1 k2 k3 T' rfl X'
    exact ⟨t2, st t2 a1, b1⟩
  · obtain ⟨k1, k2, k3⟩ := vx_keep h0 e1 hS hAX hf hL hF
    obtain ⟨t2, a1, b1⟩ := kx E ce q u t T'.heap (locs ++ L) e1.symm (by rw [← e2]; exact X'.warmed.alike) hp hb k1 k2 k3 (by rw [e1]; exact hce) hcv hcl T' rfl X'
    exact ⟨t2, st.trans a1, b1⟩
theorem vx_callf {S SX : Type} {post : UInt32 → S → Prop} {px : SX → Prop} {B : S → State → Prop} {BX : String → SX → State → Prop} {AX : Nat → Prop} (hr : vx_Run p l e R s m args below meth c H locs cells slots mc ms (F0 m pc ls st0) rest (va_Qf post B A1 a) (vx_X px BX AX) free) (hS : va_S A0 H0 H locs) (hA : ∀ q, q < H.size → A1 q → A0 q) (hf : ∀ q, free q → A0 q) (hAX : ∀ q, q < H.size → AX q → A0 q)
    (kx : ∀ (E : String) (ce : Cell) (q9 : Addr) (u : SX) (t : State) (H1 : Heap) (locs1 : List Loc), t.heap = H1 → s.vm.Alike t.vm → px u → BX E u t → H.size ≤ H1.size → (∀ q : Nat, q < H.size → ¬ AX q → H1[q]? = H[q]?) → va_S A0 H0 H1 locs1 → H1[q9]? = some ce → ce.vm = .none → s.vm.findClass E = some ce.cls → vx_W p l e R s m args below meth c H1 locs1 (cells + mc) (slots + ms) Q (F0 m pc ls rest) q9)
    (kk : ∀ (r : UInt32) (u : S) (t : State) (H1 : Heap) (locs1 : List Loc), t.heap = H1 → s.vm.Alike t.vm → post r u → B u t → H.size ≤ H1.size → (∀ q : Nat, q < H.size → ¬ A1 q → H1[q]? = H[q]?) → va_S A0 H0 H1 locs1 → W p l e R s m args below meth c H1 locs1 (cells + mc) (slots + ms) Q (F0 m (pc + 3) ls (.float r :: rest))) : W p l e R s m args below meth c H locs cells slots Q (F0 m pc ls st0) := by
  intro T hT X
  rcases hr T hT X with ⟨v, st₀, t, T', L, h0, X', hL, e1, e2, ⟨⟨r, u, hv, hp, hb⟩, hF⟩, st⟩ | ⟨q, st₀, t, T', L, E, ce, h0, X', hL, e1, e2, ⟨u, hp, hb, hF⟩, hce, hcv, hcl, st⟩
  · cases hv
    obtain ⟨k1, k2, k3⟩ := vx_keep h0 e1 hS hA hf hL hF
    obtain ⟨t2, a1, b1⟩ := kk r u t T'.heap (locs ++ L) e1.symm (by rw [← e2]; exact X'.warmed.alike) hp hb k1 k2 k3 T' rfl X'
    exact ⟨t2, st t2 a1, b1⟩
  · obtain ⟨k1, k2, k3⟩ := vx_keep h0 e1 hS hAX hf hL hF
    obtain ⟨t2, a1, b1⟩ := kx E ce q u t T'.heap (locs ++ L) e1.symm (by rw [← e2]; exact X'.warmed.alike) hp hb k1 k2 k3 (by rw [e1]; exact hce) hcv hcl T' rfl X'
    exact ⟨t2, st.trans a1, b1⟩
theorem vx_calld {S SX : Type} {post : UInt64 → S → Prop} {px : SX → Prop} {B : S → State → Prop} {BX : String → SX → State → Prop} {AX : Nat → Prop} (hr : vx_Run p l e R s m args below meth c H locs cells slots mc ms (F0 m pc ls st0) rest (va_Qd post B A1 a) (vx_X px BX AX) free) (hS : va_S A0 H0 H locs) (hA : ∀ q, q < H.size → A1 q → A0 q) (hf : ∀ q, free q → A0 q) (hAX : ∀ q, q < H.size → AX q → A0 q)
    (kx : ∀ (E : String) (ce : Cell) (q9 : Addr) (u : SX) (t : State) (H1 : Heap) (locs1 : List Loc), t.heap = H1 → s.vm.Alike t.vm → px u → BX E u t → H.size ≤ H1.size → (∀ q : Nat, q < H.size → ¬ AX q → H1[q]? = H[q]?) → va_S A0 H0 H1 locs1 → H1[q9]? = some ce → ce.vm = .none → s.vm.findClass E = some ce.cls → vx_W p l e R s m args below meth c H1 locs1 (cells + mc) (slots + ms) Q (F0 m pc ls rest) q9)
    (kk : ∀ (r : UInt64) (u : S) (t : State) (H1 : Heap) (locs1 : List Loc), t.heap = H1 → s.vm.Alike t.vm → post r u → B u t → H.size ≤ H1.size → (∀ q : Nat, q < H.size → ¬ A1 q → H1[q]? = H[q]?) → va_S A0 H0 H1 locs1 → W p l e R s m args below meth c H1 locs1 (cells + mc) (slots + ms) Q (F0 m (pc + 3) ls (.double r :: rest))) : W p l e R s m args below meth c H locs cells slots Q (F0 m pc ls st0) := by
  intro T hT X
  rcases hr T hT X with ⟨v, st₀, t, T', L, h0, X', hL, e1, e2, ⟨⟨r, u, hv, hp, hb⟩, hF⟩, st⟩ | ⟨q, st₀, t, T', L, E, ce, h0, X', hL, e1, e2, ⟨u, hp, hb, hF⟩, hce, hcv, hcl, st⟩
  · cases hv
    obtain ⟨k1, k2, k3⟩ := vx_keep h0 e1 hS hA hf hL hF
    obtain ⟨t2, a1, b1⟩ := kk r u t T'.heap (locs ++ L) e1.symm (by rw [← e2]; exact X'.warmed.alike) hp hb k1 k2 k3 T' rfl X'
    exact ⟨t2, st t2 a1, b1⟩
  · obtain ⟨k1, k2, k3⟩ := vx_keep h0 e1 hS hAX hf hL hF
    obtain ⟨t2, a1, b1⟩ := kx E ce q u t T'.heap (locs ++ L) e1.symm (by rw [← e2]; exact X'.warmed.alike) hp hb k1 k2 k3 (by rw [e1]; exact hce) hcv hcl T' rfl X'
    exact ⟨t2, st.trans a1, b1⟩
theorem vx_callv {S SX : Type} {post : S → Prop} {px : SX → Prop} {B : S → State → Prop} {BX : String → SX → State → Prop} {AX : Nat → Prop} (hr : vx_Run p l e R s m args below meth c H locs cells slots mc ms (F0 m pc ls st0) rest (va_Qv post B A1 a) (vx_X px BX AX) free) (hS : va_S A0 H0 H locs) (hA : ∀ q, q < H.size → A1 q → A0 q) (hf : ∀ q, free q → A0 q) (hAX : ∀ q, q < H.size → AX q → A0 q)
    (kx : ∀ (E : String) (ce : Cell) (q9 : Addr) (u : SX) (t : State) (H1 : Heap) (locs1 : List Loc), t.heap = H1 → s.vm.Alike t.vm → px u → BX E u t → H.size ≤ H1.size → (∀ q : Nat, q < H.size → ¬ AX q → H1[q]? = H[q]?) → va_S A0 H0 H1 locs1 → H1[q9]? = some ce → ce.vm = .none → s.vm.findClass E = some ce.cls → vx_W p l e R s m args below meth c H1 locs1 (cells + mc) (slots + ms) Q (F0 m pc ls rest) q9)
    (kk : ∀ (u : S) (t : State) (H1 : Heap) (locs1 : List Loc), t.heap = H1 → s.vm.Alike t.vm → post u → B u t → H.size ≤ H1.size → (∀ q : Nat, q < H.size → ¬ A1 q → H1[q]? = H[q]?) → va_S A0 H0 H1 locs1 → W p l e R s m args below meth c H1 locs1 (cells + mc) (slots + ms) Q (F0 m (pc + 3) ls (rest))) : W p l e R s m args below meth c H locs cells slots Q (F0 m pc ls st0) := by
  intro T hT X
  rcases hr T hT X with ⟨v, st₀, t, T', L, h0, X', hL, e1, e2, ⟨⟨u, hv, hp, hb⟩, hF⟩, st⟩ | ⟨q, st₀, t, T', L, E, ce, h0, X', hL, e1, e2, ⟨u, hp, hb, hF⟩, hce, hcv, hcl, st⟩
  · cases hv
    obtain ⟨k1, k2, k3⟩ := vx_keep h0 e1 hS hA hf hL hF
    obtain ⟨t2, a1, b1⟩ := kk u t T'.heap (locs ++ L) e1.symm (by rw [← e2]; exact X'.warmed.alike) hp hb k1 k2 k3 T' rfl X'
    exact ⟨t2, st t2 a1, b1⟩
  · obtain ⟨k1, k2, k3⟩ := vx_keep h0 e1 hS hAX hf hL hF
    obtain ⟨t2, a1, b1⟩ := kx E ce q u t T'.heap (locs ++ L) e1.symm (by rw [← e2]; exact X'.warmed.alike) hp hb k1 k2 k3 (by rw [e1]; exact hce) hcv hcl T' rfl X'
    exact ⟨t2, st.trans a1, b1⟩
/-- caught by the row x of this method's table; the rows ahead don't take it -/
theorem vx_catch {own name : String} {E : String} {ce : Cell} {q : Addr} (hown : s.vm.findClass own = some m.cls) (pre : List ExceptionTableEntry) (x : ExceptionTableEntry) (suf : List ExceptionTableEntry) (hsplit : c.exceptionTable.toList = pre ++ x :: suf)
    (hpass : ∀ z ∈ pre, covers z pc = false ∨ (z.catchType ≠ 0 ∧ ∃ nm : String, (Cond.classLink own z.catchType nm).before args s = true ∧ va_Nc E nm s)) (hx : covers x pc = true) (h0 : x.catchType ≠ 0)
    (hlink : (Cond.classLink own x.catchType name).before args s = true) (hcast : (Cond.castable E name).before args s = true) (hcell : H[q]? = some ce) (hv : ce.vm = .none) (hcl : s.vm.findClass E = some ce.cls)
    (kk : W p l e R s m args below meth c H locs cells slots Q (F0 m x.handlerPc ls [.ref q])) : vx_W p l e R s m args below meth c H locs cells slots Q (F0 m pc ls rest) q := by
  intro T hT X
  have hpl : e.platform.magicAccessors = ({} : Platform).magicAccessors := by rw [X.admits.platform]
  obtain ⟨c3, c4, hc3, hc4, hasg⟩ := Cond.castable_spec hcast
  cases Option.some.inj (hc3.symm.trans hcl)
  obtain ⟨c5, hc5, hcl5⟩ := Cond.classLink_spec hown hlink e.platform hpl
  cases Option.some.inj (hc4.symm.trans hc5)
  obtain ⟨vm', X', st⟩ := X.thenCaughtThrough q (g := F0 m pc ls rest) rfl (Steps.refl _) (by rw [hT]; exact hcell) (by rw [hv]; rfl) (by obtain ⟨k9, h9, -⟩ := Vm.findClass_spec hcl; exact ⟨k9, h9⟩) pre x suf hsplit
    (fun z hz => by
      rcases hpass z hz with h | ⟨hz0, nm, hl1, hn1⟩
      · exact Or.inl h
      · obtain ⟨c6, hc6, hcl6⟩ := Cond.classLink_spec hown hl1 e.platform hpl
        obtain ⟨a8, b8, h1, h2, h3⟩ := hn1
        cases Option.some.inj (h1.symm.trans hcl)
        cases Option.some.inj (h2.symm.trans hc6)
        exact Or.inr ⟨hz0, _, hcl6, h3⟩) hx (Or.inr ⟨h0, c4, hcl5, hasg⟩)
  obtain ⟨t, a1, b1⟩ := kk (T.setVm vm') hT X'
  exact ⟨t, st.trans a1, b1⟩
end Rows
section Ends
variable {p : Program} {l : Launch} {e : Env} {R : Room} {s : State} {m : MethodId} {args : Array Value} {below : List Frame} {meth : Method} {c : Code} {H : Heap} {locs : List Loc} {cells slots : Nat} {Q : State → Prop}
variable {mc ms : Nat} {free : Addr → Prop} {A0 A1 : Nat → Prop} {H0 : Heap} {a : Array Value} {ls : Array Slot} {st0 rest : List Value}
variable {Qc : Array Value → State → Outcome → State → Prop} {XC : String → State → State → Prop}
/-- what a body that may throw owes at its end -/
def vx_MQ (below : List Frame) (Qc : Array Value → State → Outcome → State → Prop) (XC : String → State → State → Prop) (a : Array Value) (s : State) (mc ms : Nat) (free : Addr → Prop) : State → Prop := fun t =>
  ∃ o, t.status = .running ∧ Ended t below o ∧ vx_Q Qc XC mc ms free a s o t
theorem vx_ret {g : JFrame} {mc ms : Nat} (k : W p l e R s m args below meth c H locs cells slots (MQ below Qc args s mc ms free) g) : W p l e R s m args below meth c H locs cells slots (vx_MQ below Qc XC args s mc ms free) g := by
  intro T hT X
  obtain ⟨t, a1, o, b1, b2, b3, b4⟩ := k T hT X
  exact ⟨t, a1, o, b1, b2, Or.inl ⟨b3, b4⟩⟩
/-- not caught here: it goes on to the caller -/
theorem vx_widen {g : JFrame} {q : Addr} {k n : Nat} (h1 : cells ≤ k) (h2 : slots ≤ n) (kk : vx_W p l e R s m args below meth c H locs k n Q g q) : vx_W p l e R s m args below meth c H locs cells slots Q g q := fun T hT X => kk T hT (stand_widen X h1 h2)
theorem vx_out {pc : Nat} {E : String} {ce : Cell} {q : Addr} {mc ms : Nat} (hout : ∀ x ∈ c.exceptionTable.toList, covers x pc = false) (hlocks : meth.locks = false) (hcell : H[q]? = some ce) (hv : ce.vm = .none) (hcl : s.vm.findClass E = some ce.cls)
    (hx : ∀ t : State, t.heap = H → s.vm.Alike t.vm → XC E s t) (hf : ∀ z ∈ locs, free z.base) (hc : cells ≤ mc) (hs : slots ≤ ms) :
    vx_W p l e R s m args below meth c H locs cells slots (vx_MQ below Qc XC args s mc ms free) (F0 m pc ls rest) q := by
  intro T hT X
  obtain ⟨st1, hrun, hend, hW, hsm⟩ := X.leaveThrown q (g := F0 m pc ls rest) rfl rfl rfl hout hlocks
  have hcell9 : (T.setFrames (.throwing q :: below)).heap[q]? = some ce := by
    show T.heap[q]? = some ce
    rw [hT]; exact hcell
  exact ⟨_, st1, .threw q, hrun, hend, Or.inr ⟨q, rfl, E, ce, locs, hx _ hT hW.alike, hcell9, hv, hcl, hW, hsm.mono hc hs, hf⟩⟩
theorem vx_frame {U : State} {k n : Nat} (h : s.sameButNew ({ U with vm := s.vm } : State) locs k n) : s.heap.size ≤ U.heap.size ∧ ∀ q : Nat, q < s.heap.size → (∀ z ∈ locs, z.base ≠ q) → U.heap[q]? = s.heap[q]? := by
  obtain ⟨-, h2, -, -, -, h6⟩ := h
  refine ⟨h2, fun q hq hz => ?_⟩
  obtain ⟨c9, e1, e2, e3, e4⟩ := h6 q _ (Array.getElem?_eq_getElem hq)
  have hs : c9.slots = (s.heap[q]).slots := Array.ext_getElem? fun i => e4 i fun hm => hz _ hm rfl
  have h9 : c9 = s.heap[q] := by
    rw [hs] at e2
    exact e2
  have e5 : U.heap[q]? = some c9 := e1
  rw [e5, h9, Array.getElem?_eq_getElem hq]
/-- the words of a throw but the four that speak of the heap -/
def vx_no (w : Cond) : Bool := decide (w ≠ .isRef (.static Bundle.tN "UNASSIGNED_STACK" Bundle.steD)) && decide (w ≠ .isRef (.static Bundle.tN "SUPPRESSED_SENTINEL" Bundle.listD)) && decide (w ≠ .laysStatic Bundle.tN "UNASSIGNED_STACK" Bundle.steD) && decide (w ≠ .laysStatic Bundle.tN "SUPPRESSED_SENTINEL" Bundle.listD)
def vx_at0 (own : String) (ic : Nat) (X : String) (names : List String) : List Cond := (Bundle.ownAtoms0 own ic X names).filter vx_no
def vx_atS (own : String) (ic : Nat) (X : String) (names : List String) : List Cond := (Bundle.ownAtoms own ic X names).filter vx_no
/-- a word that the tables alone decide, or a good one -/
def vx_ot (w : Cond) : Bool := w.onTables || goodWord w
theorem vx_ot_at {args a' : Array Value} {s U : State} {w : Cond} (hW : s.WarmedH U.vm) (hvm : s.vm = U.vm) (hg : vx_ot w = true) (h : w.before args s = true) : w.before a' U = true := by
  simp only [vx_ot, Bool.or_eq_true] at hg
  rcases hg with hg | hg
  · exact va_tabs hg hvm h
  · exact word_at hW (good_of_word hg) h
/-- a list's words: the good ones out of the method's own list, the others by premises of their own -/
theorem vx_hat {args : Array Value} {s : State} {L B : List Cond} (h1 : ∀ w ∈ L.filter goodWord, w.before args s = true) (h2 : ∀ w ∈ L.filter (fun w => !goodWord w), w ∈ B) (h3 : ∀ w ∈ B, w.before args s = true) : ∀ w ∈ L, w.before args s = true := by
  intro w hw
  by_cases g : goodWord w = true
  · exact h1 w (List.mem_filter.mpr ⟨hw, g⟩)
  · refine h3 w (h2 w (List.mem_filter.mpr ⟨hw, ?_⟩))
    show (!goodWord w) = true
    cases hgw : goodWord w
    · rfl
    · exact absurd hgw g
theorem vx_c {args : Array Value} {s : State} {w : Cond} {B : List Cond} (h : w.before args s = true) (t : ∀ w ∈ B, w.before args s = true) : ∀ w' ∈ w :: B, w'.before args s = true := fun w' h' => (List.mem_cons.mp h').elim (fun e => by rw [e]; exact h) (t w')
theorem vx_n {args : Array Value} {s : State} : ∀ w ∈ ([] : List Cond), w.before args s = true := fun _ h => nomatch h
theorem vx_own {args : Array Value} {s : State} {L : List Cond} (h1 : ∀ w ∈ L.filter vx_no, w.before args s = true)
    (hU : (Cond.isRef (.static Bundle.tN "UNASSIGNED_STACK" Bundle.steD)).before args s = true) (hN : (Cond.isRef (.static Bundle.tN "SUPPRESSED_SENTINEL" Bundle.listD)).before args s = true)
    (lU : (Cond.laysStatic Bundle.tN "UNASSIGNED_STACK" Bundle.steD).before args s = true) (lN : (Cond.laysStatic Bundle.tN "SUPPRESSED_SENTINEL" Bundle.listD).before args s = true) : ∀ w ∈ L, w.before args s = true := by
  intro w hw
  by_cases e1 : w = .isRef (.static Bundle.tN "UNASSIGNED_STACK" Bundle.steD)
  · rw [e1]; exact hU
  · by_cases e2 : w = .isRef (.static Bundle.tN "SUPPRESSED_SENTINEL" Bundle.listD)
    · rw [e2]; exact hN
    · by_cases e3 : w = .laysStatic Bundle.tN "UNASSIGNED_STACK" Bundle.steD
      · rw [e3]; exact lU
      · by_cases e4 : w = .laysStatic Bundle.tN "SUPPRESSED_SENTINEL" Bundle.listD
        · rw [e4]; exact lN
        · exact h1 w (List.mem_filter.mpr ⟨hw, by unfold vx_no; rw [decide_eq_true e1, decide_eq_true e2, decide_eq_true e3, decide_eq_true e4]; rfl⟩)
/-- where a static field lies, its class's statics cell in H -/
def vx_L (C n d : String) (A : Nat → Prop) (U : State) (H : Heap) : Prop := ∃ (c : ClassId) (k : Class) (i : Nat) (f : Field) (a : Nat) (cell : Cell), U.vm.findClass C = some c ∧ U.fieldFound? C n d = some (c, k, i, f) ∧ f.isStatic = true ∧ k.statics = some a ∧ H[a]? = some cell ∧ cell.vm.isStatics = true ∧ cell.cls = c ∧ f.slot < cell.slots.size ∧ k.staticTypes[f.slot]? = some f.type ∧ ¬ A a
theorem vx_L.moved {C n d : String} {A : Nat → Prop} {u U : State} {H : Heap} (hvm : u.vm.Alike U.vm) (h : vx_L C n d A u H) : vx_L C n d A U H := by
  obtain ⟨c, k, i, f, a, cell, h1, h2, h3, h4, h5, h6, h7, h8, h9, h10⟩ := h
  obtain ⟨k', hi', he⟩ := State.fieldFound?_setVm hvm h2
  exact ⟨c, k', i, f, a, cell, by rw [hvm.findClass]; exact h1, hi', h3, by rw [he]; exact h4, h5, h6, h7, h8, by rw [he]; exact h9, h10⟩
theorem vx_L.kept {C n d : String} {A : Nat → Prop} {U : State} {H H1 : Heap} (h : vx_L C n d A U H) (hq : ∀ a : Nat, a < H.size → ¬ A a → H1[a]? = H[a]?) : vx_L C n d A U H1 := by
  obtain ⟨c, k, i, f, a, cell, h1, h2, h3, h4, h5, h6, h7, h8, h9, h10⟩ := h
  exact ⟨c, k, i, f, a, cell, h1, h2, h3, h4, by rw [hq a (Array.getElem?_eq_some_iff.mp h5).1 h10]; exact h5, h6, h7, h8, h9, h10⟩
theorem vx_L.narrow {C n d : String} {A B : Nat → Prop} {U : State} {H : Heap} (h : vx_L C n d A U H) (hAB : ∀ q, B q → A q) : vx_L C n d B U H := by
  obtain ⟨c, k, i, f, a, cell, h1, h2, h3, h4, h5, h6, h7, h8, h9, h10⟩ := h
  exact ⟨c, k, i, f, a, cell, h1, h2, h3, h4, h5, h6, h7, h8, h9, fun z => h10 (hAB _ z)⟩
theorem vx_L.word {C n d : String} {A : Nat → Prop} {s : State} {args : Array Value} (h : vx_L C n d A s s.heap) : (Cond.laysStatic C n d).before args s = true := by
  obtain ⟨c, k, i, f, a, cell, h1, h2, h3, h4, h5, h6, h7, h8, h9, -⟩ := h
  show (Cond.laysStatic C n d).holds args s none s [] = true
  exact Cond.laysStatic_of h1 h2 h3 h4 h5 h6 h7 h8 h9
/-- .. and what it holds: null or some reference -/
def vx_Zq (C n d : String) (A : Nat → Prop) (U : State) (H : Heap) : Prop := va_Zq C n d A U H ∧ vx_L C n d A U H
theorem vx_Zq.moved {C n d : String} {A : Nat → Prop} {u U : State} {H : Heap} (hvm : u.vm.Alike U.vm) (h : vx_Zq C n d A u H) : vx_Zq C n d A U H := ⟨va_Zq.moved hvm h.1, vx_L.moved hvm h.2⟩
theorem vx_Zq.kept {C n d : String} {A : Nat → Prop} {U : State} {H H1 : Heap} (h : vx_Zq C n d A U H) (hq : ∀ a : Nat, a < H.size → ¬ A a → H1[a]? = H[a]?) : vx_Zq C n d A U H1 := ⟨va_Zq.kept h.1 hq, vx_L.kept h.2 hq⟩
theorem vx_Zq.narrow {C n d : String} {A B : Nat → Prop} {U : State} {H : Heap} (h : vx_Zq C n d A U H) (hAB : ∀ q, B q → A q) : vx_Zq C n d B U H := ⟨va_Zq.narrow h.1 hAB, vx_L.narrow h.2 hAB⟩
theorem vx_Zqof {args : Array Value} {s : State} {C n d : String} {A : Nat → Prop} (hl : (Cond.laysStatic C n d).before args s = true) (hini : (Cond.initialized C).before args s = true) (h : (Cond.isRef (.static C n d)).before args s = true) (hA : ∀ a : Nat, a < s.heap.size → ¬ A a) : vx_Zq C n d A s s.heap := by
  refine ⟨va_Zqof hl hini h hA, ?_⟩
  obtain ⟨c, k, i, f, a, cell, h1, h2, h3, h4, h5, h6, h7, h8, h9⟩ := Cond.laysStatic_spec hl
  exact ⟨c, k, i, f, a, cell, h1, h2, h3, h4, h5, h6, h7, h8, h9, hA a (Array.getElem?_eq_some_iff.mp h5).1⟩
theorem vx_isRef {C n d : String} {v : Value} {A : Nat → Prop} {s : State} {args : Array Value} (h : va_Z C n d v A s s.heap) (hv : v.isRef = true) : (Cond.isRef (.static C n d)).before args s = true := by
  obtain ⟨cf, kf, fi, f, a, cell, h1, h2, h3, h4, h5, h6, h7, -⟩ := h
  have he : (Term.static C n d).eval args s none [] s = some v := by
    simp [Term.eval, State.fieldNamed?, h1, h2, h4, h5, h6, h7]
  simp only [Cond.before, Cond.holds, Cond.value, he]
  cases v <;> simp_all [Value.isRef]
theorem vx_isRefq {C n d : String} {A : Nat → Prop} {s : State} {args : Array Value} (h : va_Zq C n d A s s.heap) : (Cond.isRef (.static C n d)).before args s = true := by
  rcases h with h | ⟨t, h⟩
  · exact vx_isRef h rfl
  · exact vx_isRef h rfl
/-- the same frame, seen from here: as if the method were called anew in this heap -/
theorem vx_rebase {T : State} (X : Stand p l e R s m args below meth c T locs cells slots) {R' : Room} (hf : R'.frames ≤ R.frames) (hl : R'.locals ≤ R.locals) (hc : cells + R'.cells ≤ R.cells) (hs : slots + R'.slots ≤ R.slots) :
    Stand p l e R' ((T.setVm s.vm).setFrames (.invoking m args :: below)) m args below meth c T [] 0 0 := by
  have htop : (T.setVm s.vm).topJava?.isSome := X.here.top
  have hF : ((T.setVm s.vm).setFrames (.invoking m args :: below)).frames = .invoking m args :: below := State.frames_setFrames _ (State.cur_lt_of_top htop)
  obtain ⟨g₀, hg0⟩ := Option.isSome_iff_exists.mp htop
  obtain ⟨r, hr⟩ := State.topJava?_eq_some.mp hg0
  have hl9 : e.platform.stackLimits (T.setVm s.vm).me = e.platform.stackLimits s.me := X.limits
  have hb9 : (T.setVm s.vm).me.stackBytes = s.me.stackBytes := X.bytes
  refine ⟨X.admits, X.cas, X.clock, hF, ?_, X.hears, X.method, X.code, X.here, X.tail, X.warmed, ?_, ?_, ?_⟩
  · have h := X.room
    have hU : ((T.setVm s.vm).setFrames (.invoking m args :: below)).localsInUse = s.localsInUse := by
      rw [State.localsInUse_invoking hF (meth := meth) (c := c) X.method X.code, State.localsInUse_invoking X.frames X.method X.code]
    simp only [State.hasRoom, Bool.and_eq_true, decide_eq_true_eq] at h ⊢
    obtain ⟨⟨⟨⟨h1, h2, h3, h4, h5, h6⟩, h7⟩, h8⟩, h9⟩ := h
    rw [X.frames, List.length_cons] at h2 h3
    have q1 := X.heapSize
    have q2 := X.used
    simp only [hF, hU, List.length_cons, State.stackLimits_setFrames, State.stackBytes_setFrames, hl9, hb9]
    refine ⟨⟨⟨⟨by omega, by omega, by omega, by omega, by omega, h6⟩, ?_⟩, ?_⟩, X.book⟩
    · show T.heap.size + R'.cells ≤ e.platform.maxCells
      omega
    · show T.slotsUsed + R'.slots ≤ e.platform.maxSlots
      omega
  · rw [State.stackLimits_setFrames]; rfl
  · rw [State.stackBytes_setFrames]; rfl
  · refine ⟨?_, Nat.le_refl _, Nat.le_refl _, ?_, ?_, fun a c9 h9 => ⟨c9, h9, rfl, rfl, fun _ _ => rfl⟩⟩
    · obtain ⟨t, ht, -⟩ := State.frames_cons hr
      show T.setVm s.vm = { ((T.setVm s.vm).setFrames (.invoking m args :: below)).setFrames (T.setVm s.vm).frames with heap := T.heap, slotsUsed := T.slotsUsed }
      rw [State.setFrames_setFrames, State.setFrames_self ht]
      rfl
    · show T.slotsUsed = T.slotsUsed + ((T.heap.toList.drop T.heap.size).map (·.slots.size)).sum
      rw [List.drop_eq_nil_of_le (Nat.le_of_eq Array.length_toList)]
      rfl
    · show ((T.heap.toList.drop T.heap.size).map (·.slots.size)).sum ≤ 0
      rw [List.drop_eq_nil_of_le (Nat.le_of_eq Array.length_toList)]
      exact Nat.le_refl _
/-- 'throw new E()': new; dup; invokespecial; athrow -/
theorem vx_throw0 {cc : ByteArray} {pc : Nat} (hexec : p.tables.exec = Jvm.exec) (hb : c.code = cc) (hl : l.stackTraces = false) {own cls : String} {names : List String} {ik ic mc ms : Nat} {A : Nat → Prop}
    (hown : s.vm.findClass own = some m.cls) (hcls : Bundle.fit cls = true) (hnames : ∀ n ∈ names, Bundle.fit n = true)
    (hk : (Cond.classLink own ik cls).before args s = true) (hini : (Cond.initialized cls).before args s = true) (hat : ∀ w ∈ vx_at0 own ic cls names, w.before args s = true)
    (hgood : ∀ w ∈ Cond.classLink own ik cls :: Cond.initialized cls :: vx_at0 own ic cls names, vx_ot w = true)
    (hU : vx_Zq Bundle.tN "UNASSIGNED_STACK" Bundle.steD A s s.heap) (hN : vx_Zq Bundle.tN "SUPPRESSED_SENTINEL" Bundle.listD A s s.heap) (hS : va_S A s.heap H locs) (hsize : ls.size = c.maxLocals)
    (d0 : decode cc pc = .ok (.new ik, 3)) (d3 : decode cc (pc + 3) = .ok (.dup, 1)) (d4 : decode cc (pc + 4) = .ok (.invokespecial ic, 3)) (d7 : decode cc (pc + 7) = .ok (.athrow, 1))
    (hout : ∀ x ∈ c.exceptionTable.toList, covers x (pc + 7) = false)
    (hRframes : names.length + 3 < R.frames) (hRlocals : (rest.map fun v => v.category).sum + (13 * (names.length + 1) + 42) ≤ R.locals) (hRcells : cells + 1 ≤ R.cells) (hRslots : slots + 6 ≤ R.slots) (hlocks : meth.locks = false)
    (hx : ∀ t : State, s.vm.Alike t.vm → H.size ≤ t.heap.size → (∀ q : Nat, q < H.size → t.heap[q]? = H[q]?) → XC cls s t)
    (hf : ∀ z ∈ locs, free z.base) (hc : cells + 1 ≤ mc) (hs : slots + 6 ≤ ms) :
    W p l e R s m args below meth c H locs cells slots (vx_MQ below Qc XC args s mc ms free) (F0 m pc ls rest) := by
  intro T hT X
  have htr : e.platform.stackTraces = false := (show e.platform.stackTraces = l.stackTraces by rw [X.admits.platform]).trans hl
  have Y := vx_rebase X (R' := { frames := R.frames, locals := R.locals, cells := 1, slots := 6 }) (Nat.le_refl _) (Nat.le_refl _) hRcells hRslots
  obtain ⟨s', hA⟩ : ∃ z, z = (T.setVm s.vm).setFrames (.invoking m args :: below) := ⟨_, rfl⟩
  rw [← hA] at Y
  have hvm : s'.vm = s.vm := by rw [hA]; rfl
  have hhp : s'.heap = H := by rw [hA]; exact hT
  have hW0 : s.WarmedH s'.vm := by rw [hvm]; exact State.WarmedH.refl s
  have hat' : ∀ w ∈ vx_at0 own ic cls names, w.before args s' = true := fun w hw => vx_ot_at hW0 hvm.symm (hgood w (List.mem_cons_of_mem _ (List.mem_cons_of_mem _ hw))) (hat w hw)
  have hk' : (Cond.classLink own ik cls).before args s' = true := vx_ot_at hW0 hvm.symm (hgood _ List.mem_cons_self) hk
  have hini' : (Cond.initialized cls).before args s' = true := vx_ot_at hW0 hvm.symm (hgood _ (List.mem_cons_of_mem _ List.mem_cons_self)) hini
  have hU' : vx_Zq Bundle.tN "UNASSIGNED_STACK" Bundle.steD A s' s'.heap := by rw [hhp]; exact vx_Zq.moved hW0.alike (hU.kept hS.2.1)
  have hN' : vx_Zq Bundle.tN "SUPPRESSED_SENTINEL" Bundle.listD A s' s'.heap := by rw [hhp]; exact vx_Zq.moved hW0.alike (hN.kept hS.2.1)
  have h : ∀ w ∈ Bundle.ownAtoms0 own ic cls names, w.before args s' = true := vx_own hat' (vx_isRefq hU'.1) (vx_isRefq hN'.1) hU'.2.word hN'.2.word
  have hown' : s'.vm.findClass own = some m.cls := by rw [hvm]; exact hown
  have hins : (Cond.instantiable cls 6).before args s' = true := h _ (by simp [Bundle.ownAtoms0])
  obtain ⟨vm₁, cX, kX, hfX, hkX, -, -, X₁, st1⟩ := Y.newCold hexec (own := own) (C := cls) (index := ik) (n := 6) hown' hk' hins hini'
    (g := F0 m pc ls rest) rfl (by rw [hb]; exact d0) (Nat.le_refl _) (Nat.le_refl _)
  generalize hT1 : (T.setVm vm₁).pushCell { cls := cX, slots := kX.instanceTypes.map defaultValue, vm := .none } = T1 at X₁ st1
  have hcat : (Value.ref T.heap.size).category = 1 := rfl
  have hcellA : T1.heap[T.heap.size]? = some (freshCell cX kX) := by rw [← hT1]; exact State.heap_pushCell_size _ _
  have d3' : decode c.code (pc + 3) = .ok (.dup, 1) := by rw [hb]; exact d3
  obtain ⟨U, hsteps, hrun, hend, hW, hsame, ce, hce, hO⟩ := X₁.ctorThrow0 hexec htr (own := own) (cls := cls) (names := names) (ic := ic) hown' hcls hnames h (fun x hx => nomatch hx) hfX hkX hcellA (by rw [hhp, hT]; exact Nat.le_refl _)
    (g := { method := m, pc := pc + 4, locals := ls, stack := .ref T.heap.size :: .ref T.heap.size :: rest, locked := none }) rfl hsize rfl rfl (rest := rest) rfl
    (by rw [hb]; exact d4) (by rw [hb]; exact d7) hout hRframes (by simp only [List.map_cons, List.sum_cons, hcat]; omega) hlocks
  obtain ⟨f1, f2⟩ := vx_frame hsame
  rw [hhp] at f1 f2
  have hWs : s.WarmedH U.vm := State.WarmedH.trans hW0 hW
  have hcl : s.vm.findClass cls = some ce.cls := by
    have h9 := hO.cls
    rw [hvm] at h9
    exact h9
  have hall : s.sameButNew ({ U with vm := s.vm } : State) locs mc ms := by
    subst hA
    obtain ⟨e1, e2⟩ := hsame
    rw [State.setFrames_setFrames] at e1
    have h2 : (T.setVm s.vm).sameButNew ({ U with vm := s.vm } : State) [] (0 + 1) (0 + 6) := ⟨e1, e2⟩
    have h3 := X.same.trans h2
    rw [List.append_nil] at h3
    exact h3.mono hc hs
  refine ⟨U, ?_, .threw T.heap.size, hrun, hend, Or.inr ⟨T.heap.size, rfl, cls, ce, locs, hx U hWs.alike f1 (fun q hq => f2 q hq (fun z hz => nomatch hz)), hce, hO.vm, hcl, hWs, hall, hf⟩⟩
  refine st1 _ ?_
  show Steps p.tables e below (T1.setTop { method := m, pc := pc + 3, locals := ls, stack := .ref T.heap.size :: rest, locked := none }) _
  jvm_step X₁.here [X₁.here.top, hexec, d3', Value.category]
  exact hsteps
/-- 'throw new E("text")': new; dup; ldc; invokespecial; athrow -/
theorem vx_throwS {cc : ByteArray} {pc : Nat} (hexec : p.tables.exec = Jvm.exec) (hb : c.code = cc) (hl : l.stackTraces = false) {own cls text : String} {names : List String} {ik is ic mc ms sa : Nat} {A : Nat → Prop}
    (hown : s.vm.findClass own = some m.cls) (hcls : Bundle.fit cls = true) (hnames : ∀ n ∈ names, Bundle.fit n = true)
    (hk : (Cond.classLink own ik cls).before args s = true) (hini : (Cond.initialized cls).before args s = true) (hstr : vk_R own is text sa s) (hat : ∀ w ∈ vx_atS own ic cls names, w.before args s = true)
    (hgood : ∀ w ∈ Cond.classLink own ik cls :: Cond.initialized cls :: vx_atS own ic cls names, vx_ot w = true)
    (hU : vx_Zq Bundle.tN "UNASSIGNED_STACK" Bundle.steD A s s.heap) (hN : vx_Zq Bundle.tN "SUPPRESSED_SENTINEL" Bundle.listD A s s.heap) (hS : va_S A s.heap H locs) (hsize : ls.size = c.maxLocals)
    (d0 : decode cc pc = .ok (.new ik, 3)) (d3 : decode cc (pc + 3) = .ok (.dup, 1)) (d4 : decode cc (pc + 4) = .ok (.ldc is, 2)) (d6 : decode cc (pc + 6) = .ok (.invokespecial ic, 3)) (d9 : decode cc (pc + 9) = .ok (.athrow, 1))
    (hout : ∀ x ∈ c.exceptionTable.toList, covers x (pc + 9) = false)
    (hRframes : names.length + 3 < R.frames) (hRlocals : (rest.map fun v => v.category).sum + (13 * (names.length + 1) + 43) ≤ R.locals) (hRcells : cells + 1 ≤ R.cells) (hRslots : slots + 6 ≤ R.slots) (hlocks : meth.locks = false)
    (hx : ∀ t : State, s.vm.Alike t.vm → H.size ≤ t.heap.size → (∀ q : Nat, q < H.size → t.heap[q]? = H[q]?) → XC cls s t)
    (hf : ∀ z ∈ locs, free z.base) (hc : cells + 1 ≤ mc) (hs : slots + 6 ≤ ms) :
    W p l e R s m args below meth c H locs cells slots (vx_MQ below Qc XC args s mc ms free) (F0 m pc ls rest) := by
  intro T hT X
  have htr : e.platform.stackTraces = false := (show e.platform.stackTraces = l.stackTraces by rw [X.admits.platform]).trans hl
  have Y := vx_rebase X (R' := { frames := R.frames, locals := R.locals, cells := 1, slots := 6 }) (Nat.le_refl _) (Nat.le_refl _) hRcells hRslots
  obtain ⟨s', hA⟩ : ∃ z, z = (T.setVm s.vm).setFrames (.invoking m args :: below) := ⟨_, rfl⟩
  rw [← hA] at Y
  have hvm : s'.vm = s.vm := by rw [hA]; rfl
  have hhp : s'.heap = H := by rw [hA]; exact hT
  have hW0 : s.WarmedH s'.vm := by rw [hvm]; exact State.WarmedH.refl s
  have hat' : ∀ w ∈ vx_atS own ic cls names, w.before args s' = true := fun w hw => vx_ot_at hW0 hvm.symm (hgood w (List.mem_cons_of_mem _ (List.mem_cons_of_mem _ hw))) (hat w hw)
  have hk' : (Cond.classLink own ik cls).before args s' = true := vx_ot_at hW0 hvm.symm (hgood _ List.mem_cons_self) hk
  have hini' : (Cond.initialized cls).before args s' = true := vx_ot_at hW0 hvm.symm (hgood _ (List.mem_cons_of_mem _ List.mem_cons_self)) hini
  have hU' : vx_Zq Bundle.tN "UNASSIGNED_STACK" Bundle.steD A s' s'.heap := by rw [hhp]; exact vx_Zq.moved hW0.alike (hU.kept hS.2.1)
  have hN' : vx_Zq Bundle.tN "SUPPRESSED_SENTINEL" Bundle.listD A s' s'.heap := by rw [hhp]; exact vx_Zq.moved hW0.alike (hN.kept hS.2.1)
  have h : ∀ w ∈ Bundle.ownAtoms own ic cls names, w.before args s' = true := vx_own hat' (vx_isRefq hU'.1) (vx_isRefq hN'.1) hU'.2.word hN'.2.word
  have hown' : s'.vm.findClass own = some m.cls := by rw [hvm]; exact hown
  have hins : (Cond.instantiable cls 6).before args s' = true := h _ (by simp [Bundle.ownAtoms])
  obtain ⟨vm₁, cX, kX, hfX, hkX, -, -, X₁, st1⟩ := Y.newCold hexec (own := own) (C := cls) (index := ik) (n := 6) hown' hk' hins hini'
    (g := F0 m pc ls rest) rfl (by rw [hb]; exact d0) (Nat.le_refl _) (Nat.le_refl _)
  generalize hT1 : (T.setVm vm₁).pushCell { cls := cX, slots := kX.instanceTypes.map defaultValue, vm := .none } = T1 at X₁ st1
  have hcat : (Value.ref T.heap.size).category = 1 := rfl
  have hcellA : T1.heap[T.heap.size]? = some (freshCell cX kX) := by rw [← hT1]; exact State.heap_pushCell_size _ _
  have d3' : decode c.code (pc + 3) = .ok (.dup, 1) := by rw [hb]; exact d3
  have d4' : decode c.code (pc + 4) = .ok (.ldc is, 2) := by rw [hb]; exact d4
  have hstr' : vk_R own is text sa s' := vk_R.warm hW0 hstr
  obtain ⟨U, hsteps, hrun, hend, hW, hsame, ce, hce, hO⟩ := X₁.ctorThrowS hexec htr (own := own) (cls := cls) (names := names) (ic := ic) hown' hcls hnames h (fun x hx => nomatch hx) hfX hkX hcellA (by rw [hhp, hT]; exact Nat.le_refl _) (msg := .ref sa) rfl
    (g := { method := m, pc := pc + 6, locals := ls, stack := .ref sa :: .ref T.heap.size :: .ref T.heap.size :: rest, locked := none }) rfl hsize rfl rfl (rest := rest) rfl
    (by rw [hb]; exact d6) (by rw [hb]; exact d9) hout hRframes (by simp only [List.map_cons, List.sum_cons, hcat]; omega) hlocks
  obtain ⟨f1, f2⟩ := vx_frame hsame
  rw [hhp] at f1 f2
  have hWs : s.WarmedH U.vm := State.WarmedH.trans hW0 hW
  have hcl : s.vm.findClass cls = some ce.cls := by
    have h9 := hO.cls
    rw [hvm] at h9
    exact h9
  have hall : s.sameButNew ({ U with vm := s.vm } : State) locs mc ms := by
    subst hA
    obtain ⟨e1, e2⟩ := hsame
    rw [State.setFrames_setFrames] at e1
    have h2 : (T.setVm s.vm).sameButNew ({ U with vm := s.vm } : State) [] (0 + 1) (0 + 6) := ⟨e1, e2⟩
    have h3 := X.same.trans h2
    rw [List.append_nil] at h3
    exact h3.mono hc hs
  refine ⟨U, ?_, .threw T.heap.size, hrun, hend, Or.inr ⟨T.heap.size, rfl, cls, ce, locs, hx U hWs.alike f1 (fun q hq => f2 q hq (fun z hz => nomatch hz)), hce, hO.vm, hcl, hWs, hall, hf⟩⟩
  refine st1 _ ?_
  show Steps p.tables e below (T1.setTop { method := m, pc := pc + 3, locals := ls, stack := .ref T.heap.size :: rest, locked := none }) _
  jvm_step X₁.here [X₁.here.top, hexec, d3', Value.category]
  exact X₁.ldcString hexec (own := own) (text := text) (index := is) (a := sa) hown' hstr'.1 hstr'.2
    (g := { method := m, pc := pc + 4, locals := ls, stack := .ref T.heap.size :: .ref T.heap.size :: rest, locked := none }) rfl d4' _ hsteps
/-- 'throw new E("text")', the text by a wide index -/
theorem vx_throwSW {cc : ByteArray} {pc : Nat} (hexec : p.tables.exec = Jvm.exec) (hb : c.code = cc) (hl : l.stackTraces = false) {own cls text : String} {names : List String} {ik is ic mc ms sa : Nat} {A : Nat → Prop}
    (hown : s.vm.findClass own = some m.cls) (hcls : Bundle.fit cls = true) (hnames : ∀ n ∈ names, Bundle.fit n = true)
    (hk : (Cond.classLink own ik cls).before args s = true) (hini : (Cond.initialized cls).before args s = true) (hstr : vk_R own is text sa s) (hat : ∀ w ∈ vx_atS own ic cls names, w.before args s = true)
    (hgood : ∀ w ∈ Cond.classLink own ik cls :: Cond.initialized cls :: vx_atS own ic cls names, vx_ot w = true)
    (hU : vx_Zq Bundle.tN "UNASSIGNED_STACK" Bundle.steD A s s.heap) (hN : vx_Zq Bundle.tN "SUPPRESSED_SENTINEL" Bundle.listD A s s.heap) (hS : va_S A s.heap H locs) (hsize : ls.size = c.maxLocals)
    (d0 : decode cc pc = .ok (.new ik, 3)) (d3 : decode cc (pc + 3) = .ok (.dup, 1)) (d4 : decode cc (pc + 4) = .ok (.ldc_w is, 3)) (d7 : decode cc (pc + 7) = .ok (.invokespecial ic, 3)) (d10 : decode cc (pc + 10) = .ok (.athrow, 1))
    (hout : ∀ x ∈ c.exceptionTable.toList, covers x (pc + 10) = false)
    (hRframes : names.length + 3 < R.frames) (hRlocals : (rest.map fun v => v.category).sum + (13 * (names.length + 1) + 43) ≤ R.locals) (hRcells : cells + 1 ≤ R.cells) (hRslots : slots + 6 ≤ R.slots) (hlocks : meth.locks = false)
    (hx : ∀ t : State, s.vm.Alike t.vm → H.size ≤ t.heap.size → (∀ q : Nat, q < H.size → t.heap[q]? = H[q]?) → XC cls s t)
    (hf : ∀ z ∈ locs, free z.base) (hc : cells + 1 ≤ mc) (hs : slots + 6 ≤ ms) :
    W p l e R s m args below meth c H locs cells slots (vx_MQ below Qc XC args s mc ms free) (F0 m pc ls rest) := by
  intro T hT X
  have htr : e.platform.stackTraces = false := (show e.platform.stackTraces = l.stackTraces by rw [X.admits.platform]).trans hl
  have Y := vx_rebase X (R' := { frames := R.frames, locals := R.locals, cells := 1, slots := 6 }) (Nat.le_refl _) (Nat.le_refl _) hRcells hRslots
  obtain ⟨s', hA⟩ : ∃ z, z = (T.setVm s.vm).setFrames (.invoking m args :: below) := ⟨_, rfl⟩
  rw [← hA] at Y
  have hvm : s'.vm = s.vm := by rw [hA]; rfl
  have hhp : s'.heap = H := by rw [hA]; exact hT
  have hW0 : s.WarmedH s'.vm := by rw [hvm]; exact State.WarmedH.refl s
  have hat' : ∀ w ∈ vx_atS own ic cls names, w.before args s' = true := fun w hw => vx_ot_at hW0 hvm.symm (hgood w (List.mem_cons_of_mem _ (List.mem_cons_of_mem _ hw))) (hat w hw)
  have hk' : (Cond.classLink own ik cls).before args s' = true := vx_ot_at hW0 hvm.symm (hgood _ List.mem_cons_self) hk
  have hini' : (Cond.initialized cls).before args s' = true := vx_ot_at hW0 hvm.symm (hgood _ (List.mem_cons_of_mem _ List.mem_cons_self)) hini
  have hU' : vx_Zq Bundle.tN "UNASSIGNED_STACK" Bundle.steD A s' s'.heap := by rw [hhp]; exact vx_Zq.moved hW0.alike (hU.kept hS.2.1)
  have hN' : vx_Zq Bundle.tN "SUPPRESSED_SENTINEL" Bundle.listD A s' s'.heap := by rw [hhp]; exact vx_Zq.moved hW0.alike (hN.kept hS.2.1)
  have h : ∀ w ∈ Bundle.ownAtoms own ic cls names, w.before args s' = true := vx_own hat' (vx_isRefq hU'.1) (vx_isRefq hN'.1) hU'.2.word hN'.2.word
  have hown' : s'.vm.findClass own = some m.cls := by rw [hvm]; exact hown
  have hins : (Cond.instantiable cls 6).before args s' = true := h _ (by simp [Bundle.ownAtoms])
  obtain ⟨vm₁, cX, kX, hfX, hkX, -, -, X₁, st1⟩ := Y.newCold hexec (own := own) (C := cls) (index := ik) (n := 6) hown' hk' hins hini'
    (g := F0 m pc ls rest) rfl (by rw [hb]; exact d0) (Nat.le_refl _) (Nat.le_refl _)
  generalize hT1 : (T.setVm vm₁).pushCell { cls := cX, slots := kX.instanceTypes.map defaultValue, vm := .none } = T1 at X₁ st1
  have hcat : (Value.ref T.heap.size).category = 1 := rfl
  have hcellA : T1.heap[T.heap.size]? = some (freshCell cX kX) := by rw [← hT1]; exact State.heap_pushCell_size _ _
  have d3' : decode c.code (pc + 3) = .ok (.dup, 1) := by rw [hb]; exact d3
  have d4' : decode c.code (pc + 4) = .ok (.ldc_w is, 3) := by rw [hb]; exact d4
  have hstr' : vk_R own is text sa s' := vk_R.warm hW0 hstr
  obtain ⟨U, hsteps, hrun, hend, hW, hsame, ce, hce, hO⟩ := X₁.ctorThrowS hexec htr (own := own) (cls := cls) (names := names) (ic := ic) hown' hcls hnames h (fun x hx => nomatch hx) hfX hkX hcellA (by rw [hhp, hT]; exact Nat.le_refl _) (msg := .ref sa) rfl
    (g := { method := m, pc := pc + 7, locals := ls, stack := .ref sa :: .ref T.heap.size :: .ref T.heap.size :: rest, locked := none }) rfl hsize rfl rfl (rest := rest) rfl
    (by rw [hb]; exact d7) (by rw [hb]; exact d10) hout hRframes (by simp only [List.map_cons, List.sum_cons, hcat]; omega) hlocks
  obtain ⟨f1, f2⟩ := vx_frame hsame
  rw [hhp] at f1 f2
  have hWs : s.WarmedH U.vm := State.WarmedH.trans hW0 hW
  have hcl : s.vm.findClass cls = some ce.cls := by
    have h9 := hO.cls
    rw [hvm] at h9
    exact h9
  have hall : s.sameButNew ({ U with vm := s.vm } : State) locs mc ms := by
    subst hA
    obtain ⟨e1, e2⟩ := hsame
    rw [State.setFrames_setFrames] at e1
    have h2 : (T.setVm s.vm).sameButNew ({ U with vm := s.vm } : State) [] (0 + 1) (0 + 6) := ⟨e1, e2⟩
    have h3 := X.same.trans h2
    rw [List.append_nil] at h3
    exact h3.mono hc hs
  refine ⟨U, ?_, .threw T.heap.size, hrun, hend, Or.inr ⟨T.heap.size, rfl, cls, ce, locs, hx U hWs.alike f1 (fun q hq => f2 q hq (fun z hz => nomatch hz)), hce, hO.vm, hcl, hWs, hall, hf⟩⟩
  refine st1 _ ?_
  show Steps p.tables e below (T1.setTop { method := m, pc := pc + 3, locals := ls, stack := .ref T.heap.size :: rest, locked := none }) _
  jvm_step X₁.here [X₁.here.top, hexec, d3', Value.category]
  exact X₁.ldcStringW hexec (own := own) (text := text) (index := is) (a := sa) hown' hstr'.1 hstr'.2
    (g := { method := m, pc := pc + 4, locals := ls, stack := .ref T.heap.size :: .ref T.heap.size :: rest, locked := none }) rfl d4' _ hsteps
end Ends
section Bodies
variable {l : Launch}
theorem vx_ofW {y : MethodName} {ws ws' : List Cond} {rm : Room} {Pc : Array Value → State → Prop} {Qc : Array Value → State → Outcome → State → Prop} {XC : String → State → State → Prop} {mc ms : Nat} {free : Addr → Prop} {cc : ByteArray} {maxL : Nat} {ret : Option FieldType}
    (hy : plainName y.cls = true) (hw : ws = Cond.code y cc maxL ret :: ws')
    (body : ∀ p e s m args below meth c s₁, BodyLoose p l y (headSpec ws rm) cc maxL ret e s m args below meth c s₁ → c.maxLocals = maxL → (∀ x ∈ c.exceptionTable.toList, False) → Pc args s →
      W p l e (headSpec ws rm).room s m args below meth c s.heap [] 0 0 (vx_MQ below Qc XC args s mc ms free) (entryFrame m args maxL)) : vx_Met l y ws rm Pc Qc XC mc ms free := by
  refine MetFree.of_bodyS (code := cc) (maxLocals := maxL) (ret := ret) hy ?_ ?_
  · intro args s m h hn
    obtain ⟨meth, c, h1, h2, h3, h4, h5, h6, -, -⟩ := Cond.code_spec hn (atoms_spec (ws := ws) h _ (by rw [hw]; exact List.mem_cons_self))
    exact ⟨meth, c, h1, h2, h3, h4, h5, h6⟩
  · intro p e s m args below meth c s₁ B hml hP _
    have hh0 : s₁.heap = s.heap := by rw [B.state]; rfl
    have ht : ∀ x ∈ c.exceptionTable.toList, False := by
      obtain ⟨meth9, c9, h1, h2, -, -, -, -, h7, -⟩ := Cond.code_spec B.named (atoms_spec (ws := ws) B.pre _ (by rw [hw]; exact List.mem_cons_self))
      cases Option.some.inj (h1.symm.trans B.method)
      cases Option.some.inj (h2.symm.trans (Stand.of_body B).code)
      intro x hx
      rw [Array.isEmpty_iff.mp h7] at hx
      cases hx
    obtain ⟨t, a1, o, b1, b2, b3⟩ := body p e s m args below meth c s₁ B hml ht hP s₁ hh0 (Stand.of_body B)
    exact ⟨t, o, a1, b1, b2, b3⟩
/-- the table of a body with handlers -/
theorem vx_table {p : Program} {x y : MethodName} {S : Spec} {cc bytes : ByteArray} {maxL maxL' : Nat} {ret ret' : Option FieldType} {e : Env} {s s₁ : State} {m : MethodId} {args : Array Value} {below : List Frame} {meth : Method} {c : Code} {hh : List (Nat × Nat × Nat × Nat)}
    (B : BodyLoose p l y S cc maxL ret e s m args below meth c s₁) (h : (Cond.codeWith y bytes maxL' ret' hh).before args s = true) : c.exceptionTable.toList = tableOf hh := by
  obtain ⟨m9, meth9, c9, hn9, h1, h2, -, -, h6, -⟩ := Cond.codeWith_spec h
  cases Option.some.inj (hn9.symm.trans B.named)
  cases Option.some.inj (h1.symm.trans B.method)
  cases Option.some.inj (h2.symm.trans (Stand.of_body B).code)
  rw [← h6, table_eq]
end Bodies
end VXA
/-! ===== END ===== -/
/-! ===== BEGIN a static call of a method with an exception table ===== -/
section VXS
variable {p : Program} {l : Launch} {e : Env} {R : Room} {s : State} {m : MethodId} {args : Array Value} {below : List Frame} {meth : Method} {c : Code} {T : State} {H : Heap} {locs : List Loc} {cells slots : Nat}
abbrev vx_CSW (R : Room) (s : State) (args : Array Value) (own : String) (index : Nat) (y : MethodName) (bytes : ByteArray) (maxL : Nat) (ret : Option FieldType) (hh : List (Nat × Nat × Nat × Nat)) (ws : List Cond) (rm : Room) (mc ms n : Nat) : Prop :=
  (rm.cells = mc ∧ rm.slots = ms ∧ rm.frames + 1 ≤ R.frames ∧ 8 + (maxL + 11) + rm.locals ≤ R.locals ∧ (∀ w ∈ ws, ∀ (a' : Array Value) (U : State), s.WarmedH U.vm → w.before a' U = true) ∧ Cond.codeWith y bytes maxL ret hh ∈ ws) ∧
  (Cond.codeWith y bytes maxL ret hh).before args s = true ∧ (Cond.initialized y.cls).before args s = true ∧ (y.cls ≠ "java/lang/invoke/MethodHandle" ∧ y.cls ≠ "java/lang/invoke/VarHandle") ∧
  (∀ sig, parseMethodDescriptor y.desc = some sig → n = sig.parameters.length) ∧ (Cond.methodLink own index y).before args s = true ∧ (Cond.static y).before args s = true
theorem vx_cwSW {own : String} {index maxL mc ms : Nat} {y : MethodName} {bytes : ByteArray} {ret : Option FieldType} {hh : List (Nat × Nat × Nat × Nat)} {Ts ws ws' : List Cond} {rm : Room} (n : Nat) (ht : ∀ w ∈ Ts, w.before args s = true) (hT : GoodIn Ts (va_wsS own index y ws)) (hw : ws = Cond.codeWith y bytes maxL ret hh :: ws') (hrc : rm.cells = mc) (hrs : rm.slots = ms)
    (hd : y.cls ≠ "java/lang/invoke/MethodHandle" ∧ y.cls ≠ "java/lang/invoke/VarHandle" ∧ (parseMethodDescriptor y.desc).map (fun d => d.parameters.length) = some n) (hR : rm.frames + 1 ≤ R.frames ∧ 8 + (maxL + 11) + rm.locals ≤ R.locals) :
    vx_CSW R s args own index y bytes maxL ret hh ws rm mc ms n := by
  have ok : ∀ w ∈ va_wsS own index y ws, w.before args s = true := fun w h => ht w (hT w h).1
  have hG : GoodIn Ts ws := fun w h => hT w (by unfold va_wsS; exact List.mem_append_right _ h)
  have hc : Cond.codeWith y bytes maxL ret hh ∈ ws := by rw [hw]; exact List.mem_cons_self
  refine ⟨⟨hrc, hrs, hR.1, hR.2, pay_in ht hG, hc⟩, ht _ (hG _ hc).1, ok _ (by simp [va_wsS]), ⟨hd.1, hd.2.1⟩, fun sig h => ?_, ok _ (by simp [va_wsS]), ok _ (by simp [va_wsS])⟩
  have h2 := hd.2.2
  rw [h] at h2
  exact (Option.some.inj h2).symm
theorem vx_callSW (X : Stand p l e R s m args below meth c T locs cells slots) (hexec : p.tables.exec = Jvm.exec) {own : String} {index : Nat} {y : MethodName} {bytes : ByteArray} {maxL : Nat} {ret : Option FieldType} {hh : List (Nat × Nat × Nat × Nat)}
    (hown : s.vm.findClass own = some m.cls) (hlink : (Cond.methodLink own index y).before args s = true) (hstat : (Cond.static y).before args s = true) (hinit : (Cond.initialized y.cls).before args s = true)
    (hcode : (Cond.codeWith y bytes maxL ret hh).before args s = true) (hy : y.cls ≠ "java/lang/invoke/MethodHandle" ∧ y.cls ≠ "java/lang/invoke/VarHandle")
    {W9 : Nat} {Pre : Pt → Array Value → Prop} {Post : Pt → Array Value → Option Value → Pt → Prop} (hK : Back l R p e below s args y 3 W9 Pre Post)
    {g : JFrame} (hg : g.method = m) (hsize : g.locals.size = c.maxLocals) {argsL rest : List Value} (hlen : ∀ sig, parseMethodDescriptor y.desc = some sig → argsL.length = sig.parameters.length)
    (hstack : g.stack = argsL.reverse ++ rest) (hW : 2 * g.monitorRoom + (rest.map fun v => v.category).sum ≤ W9) (hdg : decode c.code g.pc = .ok (.invokestatic index, 3))
    (hpre : ∀ vm₁, s.WarmedH vm₁ → Pre ⟨T.setVm vm₁, locs, cells, slots⟩ argsL.toArray) :
    ∃ (v : Option Value) (vm₁ : Vm) (B : Pt), s.WarmedH vm₁ ∧ Stand p l e R s m args below meth c B.U B.locs B.cells B.slots ∧ Post ⟨T.setVm vm₁, locs, cells, slots⟩ argsL.toArray v B ∧
      ∀ target, Steps p.tables e below (B.U.setTop { g with pc := g.pc + 3, stack := v.toList ++ rest }) target → Steps p.tables e below (T.setTop g) target := by
  obtain ⟨mk, methM, cM, hnamed, hmethM, -, -, -, -, -, -, hsigM⟩ := Cond.codeWith_spec hcode
  have hstatic : methM.isStatic = true := Cond.static_spec hnamed hmethM hstat
  obtain ⟨kP, hkP, -⟩ := className_of_methodNamed hnamed
  have hinitP : kP.init = .initialized := Cond.initialized_spec (findClass_of_methodNamed hnamed) hkP hinit
  obtain ⟨vm₁, X₁, hstep₁⟩ := X.invokestatic hexec hown hlink hnamed hmethM hstatic hkP hinitP hy (g := g) hg (argsL := argsL) (rest := rest) (hlen _ hsigM) hstack hdg
  obtain ⟨v, B, X', hpost, hsteps⟩ := hK m meth c ⟨T.setVm vm₁, locs, cells, slots⟩ { g with stack := rest } (.invokestatic index) mk argsL.toArray X₁ hg hsize hdg hW (X₁.named hnamed) (hpre vm₁ X₁.warmed)
  exact ⟨v, vm₁, B, X₁.warmed, X', hpost, fun target h => hstep₁ _ fun acts => by rw [doInvoke_state]; exact hsteps.trans h⟩
theorem vx_runSW {y : MethodName} {bytes cc : ByteArray} {maxL nL mc ms n index : Nat} {ret : Option FieldType} {hh : List (Nat × Nat × Nat × Nat)} {ws : List Cond} {rm : Room} {Pc : Array Value → State → Prop} {Qc : Array Value → State → Outcome → State → Prop} {free : Addr → Prop} {Ts : List Cond} {own : String} {As rest : List Value} {g : JFrame}
    (S : CallFix p m c cc nL s args Ts own) (hM : Met l y ws rm Pc Qc mc ms free) (cw : vx_CSW R s args own index y bytes maxL ret hh ws rm mc ms n) (hp : PreS s H Pc As)
    (hg : g.method = m) (hn : As.length = n) (hsize : g.locals.size = nL) (hstack : g.stack = As.reverse ++ rest) (hW : 2 * g.monitorRoom + (rest.map fun v => v.category).sum ≤ 8) (hdg : decode cc g.pc = .ok (.invokestatic index, 3)) (hf : cells + mc ≤ R.cells ∧ slots + ms ≤ R.slots) :
    va_Run p l e R s m args below meth c H locs cells slots mc ms g rest (Qc As.toArray) (free) := by
  obtain ⟨⟨hrc, hrs, hfr, hlo, hws, hcw⟩, hcode, hini, hy, hlen, hl, hstt⟩ := cw
  have hK : Back l R p e below s args y 3 8 (PreOf R mc ms Pc) (PostOf Qc mc ms free) := va_backW (hh := hh) (bytes := bytes) (maxL := maxL) (ret := ret) hM hp.1 hrc hrs hfr hlo hws hcw (fun a' U hW => word_at hW (Or.inl (by first | rfl | simp [Cond.onTables, Cond.keeps, Cond.steady])) hini)
  obtain ⟨hx, hb, hml, ho, -⟩ := S
  intro T hT X
  obtain ⟨v, vm₁, ⟨U', l2, c2, s2⟩, hW₁, X', ⟨g', mk, t, L, e1, e2, hq, h1, hL, h2, h3⟩, st⟩ := vx_callSW X hx (hh := hh) (bytes := bytes) (maxL := maxL) (ret := ret) ho hl hstt hini hcode hy hK hg (hsize.trans hml.symm) (argsL := As) (rest := rest) (fun sig h => hn.trans (hlen sig h)) hstack hW (by rw [hb]; exact hdg)
    (fun vm₁ hW₁ => ⟨hf.1, hf.2, hp.2 (T.setVm vm₁) hT hW₁⟩)
  dsimp only [Pt.U, Pt.locs, Pt.cells, Pt.slots] at X' e1 e2 h1 h2 h3 st
  subst h1; subst h2; subst h3
  exact ⟨v, (T.setVm vm₁).calling g' mk As.toArray, t, U', L, hT, X', hL, e1, e2, hq, st⟩
/-- not caught here, past rows that name other classes: it goes on to the caller -/
theorem vx_outP {p : Program} {l : Launch} {e : Env} {R : Room} {s : State} {m : MethodId} {args : Array Value} {below : List Frame} {meth : Method} {c : Code} {H : Heap} {locs : List Loc} {cells slots : Nat} {free : Addr → Prop} {ls : Array Slot} {rest : List Value} {Qc : Array Value → State → Outcome → State → Prop} {XC : String → State → State → Prop}
    {pc : Nat} {own E : String} {ce : Cell} {q : Addr} {mc ms : Nat} (hown : s.vm.findClass own = some m.cls) (hlocks : meth.locks = false)
    (hpass : ∀ z ∈ c.exceptionTable.toList, covers z pc = false ∨ (z.catchType ≠ 0 ∧ ∃ nm : String, (Cond.classLink own z.catchType nm).before args s = true ∧ va_Nc E nm s)) (hcell : H[q]? = some ce) (hv : ce.vm = .none) (hcl : s.vm.findClass E = some ce.cls)
    (hx : ∀ t : State, t.heap = H → s.vm.Alike t.vm → XC E s t) (hf : ∀ z ∈ locs, free z.base) (hc : cells ≤ mc) (hs : slots ≤ ms) :
    vx_W p l e R s m args below meth c H locs cells slots (vx_MQ below Qc XC args s mc ms free) (F0 m pc ls rest) q := by
  intro T hT X
  have hpl : e.platform.magicAccessors = ({} : Platform).magicAccessors := by rw [X.admits.platform]
  obtain ⟨vm', hW', X', st⟩ := X.outThrough hlocks q (g := F0 m pc ls rest) rfl rfl rfl (cell := ce) (by rw [hT]; exact hcell) (by rw [hv]; rfl)
    (by obtain ⟨k9, h9, -⟩ := Vm.findClass_spec hcl; exact ⟨k9, h9⟩) (fun z hz => by
      rcases hpass z hz with h | ⟨hz0, nm, hl1, hn1⟩
      · exact Or.inl h
      · obtain ⟨c6, hc6, hcl6⟩ := Cond.classLink_spec hown hl1 e.platform hpl
        obtain ⟨a8, b8, h1, h2, h3⟩ := hn1
        cases Option.some.inj (h1.symm.trans hcl)
        cases Option.some.inj (h2.symm.trans hc6)
        exact Or.inr ⟨hz0, _, hcl6, h3⟩)
  obtain ⟨g₀, hfr⟩ := X'.frames_eq
  have hcell9 : ((T.setVm vm').setFrames (.throwing q :: below)).heap[q]? = some ce := by
    show T.heap[q]? = some ce
    rw [hT]; exact hcell
  have hend : Ended ((T.setVm vm').setFrames (.throwing q :: below)) below (.threw q) := State.frames_setFrames _ (State.cur_lt_of_frames hfr)
  refine ⟨(T.setVm vm').setFrames (.throwing q :: below), ?_, .threw q, X'.here.running, hend, Or.inr ⟨q, rfl, E, ce, locs, hx _ hT (X'.ends _).1.alike, hcell9, hv, hcl, (X'.ends _).1, (X'.ends _).2.mono hc hs, hf⟩⟩
  rw [X.pushThrowing_eq]
  exact st
/-- a thing of a world lies in the heap -/
theorem vx_lt {D : va_G} {cl : List vw_C} {ws : va_W} {H1 : Heap} (h : va_P D cl ws H1) {k : Nat} {q : Nat × va_E} (hk : ws[k]? = some q) : q.1 < H1.size := (h k q hk).lt
end VXS
/-! ===== END ===== -/
/-! ===== BEGIN methods with a table of their own: called by a name, returning or throwing ===== -/
section VXH
/-! vx_backW, vx_callVX, vx_callSX, vx_callVW, vx_runVW, vx_runVX, vx_runSX, vx_ofWH follow the same proofs as their sisters above (Free/Laws.lean, Shelf42/LK1.lean); vx_outP calls Shelf42/NT130.lean (outThrough). -/
section
variable {l : Launch} {R : Room} {p : Program} {e : Env} {below : List Frame} {s : State} {sargs : Array Value} {y : MethodName} {len W9 : Nat}
theorem vx_backW {ws : List Cond} {rm : Room} {Pc : Array Value → State → Prop} {Qc : Array Value → State → Outcome → State → Prop} {XC : String → State → State → Prop} {mc ms : Nat} {free : Addr → Prop} {bytes : ByteArray} {maxL : Nat} {ret : Option FieldType} {hh : List (Nat × Nat × Nat × Nat)}
    (hM : vx_Met l y ws rm Pc Qc XC mc ms free) (hblind : FrameBlind Pc) (hrc : rm.cells = mc) (hrs : rm.slots = ms)
    (hframes : rm.frames + 1 ≤ R.frames) (hlocals : W9 + (maxL + 11) + rm.locals ≤ R.locals)
    (hws : ∀ w ∈ ws, ∀ a' U, s.WarmedH U.vm → w.before a' U = true) (hcode : Cond.codeWith y bytes maxL ret hh ∈ ws) (hinit : ∀ a' U, s.WarmedH U.vm → (Cond.initialized y.cls).before a' U = true) :
    vx_Back l R p e below s sargs y len W9 (PreOf R mc ms Pc) (PostOf Qc mc ms free) (vx_Post XC mc ms free) := by
  intro m meth c A g ig mk a X hg hsize hdg hW hn hp
  have h1 : (headSpec ws rm).pre.before a A.U = true := atoms_intro fun w hw => hws w hw _ _ X.warmed
  have h2 : (Cond.codeWith y bytes maxL ret hh).before a A.U = true := hws _ hcode _ _ X.warmed
  have h3 : (Cond.initialized y.cls).before a A.U = true := hinit _ _ X.warmed
  have h4 : A.cells + (headSpec ws rm).room.cells ≤ R.cells := by rw [show (headSpec ws rm).room.cells = mc from hrc]; exact hp.1
  have h5 : A.slots + (headSpec ws rm).room.slots ≤ R.slots := by rw [show (headSpec ws rm).room.slots = ms from hrs]; exact hp.2.1
  have hPc : Pc a (A.U.calling g mk a) := hblind _ _ _ _ hp.2.2
  obtain ⟨U, Ls, c0, s0⟩ := A
  dsimp only [Pt.U, Pt.locs, Pt.cells, Pt.slots] at h1 h2 h3 h4 h5 X hn hPc ⊢
  obtain ⟨m9, methY, cY, hn9, hmY, hcY, -, hlY, -⟩ := Cond.codeWith_spec h2
  cases Option.some.inj (hn9.symm.trans hn)
  obtain ⟨kY, hkY, -⟩ := className_of_methodNamed hn
  have hinitY : kY.init = .initialized := Cond.initialized_spec (findClass_of_methodNamed hn) hkY h3
  have h : At U g.method c below := by rw [hg]; exact X.here
  have hlocals9 : W9 + (maxL + 11) + (headSpec ws rm).room.locals ≤ R.locals := hlocals
  have happ : (headSpec ws rm).appliesLoose y e.platform (U.calling g mk a) = true :=
    Spec.appliesLoose_calling (g := g) h hdg hn hkY hinitY
      (X.room_calling (g := g) (R' := (headSpec ws rm).room) hsize hmY hcY hframes (by rw [hlY]; omega) h4 h5) h1
  obtain ⟨mid, hmid⟩ := h.above
  have hfr : (U.setTop g).frames = (.java g :: mid) ++ below := by rw [State.frames_setTop' g h.top, hmid]; rfl
  obtain ⟨o, s₂, hsteps, -, hend, hq⟩ := Steps.callFree hM p X.admits X.cas X.clock (acts := []) hfr happ hPc trivial
  have hq' : vx_Q Qc XC mc ms free a (U.calling g mk a) o s₂ := hq
  rw [State.frames_setTop' g h.top] at hend
  obtain ⟨g₀, hg0⟩ := Option.isSome_iff_exists.mp h.top
  obtain ⟨r, hr⟩ := State.topJava?_eq_some.mp hg0
  have hr' : (({ U with heap := s₂.heap, slotsUsed := s₂.slotsUsed } : State).setVm s₂.vm).frames = .java g₀ :: r := hr
  rcases hq' with ⟨hqc, L, hfe, hL⟩ | ⟨q, rfl, E, ce, L, hx, hce, hcv, hcl, hW₂, hsm, hL⟩
  · obtain ⟨⟨v, rfl⟩, hW₂, e2, q2, q3, q4, q5, q6⟩ := id hfe
    have e3 : s₂ = ({ (U.calling g mk a).setFrames s₂.frames with heap := s₂.heap, slotsUsed := s₂.slotsUsed } : State).setVm s₂.vm := by
      have : s₂ = ({ s₂ with vm := (U.calling g mk a).vm } : State).setVm s₂.vm := rfl
      rw [e2] at this
      exact this
    obtain ⟨c₂, i₂, len₂, hc₂, hd₂, hf₂⟩ := hend
    have hW' : U.WarmedH s₂.vm := hW₂
    have hcc : c₂ = c := by
      have h1 : s₂.code? g.method = U.code? g.method := by
        rw [State.code?_eq, State.code?_eq, hW'.alike.method?]
      exact Option.some.inj (hc₂.symm.trans (h1.trans h.code))
    subst hcc
    have hlen : len₂ = len := by rw [hdg] at hd₂; cases hd₂; rfl
    subst hlen
    have hs₂ : s₂ = (({ U with heap := s₂.heap, slotsUsed := s₂.slotsUsed } : State).setVm s₂.vm).setTop { g with pc := g.pc + len₂, stack := v.toList ++ g.stack } := by
      refine e3.trans ?_
      rw [hf₂, State.calling_eq h.top, State.setFrames_setFrames, State.setTop_of_frames _ hr', hr]
      rfl
    have hsame : U.sameButNew ({ U with heap := s₂.heap, slotsUsed := s₂.slotsUsed } : State) L mc ms := by
      refine ⟨?_, q2, q3, q4, q5, q6⟩
      obtain ⟨t, ht, -⟩ := State.frames_cons hr
      show ({ U with heap := s₂.heap, slotsUsed := s₂.slotsUsed } : State) = { U.setFrames U.frames with heap := s₂.heap, slotsUsed := s₂.slotsUsed }
      rw [State.setFrames_self ht]
    subst hg
    refine Or.inl ⟨v, ⟨(({ U with heap := s₂.heap, slotsUsed := s₂.slotsUsed } : State).setVm s₂.vm), Ls ++ L, c0 + mc, s0 + ms⟩,
      ⟨X.admits, X.cas, X.clock, X.frames, X.room, X.hears, X.method, X.code, (X.here.setHeapUsed s₂.heap s₂.slotsUsed).setVm hW'.alike, X.tail, State.WarmedH.trans X.warmed hW', X.limits, X.bytes, X.same.trans (hsame.setVm s.vm)⟩,
      ⟨g, mk, s₂, L, rfl, rfl, hqc, rfl, hL, rfl, rfl⟩, ?_⟩
    show Steps p.tables e below _ ((({ U with heap := s₂.heap, slotsUsed := s₂.slotsUsed } : State).setVm s₂.vm).setTop { g with pc := g.pc + len₂, stack := v.toList ++ g.stack })
    rw [← hs₂]
    exact hsteps
  · obtain ⟨e2, q2, q3, q4, q5, q6⟩ := id hsm
    have e3 : s₂ = ({ (U.calling g mk a).setFrames s₂.frames with heap := s₂.heap, slotsUsed := s₂.slotsUsed } : State).setVm s₂.vm := by
      have : s₂ = ({ s₂ with vm := (U.calling g mk a).vm } : State).setVm s₂.vm := rfl
      rw [e2] at this
      exact this
    have hf₂ : s₂.frames = .throwing q :: .java g :: U.frames.tail := hend
    have hW' : U.WarmedH s₂.vm := hW₂
    have hs₂ : s₂ = ((({ U with heap := s₂.heap, slotsUsed := s₂.slotsUsed } : State).setVm s₂.vm).setTop g).pushFrame (.throwing q) := by
      refine e3.trans ?_
      rw [hf₂, State.calling_eq h.top, State.setFrames_setFrames, State.pushFrame, State.frames_setTop _ hr', State.setTop_of_frames _ hr', State.setFrames_setFrames, hr]
      rfl
    have hsame : U.sameButNew ({ U with heap := s₂.heap, slotsUsed := s₂.slotsUsed } : State) L mc ms := by
      refine ⟨?_, q2, q3, q4, q5, q6⟩
      obtain ⟨t, ht, -⟩ := State.frames_cons hr
      show ({ U with heap := s₂.heap, slotsUsed := s₂.slotsUsed } : State) = { U.setFrames U.frames with heap := s₂.heap, slotsUsed := s₂.slotsUsed }
      rw [State.setFrames_self ht]
    subst hg
    refine Or.inr ⟨q, ⟨(({ U with heap := s₂.heap, slotsUsed := s₂.slotsUsed } : State).setVm s₂.vm), Ls ++ L, c0 + mc, s0 + ms⟩,
      ⟨X.admits, X.cas, X.clock, X.frames, X.room, X.hears, X.method, X.code, (X.here.setHeapUsed s₂.heap s₂.slotsUsed).setVm hW'.alike, X.tail, State.WarmedH.trans X.warmed hW', X.limits, X.bytes, X.same.trans (hsame.setVm s.vm)⟩,
      ⟨g, mk, s₂, L, E, ce, rfl, rfl, hx, hce, hcv, hcl, rfl, hL, rfl, rfl⟩, ?_⟩
    show Steps p.tables e below _ (((({ U with heap := s₂.heap, slotsUsed := s₂.slotsUsed } : State).setVm s₂.vm).setTop g).pushFrame (.throwing q))
    rw [← hs₂]
    exact hsteps
end
variable {p : Program} {l : Launch} {e : Env} {R : Room} {s : State} {m : MethodId} {args : Array Value} {below : List Frame} {meth : Method} {c : Code} {T : State} {H : Heap} {locs : List Loc} {cells slots : Nat}
theorem vx_callVX (X : Stand p l e R s m args below meth c T locs cells slots) (hexec : p.tables.exec = Jvm.exec) {own C : String} {index : Nat} {y : MethodName} {bytes : ByteArray} {maxL : Nat} {ret : Option FieldType} {hh : List (Nat × Nat × Nat × Nat)}
    (hown : s.vm.findClass own = some m.cls) (hlink : (Cond.methodLink own index y).before args s = true) (hinst : (Cond.instanceMethod y).before args s = true) (hsel : (Cond.selects C y y).before args s = true)
    (hcode : (Cond.codeWith y bytes maxL ret hh).before args s = true) (hy : y.cls ≠ "java/lang/invoke/MethodHandle" ∧ y.cls ≠ "java/lang/invoke/VarHandle")
    {W9 : Nat} {Pre : Pt → Array Value → Prop} {Post : Pt → Array Value → Option Value → Pt → Prop} {PostX : Pt → Array Value → Addr → Pt → Prop} (hK : vx_Back l R p e below s args y 3 W9 Pre Post PostX)
    {b : Addr} {cellB : Cell} (hcell : T.heap[b]? = some cellB) (hobj : cellB.vm.isStatics = false) (hcls : s.vm.findClass C = some cellB.cls)
    {g : JFrame} (hg : g.method = m) (hsize : g.locals.size = c.maxLocals) {argsL rest : List Value} (hlen : ∀ sig, parseMethodDescriptor y.desc = some sig → argsL.length = sig.parameters.length)
    (hstack : g.stack = argsL.reverse ++ .ref b :: rest) (hW : 2 * g.monitorRoom + (rest.map fun v => v.category).sum ≤ W9) (hdg : decode c.code g.pc = .ok (.invokevirtual index, 3))
    (hpre : ∀ vm₁, s.WarmedH vm₁ → Pre ⟨T.setVm vm₁, locs, cells, slots⟩ (Value.ref b :: argsL).toArray) :
    (∃ (v : Option Value) (vm₁ : Vm) (B : Pt), s.WarmedH vm₁ ∧ Stand p l e R s m args below meth c B.U B.locs B.cells B.slots ∧ Post ⟨T.setVm vm₁, locs, cells, slots⟩ (Value.ref b :: argsL).toArray v B ∧
      ∀ target, Steps p.tables e below (B.U.setTop { g with pc := g.pc + 3, stack := v.toList ++ rest }) target → Steps p.tables e below (T.setTop g) target) ∨
    (∃ (q : Addr) (vm₁ : Vm) (B : Pt), s.WarmedH vm₁ ∧ Stand p l e R s m args below meth c B.U B.locs B.cells B.slots ∧ PostX ⟨T.setVm vm₁, locs, cells, slots⟩ (Value.ref b :: argsL).toArray q B ∧
      Steps p.tables e below (T.setTop g) ((B.U.setTop { g with stack := rest }).pushFrame (.throwing q))) := by
  obtain ⟨mk, methM, hnamed, hmethM, hstM, habM⟩ := Cond.instanceMethod_spec hinst
  obtain ⟨m8, methM', cM, hn8, hmethM', -, -, -, -, -, -, hsigM⟩ := Cond.codeWith_spec hcode
  cases Option.some.inj (hn8.symm.trans hnamed)
  cases hmethM.symm.trans hmethM'
  obtain ⟨c2, r2, m2, q1, q2, q3, q4, kP, hkP, hkPi⟩ := Cond.selects_spec hsel
  cases hcls.symm.trans q1
  cases (State.methodFound?_of_named hnamed hy).symm.trans q2
  cases hnamed.symm.trans q3
  have hselP : selectMethod e.platform s.vm cellB.cls mk = .method mk := by rw [Launch.admits_selectMethod X.admits]; exact q4
  obtain ⟨vm₁, X₁, hstep₁⟩ := X.invokevirtual hexec hown hlink hnamed hmethM hstM hkP hkPi hy (a := b) (cell := cellB) hcell
    (fun z h => by rw [h] at hobj; cases hobj) hselP hmethM habM hkP hkPi (g := g) hg (argsL := argsL) (rest := rest) (hlen _ hsigM) hstack hdg
  rcases hK m meth c ⟨T.setVm vm₁, locs, cells, slots⟩ { g with stack := rest } (.invokevirtual index) mk (Value.ref b :: argsL).toArray X₁ hg hsize hdg hW (X₁.named hnamed) (hpre vm₁ X₁.warmed) with ⟨v, B, X', hpost, hsteps⟩ | ⟨q, B, X', hpost, hsteps⟩
  · exact Or.inl ⟨v, vm₁, B, X₁.warmed, X', hpost, fun target h => hstep₁ _ fun acts => by rw [doInvoke_state]; exact hsteps.trans h⟩
  · exact Or.inr ⟨q, vm₁, B, X₁.warmed, X', hpost, hstep₁ _ fun acts => by rw [doInvoke_state]; exact hsteps⟩
theorem vx_callSX (X : Stand p l e R s m args below meth c T locs cells slots) (hexec : p.tables.exec = Jvm.exec) {own : String} {index : Nat} {y : MethodName} {bytes : ByteArray} {maxL : Nat} {ret : Option FieldType} {hh : List (Nat × Nat × Nat × Nat)}
    (hown : s.vm.findClass own = some m.cls) (hlink : (Cond.methodLink own index y).before args s = true) (hstat : (Cond.static y).before args s = true) (hinit : (Cond.initialized y.cls).before args s = true)
    (hcode : (Cond.codeWith y bytes maxL ret hh).before args s = true) (hy : y.cls ≠ "java/lang/invoke/MethodHandle" ∧ y.cls ≠ "java/lang/invoke/VarHandle")
    {W9 : Nat} {Pre : Pt → Array Value → Prop} {Post : Pt → Array Value → Option Value → Pt → Prop} {PostX : Pt → Array Value → Addr → Pt → Prop} (hK : vx_Back l R p e below s args y 3 W9 Pre Post PostX)
    {g : JFrame} (hg : g.method = m) (hsize : g.locals.size = c.maxLocals) {argsL rest : List Value} (hlen : ∀ sig, parseMethodDescriptor y.desc = some sig → argsL.length = sig.parameters.length)
    (hstack : g.stack = argsL.reverse ++ rest) (hW : 2 * g.monitorRoom + (rest.map fun v => v.category).sum ≤ W9) (hdg : decode c.code g.pc = .ok (.invokestatic index, 3))
    (hpre : ∀ vm₁, s.WarmedH vm₁ → Pre ⟨T.setVm vm₁, locs, cells, slots⟩ argsL.toArray) :
    (∃ (v : Option Value) (vm₁ : Vm) (B : Pt), s.WarmedH vm₁ ∧ Stand p l e R s m args below meth c B.U B.locs B.cells B.slots ∧ Post ⟨T.setVm vm₁, locs, cells, slots⟩ argsL.toArray v B ∧
      ∀ target, Steps p.tables e below (B.U.setTop { g with pc := g.pc + 3, stack := v.toList ++ rest }) target → Steps p.tables e below (T.setTop g) target) ∨
    (∃ (q : Addr) (vm₁ : Vm) (B : Pt), s.WarmedH vm₁ ∧ Stand p l e R s m args below meth c B.U B.locs B.cells B.slots ∧ PostX ⟨T.setVm vm₁, locs, cells, slots⟩ argsL.toArray q B ∧
      Steps p.tables e below (T.setTop g) ((B.U.setTop { g with stack := rest }).pushFrame (.throwing q))) := by
  obtain ⟨mk, methM, cM, hnamed, hmethM, -, -, -, -, -, -, hsigM⟩ := Cond.codeWith_spec hcode
  have hstatic : methM.isStatic = true := Cond.static_spec hnamed hmethM hstat
  obtain ⟨kP, hkP, -⟩ := className_of_methodNamed hnamed
  have hinitP : kP.init = .initialized := Cond.initialized_spec (findClass_of_methodNamed hnamed) hkP hinit
  obtain ⟨vm₁, X₁, hstep₁⟩ := X.invokestatic hexec hown hlink hnamed hmethM hstatic hkP hinitP hy (g := g) hg (argsL := argsL) (rest := rest) (hlen _ hsigM) hstack hdg
  rcases hK m meth c ⟨T.setVm vm₁, locs, cells, slots⟩ { g with stack := rest } (.invokestatic index) mk argsL.toArray X₁ hg hsize hdg hW (X₁.named hnamed) (hpre vm₁ X₁.warmed) with ⟨v, B, X', hpost, hsteps⟩ | ⟨q, B, X', hpost, hsteps⟩
  · exact Or.inl ⟨v, vm₁, B, X₁.warmed, X', hpost, fun target h => hstep₁ _ fun acts => by rw [doInvoke_state]; exact hsteps.trans h⟩
  · exact Or.inr ⟨q, vm₁, B, X₁.warmed, X', hpost, hstep₁ _ fun acts => by rw [doInvoke_state]; exact hsteps⟩
theorem vx_callVW (X : Stand p l e R s m args below meth c T locs cells slots) (hexec : p.tables.exec = Jvm.exec) {own C : String} {index : Nat} {y : MethodName} {bytes : ByteArray} {maxL : Nat} {ret : Option FieldType} {hh : List (Nat × Nat × Nat × Nat)}
    (hown : s.vm.findClass own = some m.cls) (hlink : (Cond.methodLink own index y).before args s = true) (hinst : (Cond.instanceMethod y).before args s = true) (hsel : (Cond.selects C y y).before args s = true)
    (hcode : (Cond.codeWith y bytes maxL ret hh).before args s = true) (hy : y.cls ≠ "java/lang/invoke/MethodHandle" ∧ y.cls ≠ "java/lang/invoke/VarHandle")
    {W9 : Nat} {Pre : Pt → Array Value → Prop} {Post : Pt → Array Value → Option Value → Pt → Prop} (hK : Back l R p e below s args y 3 W9 Pre Post)
    {b : Addr} {cellB : Cell} (hcell : T.heap[b]? = some cellB) (hobj : cellB.vm.isStatics = false) (hcls : s.vm.findClass C = some cellB.cls)
    {g : JFrame} (hg : g.method = m) (hsize : g.locals.size = c.maxLocals) {argsL rest : List Value} (hlen : ∀ sig, parseMethodDescriptor y.desc = some sig → argsL.length = sig.parameters.length)
    (hstack : g.stack = argsL.reverse ++ .ref b :: rest) (hW : 2 * g.monitorRoom + (rest.map fun v => v.category).sum ≤ W9) (hdg : decode c.code g.pc = .ok (.invokevirtual index, 3))
    (hpre : ∀ vm₁, s.WarmedH vm₁ → Pre ⟨T.setVm vm₁, locs, cells, slots⟩ (Value.ref b :: argsL).toArray) :
    ∃ (v : Option Value) (vm₁ : Vm) (B : Pt), s.WarmedH vm₁ ∧ Stand p l e R s m args below meth c B.U B.locs B.cells B.slots ∧ Post ⟨T.setVm vm₁, locs, cells, slots⟩ (Value.ref b :: argsL).toArray v B ∧
      ∀ target, Steps p.tables e below (B.U.setTop { g with pc := g.pc + 3, stack := v.toList ++ rest }) target → Steps p.tables e below (T.setTop g) target := by
  obtain ⟨mk, methM, hnamed, hmethM, hstM, habM⟩ := Cond.instanceMethod_spec hinst
  obtain ⟨m8, methM', cM, hn8, hmethM', -, -, -, -, -, -, hsigM⟩ := Cond.codeWith_spec hcode
  cases Option.some.inj (hn8.symm.trans hnamed)
  cases hmethM.symm.trans hmethM'
  obtain ⟨c2, r2, m2, q1, q2, q3, q4, kP, hkP, hkPi⟩ := Cond.selects_spec hsel
  cases hcls.symm.trans q1
  cases (State.methodFound?_of_named hnamed hy).symm.trans q2
  cases hnamed.symm.trans q3
  have hselP : selectMethod e.platform s.vm cellB.cls mk = .method mk := by rw [Launch.admits_selectMethod X.admits]; exact q4
  obtain ⟨vm₁, X₁, hstep₁⟩ := X.invokevirtual hexec hown hlink hnamed hmethM hstM hkP hkPi hy (a := b) (cell := cellB) hcell
    (fun z h => by rw [h] at hobj; cases hobj) hselP hmethM habM hkP hkPi (g := g) hg (argsL := argsL) (rest := rest) (hlen _ hsigM) hstack hdg
  obtain ⟨v, B, X', hpost, hsteps⟩ := hK m meth c ⟨T.setVm vm₁, locs, cells, slots⟩ { g with stack := rest } (.invokevirtual index) mk (Value.ref b :: argsL).toArray X₁ hg hsize hdg hW (X₁.named hnamed) (hpre vm₁ X₁.warmed)
  exact ⟨v, vm₁, B, X₁.warmed, X', hpost, fun target h => hstep₁ _ fun acts => by rw [doInvoke_state]; exact hsteps.trans h⟩
abbrev vx_CVW (R : Room) (s : State) (args : Array Value) (own C : String) (index : Nat) (y : MethodName) (bytes : ByteArray) (maxL : Nat) (ret : Option FieldType) (hh : List (Nat × Nat × Nat × Nat)) (ws : List Cond) (rm : Room) (mc ms n : Nat) : Prop :=
  (rm.cells = mc ∧ rm.slots = ms ∧ rm.frames + 1 ≤ R.frames ∧ 8 + (maxL + 11) + rm.locals ≤ R.locals ∧ (∀ w ∈ ws, ∀ (a' : Array Value) (U : State), s.WarmedH U.vm → w.before a' U = true) ∧ Cond.codeWith y bytes maxL ret hh ∈ ws) ∧
  (Cond.codeWith y bytes maxL ret hh).before args s = true ∧ (Cond.initialized y.cls).before args s = true ∧ (y.cls ≠ "java/lang/invoke/MethodHandle" ∧ y.cls ≠ "java/lang/invoke/VarHandle") ∧
  (∀ sig, parseMethodDescriptor y.desc = some sig → n = sig.parameters.length) ∧ (Cond.methodLink own index y).before args s = true ∧ (Cond.instanceMethod y).before args s = true ∧ (Cond.selects C y y).before args s = true
theorem vx_cwVW {own C : String} {index maxL mc ms : Nat} {y : MethodName} {bytes : ByteArray} {ret : Option FieldType} {hh : List (Nat × Nat × Nat × Nat)} {Ts ws ws' : List Cond} {rm : Room} (n : Nat) (ht : ∀ w ∈ Ts, w.before args s = true) (hT : GoodIn Ts (wsV own index C y ws)) (hw : ws = Cond.codeWith y bytes maxL ret hh :: ws') (hrc : rm.cells = mc) (hrs : rm.slots = ms)
    (hd : y.cls = C ∧ y.cls ≠ "java/lang/invoke/MethodHandle" ∧ y.cls ≠ "java/lang/invoke/VarHandle" ∧ (parseMethodDescriptor y.desc).map (fun d => d.parameters.length) = some n) (hR : rm.frames + 1 ≤ R.frames ∧ 8 + (maxL + 11) + rm.locals ≤ R.locals) :
    vx_CVW R s args own C index y bytes maxL ret hh ws rm mc ms n := by
  obtain ⟨hC, hd⟩ := hd
  subst hC
  have ok : ∀ w ∈ wsV own index y.cls y ws, w.before args s = true := fun w h => ht w (hT w h).1
  have hG : GoodIn Ts ws := fun w h => hT w (by unfold wsV; exact List.mem_append_right _ h)
  have hc : Cond.codeWith y bytes maxL ret hh ∈ ws := by rw [hw]; exact List.mem_cons_self
  refine ⟨⟨hrc, hrs, hR.1, hR.2, pay_in ht hG, hc⟩, ht _ (hG _ hc).1, ok _ (by simp [wsV]), ⟨hd.1, hd.2.1⟩, fun sig h => ?_, ok _ (by simp [wsV]), ok _ (by simp [wsV]), ok _ (by simp [wsV])⟩
  have h2 := hd.2.2
  rw [h] at h2
  exact (Option.some.inj h2).symm
theorem vx_runVW {y : MethodName} {bytes cc : ByteArray} {maxL nL mc ms n index : Nat} {ret : Option FieldType} {hh : List (Nat × Nat × Nat × Nat)} {ws : List Cond} {rm : Room} {Pc : Array Value → State → Prop} {Qc : Array Value → State → Outcome → State → Prop} {free : Addr → Prop} {Ts : List Cond} {own C : String} {b : Addr} {As rest : List Value} {g : JFrame}
    (S : CallFix p m c cc nL s args Ts own) (hM : Met l y ws rm Pc Qc mc ms free) (cw : vx_CVW R s args own C index y bytes maxL ret hh ws rm mc ms n) (hp : PreV s H C b Pc As)
    (hg : g.method = m) (hn : As.length = n) (hsize : g.locals.size = nL) (hstack : g.stack = As.reverse ++ .ref b :: rest) (hW : 2 * g.monitorRoom + (rest.map fun v => v.category).sum ≤ 8) (hdg : decode cc g.pc = .ok (.invokevirtual index, 3)) (hf : cells + mc ≤ R.cells ∧ slots + ms ≤ R.slots) :
    va_Run p l e R s m args below meth c H locs cells slots mc ms g rest (Qc (Value.ref b :: As).toArray) free := by
  obtain ⟨⟨hrc, hrs, hfr, hlo, hws, hcw⟩, hcode, hini, hy, hlen, hl, hin, hse⟩ := cw
  have hK : Back l R p e below s args y 3 8 (PreOf R mc ms Pc) (PostOf Qc mc ms free) := va_backW (hh := hh) (bytes := bytes) (maxL := maxL) (ret := ret) hM hp.1 hrc hrs hfr hlo hws hcw (fun a' U hW => word_at hW (Or.inl (by first | rfl | simp [Cond.onTables, Cond.keeps, Cond.steady])) hini)
  obtain ⟨hx, hb, hml, ho, -⟩ := S
  obtain ⟨-, ⟨cellB, hcB, hoB, hclB⟩, hPc⟩ := hp
  intro T hT X
  obtain ⟨v, vm₁, ⟨U', l2, c2, s2⟩, hW₁, X', ⟨g', mk, t, L, e1, e2, hq, h1, hL, h2, h3⟩, st⟩ := vx_callVW X hx (C := C) (hh := hh) (bytes := bytes) (maxL := maxL) (ret := ret) ho hl hin hse hcode hy hK (by rw [hT]; exact hcB) hoB hclB hg (hsize.trans hml.symm) (argsL := As) (rest := rest) (fun sig h => hn.trans (hlen sig h)) hstack hW (by rw [hb]; exact hdg)
    (fun vm₁ hW₁ => ⟨hf.1, hf.2, hPc (T.setVm vm₁) hT hW₁⟩)
  dsimp only [Pt.U, Pt.locs, Pt.cells, Pt.slots] at X' e1 e2 h1 h2 h3 st
  subst h1; subst h2; subst h3
  exact ⟨v, (T.setVm vm₁).calling g' mk (Value.ref b :: As).toArray, t, U', L, hT, X', hL, e1, e2, hq, st⟩
section
variable {y : MethodName} {bytes cc : ByteArray} {maxL nL mc ms n index : Nat} {ret : Option FieldType} {ws : List Cond} {rm : Room} {Pc : Array Value → State → Prop} {Qc : Array Value → State → Outcome → State → Prop} {XC : String → State → State → Prop} {free : Addr → Prop} {Ts : List Cond} {own C : String} {b : Addr} {As rest : List Value} {g : JFrame}
theorem vx_runVX {hh : List (Nat × Nat × Nat × Nat)} (S : CallFix p m c cc nL s args Ts own) (hM : vx_Met l y ws rm Pc Qc XC mc ms free) (cw : vx_CVW R s args own C index y bytes maxL ret hh ws rm mc ms n) (hp : PreV s H C b Pc As)
    (hg : g.method = m) (hn : As.length = n) (hsize : g.locals.size = nL) (hstack : g.stack = As.reverse ++ .ref b :: rest) (hW : 2 * g.monitorRoom + (rest.map fun v => v.category).sum ≤ 8) (hdg : decode cc g.pc = .ok (.invokevirtual index, 3)) (hf : cells + mc ≤ R.cells ∧ slots + ms ≤ R.slots) :
    vx_Run p l e R s m args below meth c H locs cells slots mc ms g rest (Qc (Value.ref b :: As).toArray) XC free := by
  obtain ⟨⟨hrc, hrs, hfr, hlo, hws, hcw⟩, hcode, hini, hy, hlen, hl, hin, hse⟩ := cw
  have hK : vx_Back l R p e below s args y 3 8 (PreOf R mc ms Pc) (PostOf Qc mc ms free) (vx_Post XC mc ms free) := vx_backW (hh := hh) (bytes := bytes) (maxL := maxL) (ret := ret) hM hp.1 hrc hrs hfr hlo hws hcw (fun a' U hW => word_at hW (Or.inl (by first | rfl | simp [Cond.onTables, Cond.keeps, Cond.steady])) hini)
  obtain ⟨hx, hb, hml, ho, -⟩ := S
  obtain ⟨-, ⟨cellB, hcB, hoB, hclB⟩, hPc⟩ := hp
  intro T hT X
  rcases vx_callVX X hx (C := C) (hh := hh) (bytes := bytes) (maxL := maxL) (ret := ret) ho hl hin hse hcode hy hK (by rw [hT]; exact hcB) hoB hclB hg (hsize.trans hml.symm) (argsL := As) (rest := rest) (fun sig h => hn.trans (hlen sig h)) hstack hW (by rw [hb]; exact hdg)
    (fun vm₁ hW₁ => ⟨hf.1, hf.2, hPc (T.setVm vm₁) hT hW₁⟩) with ⟨v, vm₁, ⟨U', l2, c2, s2⟩, hW₁, X', ⟨g', mk, t, L, e1, e2, hq, h1, hL, h2, h3⟩, st⟩ | ⟨q, vm₁, ⟨U', l2, c2, s2⟩, hW₁, X', ⟨g', mk, t, L, E, ce, e1, e2, hq, hce, hcv, hcl, h1, hL, h2, h3⟩, st⟩
  · dsimp only [Pt.U, Pt.locs, Pt.cells, Pt.slots] at X' e1 e2 h1 h2 h3 st
    subst h1; subst h2; subst h3
    exact Or.inl ⟨v, (T.setVm vm₁).calling g' mk (Value.ref b :: As).toArray, t, U', L, hT, X', hL, e1, e2, hq, st⟩
  · dsimp only [Pt.U, Pt.locs, Pt.cells, Pt.slots] at X' e1 e2 h1 h2 h3 st hcl
    subst h1; subst h2; subst h3
    exact Or.inr ⟨q, (T.setVm vm₁).calling g' mk (Value.ref b :: As).toArray, t, U', L, E, ce, hT, X', hL, e1, e2, hq, hce, hcv, vx_cls hW₁ hcl, st⟩
theorem vx_runSX {hh : List (Nat × Nat × Nat × Nat)} (S : CallFix p m c cc nL s args Ts own) (hM : vx_Met l y ws rm Pc Qc XC mc ms free) (cw : vx_CSW R s args own index y bytes maxL ret hh ws rm mc ms n) (hp : PreS s H Pc As)
    (hg : g.method = m) (hn : As.length = n) (hsize : g.locals.size = nL) (hstack : g.stack = As.reverse ++ rest) (hW : 2 * g.monitorRoom + (rest.map fun v => v.category).sum ≤ 8) (hdg : decode cc g.pc = .ok (.invokestatic index, 3)) (hf : cells + mc ≤ R.cells ∧ slots + ms ≤ R.slots) :
    vx_Run p l e R s m args below meth c H locs cells slots mc ms g rest (Qc As.toArray) XC free := by
  obtain ⟨⟨hrc, hrs, hfr, hlo, hws, hcw⟩, hcode, hini, hy, hlen, hl, hstt⟩ := cw
  have hK : vx_Back l R p e below s args y 3 8 (PreOf R mc ms Pc) (PostOf Qc mc ms free) (vx_Post XC mc ms free) := vx_backW (hh := hh) (bytes := bytes) (maxL := maxL) (ret := ret) hM hp.1 hrc hrs hfr hlo hws hcw (fun a' U hW => word_at hW (Or.inl (by first | rfl | simp [Cond.onTables, Cond.keeps, Cond.steady])) hini)
  obtain ⟨hx, hb, hml, ho, -⟩ := S
  intro T hT X
  rcases vx_callSX X hx (hh := hh) (bytes := bytes) (maxL := maxL) (ret := ret) ho hl hstt hini hcode hy hK hg (hsize.trans hml.symm) (argsL := As) (rest := rest) (fun sig h => hn.trans (hlen sig h)) hstack hW (by rw [hb]; exact hdg)
    (fun vm₁ hW₁ => ⟨hf.1, hf.2, hp.2 (T.setVm vm₁) hT hW₁⟩) with ⟨v, vm₁, ⟨U', l2, c2, s2⟩, hW₁, X', ⟨g', mk, t, L, e1, e2, hq, h1, hL, h2, h3⟩, st⟩ | ⟨q, vm₁, ⟨U', l2, c2, s2⟩, hW₁, X', ⟨g', mk, t, L, E, ce, e1, e2, hq, hce, hcv, hcl, h1, hL, h2, h3⟩, st⟩
  · dsimp only [Pt.U, Pt.locs, Pt.cells, Pt.slots] at X' e1 e2 h1 h2 h3 st
    subst h1; subst h2; subst h3
    exact Or.inl ⟨v, (T.setVm vm₁).calling g' mk As.toArray, t, U', L, hT, X', hL, e1, e2, hq, st⟩
  · dsimp only [Pt.U, Pt.locs, Pt.cells, Pt.slots] at X' e1 e2 h1 h2 h3 st hcl
    subst h1; subst h2; subst h3
    exact Or.inr ⟨q, (T.setVm vm₁).calling g' mk As.toArray, t, U', L, E, ce, hT, X', hL, e1, e2, hq, hce, hcv, vx_cls hW₁ hcl, st⟩
end
end VXH
theorem vx_ofWH {l : Launch} {y : MethodName} {ws ws' : List Cond} {rm : Room} {Pc : Array Value → State → Prop} {Qc : Array Value → State → Outcome → State → Prop} {XC : String → State → State → Prop} {mc ms : Nat} {free : Addr → Prop} {cc : ByteArray} {maxL : Nat} {ret : Option FieldType} {hh : List (Nat × Nat × Nat × Nat)}
    (hy : plainName y.cls = true) (hw : ws = Cond.codeWith y cc maxL ret hh :: ws')
    (body : ∀ p e s m args below meth c s₁, BodyLoose p l y (headSpec ws rm) cc maxL ret e s m args below meth c s₁ → c.maxLocals = maxL → Pc args s →
      W p l e (headSpec ws rm).room s m args below meth c s.heap [] 0 0 (vx_MQ below Qc XC args s mc ms free) (entryFrame m args maxL)) : vx_Met l y ws rm Pc Qc XC mc ms free := by
  refine MetFree.of_bodyS (code := cc) (maxLocals := maxL) (ret := ret) hy ?_ ?_
  · intro args s m h hn
    obtain ⟨m9, meth, c, hn9, h1, h2, h3, h4, -, h5, h6, -⟩ := Cond.codeWith_spec (atoms_spec (ws := ws) h _ (by rw [hw]; exact List.mem_cons_self))
    cases hn.symm.trans hn9
    exact ⟨meth, c, h1, h2, h3, h4, h5, h6⟩
  · intro p e s m args below meth c s₁ B hml hP _
    have hh0 : s₁.heap = s.heap := by rw [B.state]; rfl
    obtain ⟨t, a1, o, b1, b2, b3⟩ := body p e s m args below meth c s₁ B hml hP s₁ hh0 (Stand.of_body B)
    exact ⟨t, o, a1, b1, b2, b3⟩
/-! ===== END ===== -/
end
section
/-! the words of the tables: those that every call hands on (WS), those of nest mates (NWS) -/
def WS : List Cond := lw_tbl.filter goodWord
def nestW : Cond → Bool
  | .fieldLinkNest .. => true
  | .methodLinkNest .. => true
  | _ => false
def NWS : List Cond := lw_tbl.filter nestW
theorem ws_in {w : Cond} (i : Nat) (h : lw_tbl[i]? = some w) (g : goodWord w = true) : w ∈ WS := List.mem_filter.mpr ⟨List.mem_of_getElem? h, g⟩
theorem nws_in {w : Cond} (i : Nat) (h : lw_tbl[i]? = some w) (g : nestW w = true) : w ∈ NWS := List.mem_filter.mpr ⟨List.mem_of_getElem? h, g⟩
set_option maxRecDepth 100000 in
theorem tw_47 : Cond.initialized "PlainWarehouse" ∈ WS := ws_in 47 rfl rfl
set_option maxRecDepth 100000 in
theorem tw_48 : Cond.initialized "PlainWarehouse$House" ∈ WS := ws_in 48 rfl rfl
set_option maxRecDepth 100000 in
theorem tw_49 : Cond.initialized "PlainWarehouse$Fillings" ∈ WS := ws_in 49 rfl rfl
set_option maxRecDepth 100000 in
theorem tw_50 : Cond.initialized "PlainWarehouse$Ways" ∈ WS := ws_in 50 rfl rfl
set_option maxRecDepth 100000 in
theorem tw_51 : Cond.initialized "PlainWarehouseModel" ∈ WS := ws_in 51 rfl rfl
set_option maxRecDepth 100000 in
theorem tw_57 : Cond.initialized "java/util/Arrays" ∈ WS := ws_in 57 rfl rfl
set_option maxRecDepth 100000 in
theorem tw_59 : Cond.initialized "java/lang/Integer" ∈ WS := ws_in 59 rfl rfl
set_option maxRecDepth 100000 in
theorem tw_67 : Cond.code ({ cls := "PlainWarehouse", name := "<init>", desc := "()V" } : MethodName) prog_1_method_1_code (1 : Nat) (Option.none : Option FieldType) ∈ WS := ws_in 67 rfl rfl
set_option maxRecDepth 100000 in
theorem tw_75 : Cond.code ({ cls := "PlainWarehouse$House", name := "<init>", desc := "()V" } : MethodName) prog_3_method_1_code (1 : Nat) (Option.none : Option FieldType) ∈ WS := ws_in 75 rfl rfl
set_option maxRecDepth 100000 in
theorem tw_93 : Cond.laysFinal "PlainWarehouse$House" "PlainWarehouse$House" "placeOf" "[I" ∈ WS := ws_in 93 rfl rfl
set_option maxRecDepth 100000 in
theorem tw_95 : Cond.laysFinal "PlainWarehouse$House" "PlainWarehouse$House" "goodOf" "[I" ∈ WS := ws_in 95 rfl rfl
set_option maxRecDepth 100000 in
theorem tw_97 : Cond.laysFinal "PlainWarehouse$House" "PlainWarehouse$House" "givenTo" "[I" ∈ WS := ws_in 97 rfl rfl
set_option maxRecDepth 100000 in
theorem tw_99 : Cond.laysFinal "PlainWarehouse$House" "PlainWarehouse$House" "wanted" "[I" ∈ WS := ws_in 99 rfl rfl
set_option maxRecDepth 100000 in
theorem tw_101 : Cond.laysFinal "PlainWarehouse$House" "PlainWarehouse$House" "goodWanted" "[I" ∈ WS := ws_in 101 rfl rfl
set_option maxRecDepth 100000 in
theorem tw_103 : Cond.laysFinal "PlainWarehouse$House" "PlainWarehouse$House" "got" "[I" ∈ WS := ws_in 103 rfl rfl
set_option maxRecDepth 100000 in
theorem tw_105 : Cond.laysFinal "PlainWarehouse$House" "PlainWarehouse$House" "cents" "[I" ∈ WS := ws_in 105 rfl rfl
set_option maxRecDepth 100000 in
theorem tw_107 : Cond.laysFinal "PlainWarehouse$House" "PlainWarehouse$House" "link" "[I" ∈ WS := ws_in 107 rfl rfl
set_option maxRecDepth 100000 in
theorem tw_115 : Cond.code ({ cls := "PlainWarehouse$Fillings", name := "<init>", desc := "()V" } : MethodName) prog_2_method_1_code (1 : Nat) (Option.none : Option FieldType) ∈ WS := ws_in 115 rfl rfl
set_option maxRecDepth 100000 in
theorem tw_122 : Cond.laysFinal "PlainWarehouse$Fillings" "PlainWarehouse$Fillings" "lacking" "[I" ∈ WS := ws_in 122 rfl rfl
set_option maxRecDepth 100000 in
theorem tw_124 : Cond.laysFinal "PlainWarehouse$Fillings" "PlainWarehouse$Fillings" "goods" "[I" ∈ WS := ws_in 124 rfl rfl
set_option maxRecDepth 100000 in
theorem tw_126 : Cond.laysFinal "PlainWarehouse$Fillings" "PlainWarehouse$Fillings" "free" "[I" ∈ WS := ws_in 126 rfl rfl
set_option maxRecDepth 100000 in
theorem tw_128 : Cond.laysFinal "PlainWarehouse$Fillings" "PlainWarehouse$Fillings" "left" "[I" ∈ WS := ws_in 128 rfl rfl
set_option maxRecDepth 100000 in
theorem tw_130 : Cond.lays "PlainWarehouse$Fillings" "PlainWarehouse$Fillings" "size" "I" ∈ WS := ws_in 130 rfl rfl
set_option maxRecDepth 100000 in
theorem tw_137 : Cond.code ({ cls := "PlainWarehouse$Ways", name := "<init>", desc := "()V" } : MethodName) prog_4_method_1_code (1 : Nat) (Option.none : Option FieldType) ∈ WS := ws_in 137 rfl rfl
set_option maxRecDepth 100000 in
theorem tw_140 : Cond.laysFinal "PlainWarehouse$Ways" "PlainWarehouse$Ways" "seconds" "[I" ∈ WS := ws_in 140 rfl rfl
set_option maxRecDepth 100000 in
theorem tw_149 : Cond.laysFinal "PlainWarehouse" "PlainWarehouse" "row" "[I" ∈ WS := ws_in 149 rfl rfl
set_option maxRecDepth 100000 in
theorem tw_151 : Cond.lays "PlainWarehouse" "PlainWarehouse" "eventCount" "I" ∈ WS := ws_in 151 rfl rfl
set_option maxRecDepth 100000 in
theorem tw_153 : Cond.lays "PlainWarehouse" "PlainWarehouse" "refusedCount" "I" ∈ WS := ws_in 153 rfl rfl
set_option maxRecDepth 100000 in
theorem tw_155 : Cond.laysFinal "PlainWarehouse" "PlainWarehouse" "house" "LPlainWarehouse$House;" ∈ WS := ws_in 155 rfl rfl
set_option maxRecDepth 100000 in
theorem tw_157 : Cond.laysFinal "PlainWarehouse" "PlainWarehouse" "fillings" "LPlainWarehouse$Fillings;" ∈ WS := ws_in 157 rfl rfl
set_option maxRecDepth 100000 in
theorem tw_159 : Cond.laysFinal "PlainWarehouse" "PlainWarehouse" "ways" "LPlainWarehouse$Ways;" ∈ WS := ws_in 159 rfl rfl
set_option maxRecDepth 100000 in
theorem tw_165 : Cond.code ({ cls := "PlainWarehouse", name := "count", desc := "(I)I" } : MethodName) prog_1_method_14_code (2 : Nat) (Option.some FieldType.int) ∈ WS := ws_in 165 rfl rfl
set_option maxRecDepth 100000 in
theorem tw_169 : Cond.code ({ cls := "PlainWarehouse", name := "replay", desc := "(I)V" } : MethodName) prog_1_method_16_code (3 : Nat) (Option.none : Option FieldType) ∈ WS := ws_in 169 rfl rfl
set_option maxRecDepth 100000 in
theorem tw_173 : Cond.code ({ cls := "PlainWarehouse$House", name := "empty", desc := "()V" } : MethodName) prog_3_method_2_code (1 : Nat) (Option.none : Option FieldType) ∈ WS := ws_in 173 rfl rfl
set_option maxRecDepth 100000 in
theorem tw_176 : Cond.code ({ cls := "java/util/Arrays", name := "fill", desc := "([II)V" } : MethodName) prog_17_method_103_code (4 : Nat) (Option.none : Option FieldType) ∈ WS := ws_in 176 rfl rfl
set_option maxRecDepth 100000 in
theorem tw_180 : Cond.code ({ cls := "PlainWarehouse", name := "takeKept", desc := "(I)Z" } : MethodName) prog_1_method_17_code (3 : Nat) (Option.some FieldType.boolean) ∈ WS := ws_in 180 rfl rfl
set_option maxRecDepth 100000 in
theorem tw_184 : Cond.code ({ cls := "PlainWarehouse$House", name := "take", desc := "(IIII)Z" } : MethodName) prog_3_method_3_code (5 : Nat) (Option.some FieldType.boolean) ∈ WS := ws_in 184 rfl rfl
set_option maxRecDepth 100000 in
theorem tw_188 : Cond.code ({ cls := "PlainWarehouse$House", name := "isPossible", desc := "(III)Z" } : MethodName) prog_3_method_4_code (4 : Nat) (Option.some FieldType.boolean) ∈ WS := ws_in 188 rfl rfl
set_option maxRecDepth 100000 in
theorem tw_192 : Cond.code ({ cls := "PlainWarehouse$House", name := "isInside", desc := "(I)Z" } : MethodName) prog_3_method_8_code (2 : Nat) (Option.some FieldType.boolean) ∈ WS := ws_in 192 rfl rfl
set_option maxRecDepth 100000 in
theorem tw_196 : Cond.code ({ cls := "PlainWarehouse$House", name := "isOpen", desc := "(I)Z" } : MethodName) prog_3_method_11_code (2 : Nat) (Option.some FieldType.boolean) ∈ WS := ws_in 196 rfl rfl
set_option maxRecDepth 100000 in
theorem tw_200 : Cond.code ({ cls := "PlainWarehouse$House", name := "isTold", desc := "(I)Z" } : MethodName) prog_3_method_10_code (2 : Nat) (Option.some FieldType.boolean) ∈ WS := ws_in 200 rfl rfl
set_option maxRecDepth 100000 in
theorem tw_204 : Cond.code ({ cls := "PlainWarehouse$House", name := "isFree", desc := "(I)Z" } : MethodName) prog_3_method_9_code (2 : Nat) (Option.some FieldType.boolean) ∈ WS := ws_in 204 rfl rfl
set_option maxRecDepth 100000 in
theorem tw_208 : Cond.code ({ cls := "PlainWarehouse$House", name := "happen", desc := "(IIII)V" } : MethodName) prog_3_method_5_code (5 : Nat) (Option.none : Option FieldType) ∈ WS := ws_in 208 rfl rfl
set_option maxRecDepth 100000 in
theorem tw_212 : Cond.code ({ cls := "PlainWarehouse$House", name := "come", desc := "(III)V" } : MethodName) prog_3_method_6_code (4 : Nat) (Option.none : Option FieldType) ∈ WS := ws_in 212 rfl rfl
set_option maxRecDepth 100000 in
theorem tw_216 : Cond.code ({ cls := "PlainWarehouse$House", name := "leave", desc := "(I)V" } : MethodName) prog_3_method_7_code (2 : Nat) (Option.none : Option FieldType) ∈ WS := ws_in 216 rfl rfl
set_option maxRecDepth 100000 in
theorem tw_219 : Cond.code ({ cls := "PlainWarehouse", name := "pair", desc := "(II)I" } : MethodName) prog_1_method_29_code (2 : Nat) (Option.some FieldType.int) ∈ WS := ws_in 219 rfl rfl
set_option maxRecDepth 100000 in
theorem tw_223 : Cond.code ({ cls := "PlainWarehouse$House", name := "unitsAt", desc := "(II)I" } : MethodName) prog_3_method_13_code (5 : Nat) (Option.some FieldType.int) ∈ WS := ws_in 223 rfl rfl
set_option maxRecDepth 100000 in
theorem tw_226 : Cond.code ({ cls := "PlainWarehouse$House", name := "isAsked", desc := "(II)Z" } : MethodName) prog_3_method_14_code (2 : Nat) (Option.some FieldType.boolean) ∈ WS := ws_in 226 rfl rfl
set_option maxRecDepth 100000 in
theorem tw_230 : Cond.code ({ cls := "PlainWarehouse$House", name := "toldOrders", desc := "()I" } : MethodName) prog_3_method_17_code (3 : Nat) (Option.some FieldType.int) ∈ WS := ws_in 230 rfl rfl
set_option maxRecDepth 100000 in
theorem tw_234 : Cond.code ({ cls := "PlainWarehouse$House", name := "fullOrders", desc := "()I" } : MethodName) prog_3_method_18_code (3 : Nat) (Option.some FieldType.int) ∈ WS := ws_in 234 rfl rfl
set_option maxRecDepth 100000 in
theorem tw_238 : Cond.code ({ cls := "PlainWarehouse$House", name := "isFull", desc := "(I)Z" } : MethodName) prog_3_method_12_code (2 : Nat) (Option.some FieldType.boolean) ∈ WS := ws_in 238 rfl rfl
set_option maxRecDepth 100000 in
theorem tw_242 : Cond.code ({ cls := "PlainWarehouse$House", name := "linkedPairs", desc := "()I" } : MethodName) prog_3_method_19_code (4 : Nat) (Option.some FieldType.int) ∈ WS := ws_in 242 rfl rfl
set_option maxRecDepth 100000 in
theorem tw_251 : Cond.code ({ cls := "PlainWarehouse", name := "event", desc := "(IIII)I" } : MethodName) prog_1_method_2_code (5 : Nat) (Option.some FieldType.int) ∈ WS := ws_in 251 rfl rfl
set_option maxRecDepth 100000 in
theorem tw_254 : Cond.code ({ cls := "PlainWarehouse", name := "isInRange", desc := "(IIII)Z" } : MethodName) prog_1_method_21_code (4 : Nat) (Option.some FieldType.boolean) ∈ WS := ws_in 254 rfl rfl
set_option maxRecDepth 100000 in
theorem tw_257 : Cond.code ({ cls := "PlainWarehouse", name := "isUnit", desc := "(I)Z" } : MethodName) prog_1_method_22_code (1 : Nat) (Option.some FieldType.boolean) ∈ WS := ws_in 257 rfl rfl
set_option maxRecDepth 100000 in
theorem tw_260 : Cond.code ({ cls := "PlainWarehouse", name := "isWithin", desc := "(III)Z" } : MethodName) prog_1_method_27_code (3 : Nat) (Option.some FieldType.boolean) ∈ WS := ws_in 260 rfl rfl
set_option maxRecDepth 100000 in
theorem tw_263 : Cond.code ({ cls := "PlainWarehouse", name := "isGood", desc := "(I)Z" } : MethodName) prog_1_method_23_code (1 : Nat) (Option.some FieldType.boolean) ∈ WS := ws_in 263 rfl rfl
set_option maxRecDepth 100000 in
theorem tw_266 : Cond.code ({ cls := "PlainWarehouse", name := "isPlace", desc := "(I)Z" } : MethodName) prog_1_method_24_code (1 : Nat) (Option.some FieldType.boolean) ∈ WS := ws_in 266 rfl rfl
set_option maxRecDepth 100000 in
theorem tw_269 : Cond.code ({ cls := "PlainWarehouse", name := "isOrder", desc := "(I)Z" } : MethodName) prog_1_method_25_code (1 : Nat) (Option.some FieldType.boolean) ∈ WS := ws_in 269 rfl rfl
set_option maxRecDepth 100000 in
theorem tw_272 : Cond.code ({ cls := "PlainWarehouse", name := "isOwner", desc := "(I)Z" } : MethodName) prog_1_method_26_code (1 : Nat) (Option.some FieldType.boolean) ∈ WS := ws_in 272 rfl rfl
set_option maxRecDepth 100000 in
theorem tw_361 : Cond.code ({ cls := "PlainWarehouse", name := "keep", desc := "(IIII)V" } : MethodName) prog_1_method_15_code (6 : Nat) (Option.none : Option FieldType) ∈ WS := ws_in 361 rfl rfl
set_option maxRecDepth 100000 in
theorem tw_368 : Cond.code ({ cls := "PlainWarehouse", name := "stock", desc := "(II)I" } : MethodName) prog_1_method_3_code (3 : Nat) (Option.some FieldType.int) ∈ WS := ws_in 368 rfl rfl
set_option maxRecDepth 100000 in
theorem tw_378 : Cond.code ({ cls := "PlainWarehouse", name := "where", desc := "(II)I" } : MethodName) prog_1_method_4_code (3 : Nat) (Option.some FieldType.int) ∈ WS := ws_in 378 rfl rfl
set_option maxRecDepth 100000 in
theorem tw_382 : Cond.code ({ cls := "PlainWarehouse", name := "hasSoMany", desc := "(I)Z" } : MethodName) prog_1_method_20_code (2 : Nat) (Option.some FieldType.boolean) ∈ WS := ws_in 382 rfl rfl
set_option maxRecDepth 100000 in
theorem tw_406 : Cond.code ({ cls := "PlainWarehouse", name := "order", desc := "(II)I" } : MethodName) prog_1_method_5_code (3 : Nat) (Option.some FieldType.int) ∈ WS := ws_in 406 rfl rfl
set_option maxRecDepth 100000 in
theorem tw_413 : Cond.code ({ cls := "PlainWarehouse$House", name := "freeUnits", desc := "(I)I" } : MethodName) prog_3_method_15_code (4 : Nat) (Option.some FieldType.int) ∈ WS := ws_in 413 rfl rfl
set_option maxRecDepth 100000 in
theorem tw_421 : Cond.code ({ cls := "PlainWarehouse", name := "promise", desc := "(I)I" } : MethodName) prog_1_method_6_code (2 : Nat) (Option.some FieldType.int) ∈ WS := ws_in 421 rfl rfl
set_option maxRecDepth 100000 in
theorem tw_425 : Cond.code ({ cls := "PlainWarehouse", name := "areAllTold", desc := "(I)Z" } : MethodName) prog_1_method_18_code (3 : Nat) (Option.some FieldType.boolean) ∈ WS := ws_in 425 rfl rfl
set_option maxRecDepth 100000 in
theorem tw_428 : Cond.code ({ cls := "PlainWarehouse", name := "isInSet", desc := "(II)Z" } : MethodName) prog_1_method_28_code (2 : Nat) (Option.some FieldType.boolean) ∈ WS := ws_in 428 rfl rfl
set_option maxRecDepth 100000 in
theorem tw_432 : Cond.code ({ cls := "java/lang/Integer", name := "bitCount", desc := "(I)I" } : MethodName) prog_10_method_49_code (1 : Nat) (Option.some FieldType.int) ∈ WS := ws_in 432 rfl rfl
set_option maxRecDepth 100000 in
theorem tw_439 : Cond.code ({ cls := "PlainWarehouse$Fillings", name := "most", desc := "(LPlainWarehouse$House;I)I" } : MethodName) prog_2_method_2_code (5 : Nat) (Option.some FieldType.int) ∈ WS := ws_in 439 rfl rfl
set_option maxRecDepth 100000 in
theorem tw_443 : Cond.code ({ cls := "PlainWarehouse$Fillings", name := "countFree", desc := "(LPlainWarehouse$House;)V" } : MethodName) prog_2_method_3_code (3 : Nat) (Option.none : Option FieldType) ∈ WS := ws_in 443 rfl rfl
set_option maxRecDepth 100000 in
theorem tw_448 : Cond.code ({ cls := "PlainWarehouse$Fillings", name := "chooseOpen", desc := "(LPlainWarehouse$House;I)V" } : MethodName) prog_2_method_4_code (4 : Nat) (Option.none : Option FieldType) ∈ WS := ws_in 448 rfl rfl
set_option maxRecDepth 100000 in
theorem tw_455 : Cond.code ({ cls := "PlainWarehouse$Fillings", name := "isEnoughFor", desc := "(I)Z" } : MethodName) prog_2_method_5_code (3 : Nat) (Option.some FieldType.boolean) ∈ WS := ws_in 455 rfl rfl
set_option maxRecDepth 100000 in
theorem tw_465 : Cond.code ({ cls := "PlainWarehouse", name := "way", desc := "(II)I" } : MethodName) prog_1_method_7_code (3 : Nat) (Option.some FieldType.int) ∈ WS := ws_in 465 rfl rfl
set_option maxRecDepth 100000 in
theorem tw_469 : Cond.code ({ cls := "PlainWarehouse$Ways", name := "measure", desc := "(LPlainWarehouse$House;)V" } : MethodName) prog_4_method_2_code (4 : Nat) (Option.none : Option FieldType) ∈ WS := ws_in 469 rfl rfl
set_option maxRecDepth 100000 in
theorem tw_473 : Cond.code ({ cls := "PlainWarehouse$Ways", name := "layLinks", desc := "(LPlainWarehouse$House;)V" } : MethodName) prog_4_method_3_code (5 : Nat) (Option.none : Option FieldType) ∈ WS := ws_in 473 rfl rfl
set_option maxRecDepth 100000 in
theorem tw_479 : Cond.code ({ cls := "PlainWarehouse$Ways", name := "shortenVia", desc := "(II)V" } : MethodName) prog_4_method_4_code (6 : Nat) (Option.none : Option FieldType) ∈ WS := ws_in 479 rfl rfl
set_option maxRecDepth 100000 in
theorem tw_486 : Cond.code ({ cls := "PlainWarehouse$Ways", name := "between", desc := "(II)I" } : MethodName) prog_4_method_5_code (3 : Nat) (Option.some FieldType.int) ∈ WS := ws_in 486 rfl rfl
set_option maxRecDepth 100000 in
theorem tw_489 : Cond.code ({ cls := "PlainWarehouse", name := "orNone", desc := "(I)I" } : MethodName) prog_1_method_30_code (1 : Nat) (Option.some FieldType.int) ∈ WS := ws_in 489 rfl rfl
set_option maxRecDepth 100000 in
theorem tw_497 : Cond.code ({ cls := "PlainWarehouse", name := "walk", desc := "(II)I" } : MethodName) prog_1_method_8_code (4 : Nat) (Option.some FieldType.int) ∈ WS := ws_in 497 rfl rfl
set_option maxRecDepth 100000 in
theorem tw_501 : Cond.code ({ cls := "PlainWarehouse$House", name := "placesOfUnitsGivenTo", desc := "(I)I" } : MethodName) prog_3_method_16_code (4 : Nat) (Option.some FieldType.int) ∈ WS := ws_in 501 rfl rfl
set_option maxRecDepth 100000 in
theorem tw_505 : Cond.code ({ cls := "PlainWarehouse$Ways", name := "fewestThrough", desc := "(II)I" } : MethodName) prog_4_method_6_code (3 : Nat) (Option.some FieldType.int) ∈ WS := ws_in 505 rfl rfl
set_option maxRecDepth 100000 in
theorem tw_508 : Cond.code ({ cls := "PlainWarehouse$Ways", name := "fewest", desc := "([IIII)I" } : MethodName) prog_4_method_7_code (7 : Nat) (Option.some FieldType.int) ∈ WS := ws_in 508 rfl rfl
set_option maxRecDepth 100000 in
theorem tw_516 : Cond.code ({ cls := "PlainWarehouse", name := "money", desc := "(II)I" } : MethodName) prog_1_method_9_code (3 : Nat) (Option.some FieldType.int) ∈ WS := ws_in 516 rfl rfl
set_option maxRecDepth 100000 in
theorem tw_524 : Cond.code ({ cls := "PlainWarehouse", name := "needs", desc := "(I)I" } : MethodName) prog_1_method_10_code (4 : Nat) (Option.some FieldType.int) ∈ WS := ws_in 524 rfl rfl
set_option maxRecDepth 100000 in
theorem tw_528 : Cond.code ({ cls := "PlainWarehouse", name := "isEvent", desc := "(I)Z" } : MethodName) prog_1_method_19_code (2 : Nat) (Option.some FieldType.boolean) ∈ WS := ws_in 528 rfl rfl
set_option maxRecDepth 100000 in
theorem tw_536 : Cond.code ({ cls := "PlainWarehouse", name := "explained", desc := "(I)I" } : MethodName) prog_1_method_11_code (3 : Nat) (Option.some FieldType.int) ∈ WS := ws_in 536 rfl rfl
set_option maxRecDepth 100000 in
theorem tw_543 : Cond.code ({ cls := "PlainWarehouse", name := "told", desc := "(II)I" } : MethodName) prog_1_method_12_code (3 : Nat) (Option.some FieldType.int) ∈ WS := ws_in 543 rfl rfl
set_option maxRecDepth 100000 in
theorem tw_552 : Cond.code ({ cls := "PlainWarehouse", name := "back", desc := "()V" } : MethodName) prog_1_method_13_code (1 : Nat) (Option.none : Option FieldType) ∈ WS := ws_in 552 rfl rfl
set_option maxRecDepth 100000 in
theorem tw_573 : Cond.code ({ cls := "PlainWarehouseModel", name := "<init>", desc := "()V" } : MethodName) prog_6_method_1_code (2 : Nat) (Option.none : Option FieldType) ∈ WS := ws_in 573 rfl rfl
set_option maxRecDepth 100000 in
theorem tw_593 : Cond.lays "PlainWarehouseModel" "PlainWarehouseModel" "code" "I" ∈ WS := ws_in 593 rfl rfl
set_option maxRecDepth 100000 in
theorem tw_595 : Cond.lays "PlainWarehouseModel" "PlainWarehouseModel" "events" "I" ∈ WS := ws_in 595 rfl rfl
set_option maxRecDepth 100000 in
theorem tw_597 : Cond.lays "PlainWarehouseModel" "PlainWarehouseModel" "refused" "I" ∈ WS := ws_in 597 rfl rfl
set_option maxRecDepth 100000 in
theorem tw_599 : Cond.laysFinal "PlainWarehouseModel" "PlainWarehouseModel" "kind" "[I" ∈ WS := ws_in 599 rfl rfl
set_option maxRecDepth 100000 in
theorem tw_601 : Cond.laysFinal "PlainWarehouseModel" "PlainWarehouseModel" "a" "[I" ∈ WS := ws_in 601 rfl rfl
set_option maxRecDepth 100000 in
theorem tw_603 : Cond.laysFinal "PlainWarehouseModel" "PlainWarehouseModel" "b" "[I" ∈ WS := ws_in 603 rfl rfl
set_option maxRecDepth 100000 in
theorem tw_605 : Cond.laysFinal "PlainWarehouseModel" "PlainWarehouseModel" "c" "[I" ∈ WS := ws_in 605 rfl rfl
set_option maxRecDepth 100000 in
theorem tw_607 : Cond.laysFinal "PlainWarehouseModel" "PlainWarehouseModel" "place" "[I" ∈ WS := ws_in 607 rfl rfl
set_option maxRecDepth 100000 in
theorem tw_609 : Cond.laysFinal "PlainWarehouseModel" "PlainWarehouseModel" "good" "[I" ∈ WS := ws_in 609 rfl rfl
set_option maxRecDepth 100000 in
theorem tw_611 : Cond.laysFinal "PlainWarehouseModel" "PlainWarehouseModel" "given" "[I" ∈ WS := ws_in 611 rfl rfl
set_option maxRecDepth 100000 in
theorem tw_613 : Cond.laysFinal "PlainWarehouseModel" "PlainWarehouseModel" "wants" "[I" ∈ WS := ws_in 613 rfl rfl
set_option maxRecDepth 100000 in
theorem tw_615 : Cond.laysFinal "PlainWarehouseModel" "PlainWarehouseModel" "ofGood" "[I" ∈ WS := ws_in 615 rfl rfl
set_option maxRecDepth 100000 in
theorem tw_617 : Cond.laysFinal "PlainWarehouseModel" "PlainWarehouseModel" "got" "[I" ∈ WS := ws_in 617 rfl rfl
set_option maxRecDepth 100000 in
theorem tw_619 : Cond.laysFinal "PlainWarehouseModel" "PlainWarehouseModel" "cents" "[I" ∈ WS := ws_in 619 rfl rfl
set_option maxRecDepth 100000 in
theorem tw_621 : Cond.laysFinal "PlainWarehouseModel" "PlainWarehouseModel" "link" "[I" ∈ WS := ws_in 621 rfl rfl
set_option maxRecDepth 100000 in
theorem tw_623 : Cond.laysFinal "PlainWarehouseModel" "PlainWarehouseModel" "far" "[I" ∈ WS := ws_in 623 rfl rfl
set_option maxRecDepth 100000 in
theorem tw_625 : Cond.laysFinal "PlainWarehouseModel" "PlainWarehouseModel" "stops" "[I" ∈ WS := ws_in 625 rfl rfl
set_option maxRecDepth 100000 in
theorem tw_627 : Cond.laysFinal "PlainWarehouseModel" "PlainWarehouseModel" "costs" "[I" ∈ WS := ws_in 627 rfl rfl
set_option maxRecDepth 100000 in
theorem tw_633 : Cond.code ({ cls := "PlainWarehouseModel", name := "thrown", desc := "()I" } : MethodName) prog_6_method_2_code (1 : Nat) (Option.some FieldType.int) ∈ WS := ws_in 633 rfl rfl
set_option maxRecDepth 100000 in
theorem tw_637 : Cond.code ({ cls := "PlainWarehouseModel", name := "event", desc := "(IIII)I" } : MethodName) prog_6_method_14_code (5 : Nat) (Option.some FieldType.int) ∈ WS := ws_in 637 rfl rfl
set_option maxRecDepth 100000 in
theorem tw_640 : Cond.code ({ cls := "PlainWarehouseModel", name := "isSaid", desc := "(IIII)Z" } : MethodName) prog_6_method_7_code (4 : Nat) (Option.some FieldType.boolean) ∈ WS := ws_in 640 rfl rfl
set_option maxRecDepth 100000 in
theorem tw_643 : Cond.code ({ cls := "PlainWarehouseModel", name := "isUnit", desc := "(I)Z" } : MethodName) prog_6_method_4_code (1 : Nat) (Option.some FieldType.boolean) ∈ WS := ws_in 643 rfl rfl
set_option maxRecDepth 100000 in
theorem tw_646 : Cond.code ({ cls := "PlainWarehouseModel", name := "in", desc := "(III)Z" } : MethodName) prog_6_method_3_code (3 : Nat) (Option.some FieldType.boolean) ∈ WS := ws_in 646 rfl rfl
set_option maxRecDepth 100000 in
theorem tw_649 : Cond.code ({ cls := "PlainWarehouseModel", name := "isPlace", desc := "(I)Z" } : MethodName) prog_6_method_5_code (1 : Nat) (Option.some FieldType.boolean) ∈ WS := ws_in 649 rfl rfl
set_option maxRecDepth 100000 in
theorem tw_653 : Cond.code ({ cls := "PlainWarehouseModel", name := "can", desc := "(IIII)Z" } : MethodName) prog_6_method_11_code (5 : Nat) (Option.some FieldType.boolean) ∈ WS := ws_in 653 rfl rfl
set_option maxRecDepth 100000 in
theorem tw_657 : Cond.code ({ cls := "PlainWarehouseModel", name := "mayGo", desc := "(II)Z" } : MethodName) prog_6_method_9_code (3 : Nat) (Option.some FieldType.boolean) ∈ WS := ws_in 657 rfl rfl
set_option maxRecDepth 100000 in
theorem tw_661 : Cond.code ({ cls := "PlainWarehouseModel", name := "isOpen", desc := "(II)Z" } : MethodName) prog_6_method_8_code (3 : Nat) (Option.some FieldType.boolean) ∈ WS := ws_in 661 rfl rfl
set_option maxRecDepth 100000 in
theorem tw_665 : Cond.code ({ cls := "PlainWarehouseModel", name := "mayGive", desc := "(III)Z" } : MethodName) prog_6_method_10_code (5 : Nat) (Option.some FieldType.boolean) ∈ WS := ws_in 665 rfl rfl
set_option maxRecDepth 100000 in
theorem tw_669 : Cond.code ({ cls := "PlainWarehouseModel", name := "copy", desc := "(II)V" } : MethodName) prog_6_method_12_code (4 : Nat) (Option.none : Option FieldType) ∈ WS := ws_in 669 rfl rfl
set_option maxRecDepth 100000 in
theorem tw_673 : Cond.code ({ cls := "PlainWarehouseModel", name := "apply", desc := "(IIIII)V" } : MethodName) prog_6_method_13_code (6 : Nat) (Option.none : Option FieldType) ∈ WS := ws_in 673 rfl rfl
set_option maxRecDepth 100000 in
theorem tw_677 : Cond.code ({ cls := "PlainWarehouseModel", name := "back", desc := "()V" } : MethodName) prog_6_method_15_code (1 : Nat) (Option.none : Option FieldType) ∈ WS := ws_in 677 rfl rfl
set_option maxRecDepth 100000 in
theorem tw_681 : Cond.code ({ cls := "PlainWarehouseModel", name := "stock", desc := "(II)I" } : MethodName) prog_6_method_16_code (6 : Nat) (Option.some FieldType.int) ∈ WS := ws_in 681 rfl rfl
set_option maxRecDepth 100000 in
theorem tw_685 : Cond.code ({ cls := "PlainWarehouseModel", name := "where", desc := "(II)I" } : MethodName) prog_6_method_17_code (3 : Nat) (Option.some FieldType.int) ∈ WS := ws_in 685 rfl rfl
set_option maxRecDepth 100000 in
theorem tw_689 : Cond.code ({ cls := "PlainWarehouseModel", name := "money", desc := "(II)I" } : MethodName) prog_6_method_18_code (3 : Nat) (Option.some FieldType.int) ∈ WS := ws_in 689 rfl rfl
set_option maxRecDepth 100000 in
theorem tw_693 : Cond.code ({ cls := "PlainWarehouseModel", name := "order", desc := "(II)I" } : MethodName) prog_6_method_20_code (4 : Nat) (Option.some FieldType.int) ∈ WS := ws_in 693 rfl rfl
set_option maxRecDepth 100000 in
theorem tw_697 : Cond.code ({ cls := "PlainWarehouseModel", name := "isOrder", desc := "(I)Z" } : MethodName) prog_6_method_6_code (2 : Nat) (Option.some FieldType.boolean) ∈ WS := ws_in 697 rfl rfl
set_option maxRecDepth 100000 in
theorem tw_701 : Cond.code ({ cls := "PlainWarehouseModel", name := "freeOf", desc := "(I)I" } : MethodName) prog_6_method_19_code (4 : Nat) (Option.some FieldType.int) ∈ WS := ws_in 701 rfl rfl
set_option maxRecDepth 100000 in
theorem tw_705 : Cond.code ({ cls := "PlainWarehouseModel", name := "promise", desc := "(I)I" } : MethodName) prog_6_method_22_code (5 : Nat) (Option.some FieldType.int) ∈ WS := ws_in 705 rfl rfl
set_option maxRecDepth 100000 in
theorem tw_709 : Cond.code ({ cls := "PlainWarehouseModel", name := "filled", desc := "(II)I" } : MethodName) prog_6_method_21_code (8 : Nat) (Option.some FieldType.int) ∈ WS := ws_in 709 rfl rfl
set_option maxRecDepth 100000 in
theorem tw_713 : Cond.code ({ cls := "PlainWarehouseModel", name := "way", desc := "(II)I" } : MethodName) prog_6_method_24_code (3 : Nat) (Option.some FieldType.int) ∈ WS := ws_in 713 rfl rfl
set_option maxRecDepth 100000 in
theorem tw_717 : Cond.code ({ cls := "PlainWarehouseModel", name := "reach", desc := "()V" } : MethodName) prog_6_method_23_code (5 : Nat) (Option.none : Option FieldType) ∈ WS := ws_in 717 rfl rfl
set_option maxRecDepth 100000 in
theorem tw_722 : Cond.code ({ cls := "PlainWarehouseModel", name := "walk", desc := "(II)I" } : MethodName) prog_6_method_26_code (10 : Nat) (Option.some FieldType.int) ∈ WS := ws_in 722 rfl rfl
set_option maxRecDepth 100000 in
theorem tw_726 : Cond.code ({ cls := "PlainWarehouseModel", name := "places", desc := "(I)I" } : MethodName) prog_6_method_25_code (6 : Nat) (Option.some FieldType.int) ∈ WS := ws_in 726 rfl rfl
set_option maxRecDepth 100000 in
theorem tw_730 : Cond.code ({ cls := "PlainWarehouseModel", name := "needs", desc := "(I)I" } : MethodName) prog_6_method_29_code (2 : Nat) (Option.some FieldType.int) ∈ WS := ws_in 730 rfl rfl
set_option maxRecDepth 100000 in
theorem tw_734 : Cond.code ({ cls := "PlainWarehouseModel", name := "isEvent", desc := "(I)Z" } : MethodName) prog_6_method_28_code (2 : Nat) (Option.some FieldType.boolean) ∈ WS := ws_in 734 rfl rfl
set_option maxRecDepth 100000 in
theorem tw_738 : Cond.code ({ cls := "PlainWarehouseModel", name := "without", desc := "(IZ)I" } : MethodName) prog_6_method_27_code (5 : Nat) (Option.some FieldType.int) ∈ WS := ws_in 738 rfl rfl
set_option maxRecDepth 100000 in
theorem tw_742 : Cond.code ({ cls := "PlainWarehouseModel", name := "explained", desc := "(I)I" } : MethodName) prog_6_method_30_code (2 : Nat) (Option.some FieldType.int) ∈ WS := ws_in 742 rfl rfl
set_option maxRecDepth 100000 in
theorem tw_746 : Cond.code ({ cls := "PlainWarehouseModel", name := "told", desc := "(II)I" } : MethodName) prog_6_method_31_code (3 : Nat) (Option.some FieldType.int) ∈ WS := ws_in 746 rfl rfl
set_option maxRecDepth 100000 in
theorem tw_750 : Cond.code ({ cls := "PlainWarehouseModel", name := "count", desc := "(I)I" } : MethodName) prog_6_method_32_code (4 : Nat) (Option.some FieldType.int) ∈ WS := ws_in 750 rfl rfl
def R_P : String := "PlainWarehouse"
def T_P : u_T := fun k => match k with
  | 0 => ("PlainWarehouse", "row", "[I", true)
  | 1 => ("PlainWarehouse", "eventCount", "I", false)
  | 2 => ("PlainWarehouse", "refusedCount", "I", false)
  | 3 => ("PlainWarehouse", "house", "LPlainWarehouse$House;", true)
  | 4 => ("PlainWarehouse", "fillings", "LPlainWarehouse$Fillings;", true)
  | _ => ("PlainWarehouse", "ways", "LPlainWarehouse$Ways;", true)
def ty_P : Nat → FieldType := fun k => match k with
  | 0 => .array .int
  | 1 => .int
  | 2 => .int
  | 3 => .object "PlainWarehouse$House"
  | 4 => .object "PlainWarehouse$Fillings"
  | _ => .object "PlainWarehouse$Ways"
theorem nm_P : ∀ a, a < 6 → ∀ b, b < 6 → a ≠ b → (T_P a).2.1 ≠ (T_P b).2.1 := by decide +kernel
theorem ty_P_ok : ∀ k, k < 6 → parseFieldDescriptor (T_P k).2.2.1 = some (ty_P k) := by decide +kernel
theorem in_P : ∀ z ∈ u_ws R_P T_P 6, z ∈ WS := by
  intro z hz
  obtain ⟨k, hk, rfl⟩ := List.mem_map.mp hz
  have hk : k < 6 := List.mem_range.mp hk
  match k, hk with
  | 0, _ => exact tw_149
  | 1, _ => exact tw_151
  | 2, _ => exact tw_153
  | 3, _ => exact tw_155
  | 4, _ => exact tw_157
  | 5, _ => exact tw_159
def R_H : String := "PlainWarehouse$House"
def T_H : u_T := fun k => match k with
  | 0 => ("PlainWarehouse$House", "placeOf", "[I", true)
  | 1 => ("PlainWarehouse$House", "goodOf", "[I", true)
  | 2 => ("PlainWarehouse$House", "givenTo", "[I", true)
  | 3 => ("PlainWarehouse$House", "wanted", "[I", true)
  | 4 => ("PlainWarehouse$House", "goodWanted", "[I", true)
  | 5 => ("PlainWarehouse$House", "got", "[I", true)
  | 6 => ("PlainWarehouse$House", "cents", "[I", true)
  | _ => ("PlainWarehouse$House", "link", "[I", true)
def ty_H : Nat → FieldType := fun k => match k with
  | 0 => .array .int
  | 1 => .array .int
  | 2 => .array .int
  | 3 => .array .int
  | 4 => .array .int
  | 5 => .array .int
  | 6 => .array .int
  | _ => .array .int
theorem nm_H : ∀ a, a < 8 → ∀ b, b < 8 → a ≠ b → (T_H a).2.1 ≠ (T_H b).2.1 := by decide +kernel
theorem ty_H_ok : ∀ k, k < 8 → parseFieldDescriptor (T_H k).2.2.1 = some (ty_H k) := by decide +kernel
theorem in_H : ∀ z ∈ u_ws R_H T_H 8, z ∈ WS := by
  intro z hz
  obtain ⟨k, hk, rfl⟩ := List.mem_map.mp hz
  have hk : k < 8 := List.mem_range.mp hk
  match k, hk with
  | 0, _ => exact tw_93
  | 1, _ => exact tw_95
  | 2, _ => exact tw_97
  | 3, _ => exact tw_99
  | 4, _ => exact tw_101
  | 5, _ => exact tw_103
  | 6, _ => exact tw_105
  | 7, _ => exact tw_107
def R_F : String := "PlainWarehouse$Fillings"
def T_F : u_T := fun k => match k with
  | 0 => ("PlainWarehouse$Fillings", "lacking", "[I", true)
  | 1 => ("PlainWarehouse$Fillings", "goods", "[I", true)
  | 2 => ("PlainWarehouse$Fillings", "free", "[I", true)
  | 3 => ("PlainWarehouse$Fillings", "left", "[I", true)
  | _ => ("PlainWarehouse$Fillings", "size", "I", false)
def ty_F : Nat → FieldType := fun k => match k with
  | 0 => .array .int
  | 1 => .array .int
  | 2 => .array .int
  | 3 => .array .int
  | _ => .int
theorem nm_F : ∀ a, a < 5 → ∀ b, b < 5 → a ≠ b → (T_F a).2.1 ≠ (T_F b).2.1 := by decide +kernel
theorem ty_F_ok : ∀ k, k < 5 → parseFieldDescriptor (T_F k).2.2.1 = some (ty_F k) := by decide +kernel
theorem in_F : ∀ z ∈ u_ws R_F T_F 5, z ∈ WS := by
  intro z hz
  obtain ⟨k, hk, rfl⟩ := List.mem_map.mp hz
  have hk : k < 5 := List.mem_range.mp hk
  match k, hk with
  | 0, _ => exact tw_122
  | 1, _ => exact tw_124
  | 2, _ => exact tw_126
  | 3, _ => exact tw_128
  | 4, _ => exact tw_130
def R_Y : String := "PlainWarehouse$Ways"
def T_Y : u_T := fun k => match k with
  | _ => ("PlainWarehouse$Ways", "seconds", "[I", true)
def ty_Y : Nat → FieldType := fun k => match k with
  | _ => .array .int
theorem nm_Y : ∀ a, a < 1 → ∀ b, b < 1 → a ≠ b → (T_Y a).2.1 ≠ (T_Y b).2.1 := by decide +kernel
theorem ty_Y_ok : ∀ k, k < 1 → parseFieldDescriptor (T_Y k).2.2.1 = some (ty_Y k) := by decide +kernel
theorem in_Y : ∀ z ∈ u_ws R_Y T_Y 1, z ∈ WS := by
  intro z hz
  obtain ⟨k, hk, rfl⟩ := List.mem_map.mp hz
  have hk : k < 1 := List.mem_range.mp hk
  match k, hk with
  | 0, _ => exact tw_140
def R_M : String := "PlainWarehouseModel"
def T_M : u_T := fun k => match k with
  | 0 => ("PlainWarehouseModel", "code", "I", false)
  | 1 => ("PlainWarehouseModel", "events", "I", false)
  | 2 => ("PlainWarehouseModel", "refused", "I", false)
  | 3 => ("PlainWarehouseModel", "kind", "[I", true)
  | 4 => ("PlainWarehouseModel", "a", "[I", true)
  | 5 => ("PlainWarehouseModel", "b", "[I", true)
  | 6 => ("PlainWarehouseModel", "c", "[I", true)
  | 7 => ("PlainWarehouseModel", "place", "[I", true)
  | 8 => ("PlainWarehouseModel", "good", "[I", true)
  | 9 => ("PlainWarehouseModel", "given", "[I", true)
  | 10 => ("PlainWarehouseModel", "wants", "[I", true)
  | 11 => ("PlainWarehouseModel", "ofGood", "[I", true)
  | 12 => ("PlainWarehouseModel", "got", "[I", true)
  | 13 => ("PlainWarehouseModel", "cents", "[I", true)
  | 14 => ("PlainWarehouseModel", "link", "[I", true)
  | 15 => ("PlainWarehouseModel", "far", "[I", true)
  | 16 => ("PlainWarehouseModel", "stops", "[I", true)
  | _ => ("PlainWarehouseModel", "costs", "[I", true)
def ty_M : Nat → FieldType := fun k => match k with
  | 0 => .int
  | 1 => .int
  | 2 => .int
  | 3 => .array .int
  | 4 => .array .int
  | 5 => .array .int
  | 6 => .array .int
  | 7 => .array .int
  | 8 => .array .int
  | 9 => .array .int
  | 10 => .array .int
  | 11 => .array .int
  | 12 => .array .int
  | 13 => .array .int
  | 14 => .array .int
  | 15 => .array .int
  | 16 => .array .int
  | _ => .array .int
theorem nm_M : ∀ a, a < 18 → ∀ b, b < 18 → a ≠ b → (T_M a).2.1 ≠ (T_M b).2.1 := by decide +kernel
theorem ty_M_ok : ∀ k, k < 18 → parseFieldDescriptor (T_M k).2.2.1 = some (ty_M k) := by decide +kernel
theorem in_M : ∀ z ∈ u_ws R_M T_M 18, z ∈ WS := by
  intro z hz
  obtain ⟨k, hk, rfl⟩ := List.mem_map.mp hz
  have hk : k < 18 := List.mem_range.mp hk
  match k, hk with
  | 0, _ => exact tw_593
  | 1, _ => exact tw_595
  | 2, _ => exact tw_597
  | 3, _ => exact tw_599
  | 4, _ => exact tw_601
  | 5, _ => exact tw_603
  | 6, _ => exact tw_605
  | 7, _ => exact tw_607
  | 8, _ => exact tw_609
  | 9, _ => exact tw_611
  | 10, _ => exact tw_613
  | 11, _ => exact tw_615
  | 12, _ => exact tw_617
  | 13, _ => exact tw_619
  | 14, _ => exact tw_621
  | 15, _ => exact tw_623
  | 16, _ => exact tw_625
  | 17, _ => exact tw_627
  | k + 18, h => exact absurd h (by omega)
abbrev vwCl : List vw_C := [(R_P, T_P, 6), (R_H, T_H, 8), (R_F, T_F, 5), (R_Y, T_Y, 1), (R_M, T_M, 18)]
abbrev cc_P_init : ByteArray := prog_1_method_1_code
def y_P_init : MethodName := ⟨"PlainWarehouse", "<init>", "()V"⟩
theorem kf_P_init : Cond.code y_P_init cc_P_init 1 none ∈ WS ∧ Cond.initialized y_P_init.cls ∈ WS ∧ (y_P_init.cls ≠ "java/lang/invoke/MethodHandle" ∧ y_P_init.cls ≠ "java/lang/invoke/VarHandle" ∧ (parseMethodDescriptor y_P_init.desc).map (fun d => d.parameters.length) = some 0) := ⟨tw_67, tw_47, by decide +kernel⟩
abbrev ws_P_init : List Cond := Cond.code y_P_init cc_P_init 1 none :: WS
abbrev cc_P_event : ByteArray := prog_1_method_2_code
def y_P_event : MethodName := ⟨"PlainWarehouse", "event", "(IIII)I"⟩
theorem kf_P_event : Cond.code y_P_event cc_P_event 5 (some .int) ∈ WS ∧ Cond.initialized y_P_event.cls ∈ WS ∧ (y_P_event.cls ≠ "java/lang/invoke/MethodHandle" ∧ y_P_event.cls ≠ "java/lang/invoke/VarHandle" ∧ (parseMethodDescriptor y_P_event.desc).map (fun d => d.parameters.length) = some 4) := ⟨tw_251, tw_47, by decide +kernel⟩
abbrev ws_P_event : List Cond := Cond.code y_P_event cc_P_event 5 (some .int) :: WS
abbrev cc_P_stock : ByteArray := prog_1_method_3_code
def y_P_stock : MethodName := ⟨"PlainWarehouse", "stock", "(II)I"⟩
theorem kf_P_stock : Cond.code y_P_stock cc_P_stock 3 (some .int) ∈ WS ∧ Cond.initialized y_P_stock.cls ∈ WS ∧ (y_P_stock.cls ≠ "java/lang/invoke/MethodHandle" ∧ y_P_stock.cls ≠ "java/lang/invoke/VarHandle" ∧ (parseMethodDescriptor y_P_stock.desc).map (fun d => d.parameters.length) = some 2) := ⟨tw_368, tw_47, by decide +kernel⟩
abbrev ws_P_stock : List Cond := Cond.code y_P_stock cc_P_stock 3 (some .int) :: WS
abbrev cc_P_where : ByteArray := prog_1_method_4_code
def y_P_where : MethodName := ⟨"PlainWarehouse", "where", "(II)I"⟩
theorem kf_P_where : Cond.code y_P_where cc_P_where 3 (some .int) ∈ WS ∧ Cond.initialized y_P_where.cls ∈ WS ∧ (y_P_where.cls ≠ "java/lang/invoke/MethodHandle" ∧ y_P_where.cls ≠ "java/lang/invoke/VarHandle" ∧ (parseMethodDescriptor y_P_where.desc).map (fun d => d.parameters.length) = some 2) := ⟨tw_378, tw_47, by decide +kernel⟩
abbrev ws_P_where : List Cond := Cond.code y_P_where cc_P_where 3 (some .int) :: WS
abbrev cc_P_order : ByteArray := prog_1_method_5_code
def y_P_order : MethodName := ⟨"PlainWarehouse", "order", "(II)I"⟩
theorem kf_P_order : Cond.code y_P_order cc_P_order 3 (some .int) ∈ WS ∧ Cond.initialized y_P_order.cls ∈ WS ∧ (y_P_order.cls ≠ "java/lang/invoke/MethodHandle" ∧ y_P_order.cls ≠ "java/lang/invoke/VarHandle" ∧ (parseMethodDescriptor y_P_order.desc).map (fun d => d.parameters.length) = some 2) := ⟨tw_406, tw_47, by decide +kernel⟩
abbrev ws_P_order : List Cond := Cond.code y_P_order cc_P_order 3 (some .int) :: WS
abbrev cc_P_promise : ByteArray := prog_1_method_6_code
def y_P_promise : MethodName := ⟨"PlainWarehouse", "promise", "(I)I"⟩
theorem kf_P_promise : Cond.code y_P_promise cc_P_promise 2 (some .int) ∈ WS ∧ Cond.initialized y_P_promise.cls ∈ WS ∧ (y_P_promise.cls ≠ "java/lang/invoke/MethodHandle" ∧ y_P_promise.cls ≠ "java/lang/invoke/VarHandle" ∧ (parseMethodDescriptor y_P_promise.desc).map (fun d => d.parameters.length) = some 1) := ⟨tw_421, tw_47, by decide +kernel⟩
abbrev ws_P_promise : List Cond := Cond.code y_P_promise cc_P_promise 2 (some .int) :: WS
abbrev cc_P_way : ByteArray := prog_1_method_7_code
def y_P_way : MethodName := ⟨"PlainWarehouse", "way", "(II)I"⟩
theorem kf_P_way : Cond.code y_P_way cc_P_way 3 (some .int) ∈ WS ∧ Cond.initialized y_P_way.cls ∈ WS ∧ (y_P_way.cls ≠ "java/lang/invoke/MethodHandle" ∧ y_P_way.cls ≠ "java/lang/invoke/VarHandle" ∧ (parseMethodDescriptor y_P_way.desc).map (fun d => d.parameters.length) = some 2) := ⟨tw_465, tw_47, by decide +kernel⟩
abbrev ws_P_way : List Cond := Cond.code y_P_way cc_P_way 3 (some .int) :: WS
abbrev cc_P_walk : ByteArray := prog_1_method_8_code
def y_P_walk : MethodName := ⟨"PlainWarehouse", "walk", "(II)I"⟩
theorem kf_P_walk : Cond.code y_P_walk cc_P_walk 4 (some .int) ∈ WS ∧ Cond.initialized y_P_walk.cls ∈ WS ∧ (y_P_walk.cls ≠ "java/lang/invoke/MethodHandle" ∧ y_P_walk.cls ≠ "java/lang/invoke/VarHandle" ∧ (parseMethodDescriptor y_P_walk.desc).map (fun d => d.parameters.length) = some 2) := ⟨tw_497, tw_47, by decide +kernel⟩
abbrev ws_P_walk : List Cond := Cond.code y_P_walk cc_P_walk 4 (some .int) :: WS
abbrev cc_P_money : ByteArray := prog_1_method_9_code
def y_P_money : MethodName := ⟨"PlainWarehouse", "money", "(II)I"⟩
theorem kf_P_money : Cond.code y_P_money cc_P_money 3 (some .int) ∈ WS ∧ Cond.initialized y_P_money.cls ∈ WS ∧ (y_P_money.cls ≠ "java/lang/invoke/MethodHandle" ∧ y_P_money.cls ≠ "java/lang/invoke/VarHandle" ∧ (parseMethodDescriptor y_P_money.desc).map (fun d => d.parameters.length) = some 2) := ⟨tw_516, tw_47, by decide +kernel⟩
abbrev ws_P_money : List Cond := Cond.code y_P_money cc_P_money 3 (some .int) :: WS
abbrev cc_P_needs : ByteArray := prog_1_method_10_code
def y_P_needs : MethodName := ⟨"PlainWarehouse", "needs", "(I)I"⟩
theorem kf_P_needs : Cond.code y_P_needs cc_P_needs 4 (some .int) ∈ WS ∧ Cond.initialized y_P_needs.cls ∈ WS ∧ (y_P_needs.cls ≠ "java/lang/invoke/MethodHandle" ∧ y_P_needs.cls ≠ "java/lang/invoke/VarHandle" ∧ (parseMethodDescriptor y_P_needs.desc).map (fun d => d.parameters.length) = some 1) := ⟨tw_524, tw_47, by decide +kernel⟩
abbrev ws_P_needs : List Cond := Cond.code y_P_needs cc_P_needs 4 (some .int) :: WS
abbrev cc_P_explained : ByteArray := prog_1_method_11_code
def y_P_explained : MethodName := ⟨"PlainWarehouse", "explained", "(I)I"⟩
theorem kf_P_explained : Cond.code y_P_explained cc_P_explained 3 (some .int) ∈ WS ∧ Cond.initialized y_P_explained.cls ∈ WS ∧ (y_P_explained.cls ≠ "java/lang/invoke/MethodHandle" ∧ y_P_explained.cls ≠ "java/lang/invoke/VarHandle" ∧ (parseMethodDescriptor y_P_explained.desc).map (fun d => d.parameters.length) = some 1) := ⟨tw_536, tw_47, by decide +kernel⟩
abbrev ws_P_explained : List Cond := Cond.code y_P_explained cc_P_explained 3 (some .int) :: WS
abbrev cc_P_told : ByteArray := prog_1_method_12_code
def y_P_told : MethodName := ⟨"PlainWarehouse", "told", "(II)I"⟩
theorem kf_P_told : Cond.code y_P_told cc_P_told 3 (some .int) ∈ WS ∧ Cond.initialized y_P_told.cls ∈ WS ∧ (y_P_told.cls ≠ "java/lang/invoke/MethodHandle" ∧ y_P_told.cls ≠ "java/lang/invoke/VarHandle" ∧ (parseMethodDescriptor y_P_told.desc).map (fun d => d.parameters.length) = some 2) := ⟨tw_543, tw_47, by decide +kernel⟩
abbrev ws_P_told : List Cond := Cond.code y_P_told cc_P_told 3 (some .int) :: WS
abbrev cc_P_back : ByteArray := prog_1_method_13_code
def y_P_back : MethodName := ⟨"PlainWarehouse", "back", "()V"⟩
theorem kf_P_back : Cond.code y_P_back cc_P_back 1 none ∈ WS ∧ Cond.initialized y_P_back.cls ∈ WS ∧ (y_P_back.cls ≠ "java/lang/invoke/MethodHandle" ∧ y_P_back.cls ≠ "java/lang/invoke/VarHandle" ∧ (parseMethodDescriptor y_P_back.desc).map (fun d => d.parameters.length) = some 0) := ⟨tw_552, tw_47, by decide +kernel⟩
abbrev ws_P_back : List Cond := Cond.code y_P_back cc_P_back 1 none :: WS
abbrev cc_P_count : ByteArray := prog_1_method_14_code
def y_P_count : MethodName := ⟨"PlainWarehouse", "count", "(I)I"⟩
theorem kf_P_count : Cond.code y_P_count cc_P_count 2 (some .int) ∈ WS ∧ Cond.initialized y_P_count.cls ∈ WS ∧ (y_P_count.cls ≠ "java/lang/invoke/MethodHandle" ∧ y_P_count.cls ≠ "java/lang/invoke/VarHandle" ∧ (parseMethodDescriptor y_P_count.desc).map (fun d => d.parameters.length) = some 1) := ⟨tw_165, tw_47, by decide +kernel⟩
abbrev ws_P_count : List Cond := Cond.code y_P_count cc_P_count 2 (some .int) :: WS
abbrev cc_P_keep : ByteArray := prog_1_method_15_code
def y_P_keep : MethodName := ⟨"PlainWarehouse", "keep", "(IIII)V"⟩
theorem kf_P_keep : Cond.code y_P_keep cc_P_keep 6 none ∈ WS ∧ Cond.initialized y_P_keep.cls ∈ WS ∧ (y_P_keep.cls ≠ "java/lang/invoke/MethodHandle" ∧ y_P_keep.cls ≠ "java/lang/invoke/VarHandle" ∧ (parseMethodDescriptor y_P_keep.desc).map (fun d => d.parameters.length) = some 4) := ⟨tw_361, tw_47, by decide +kernel⟩
abbrev ws_P_keep : List Cond := Cond.code y_P_keep cc_P_keep 6 none :: WS
abbrev cc_P_replay : ByteArray := prog_1_method_16_code
def y_P_replay : MethodName := ⟨"PlainWarehouse", "replay", "(I)V"⟩
theorem kf_P_replay : Cond.code y_P_replay cc_P_replay 3 none ∈ WS ∧ Cond.initialized y_P_replay.cls ∈ WS ∧ (y_P_replay.cls ≠ "java/lang/invoke/MethodHandle" ∧ y_P_replay.cls ≠ "java/lang/invoke/VarHandle" ∧ (parseMethodDescriptor y_P_replay.desc).map (fun d => d.parameters.length) = some 1) := ⟨tw_169, tw_47, by decide +kernel⟩
abbrev ws_P_replay : List Cond := Cond.code y_P_replay cc_P_replay 3 none :: WS
abbrev cc_P_takeKept : ByteArray := prog_1_method_17_code
def y_P_takeKept : MethodName := ⟨"PlainWarehouse", "takeKept", "(I)Z"⟩
theorem kf_P_takeKept : Cond.code y_P_takeKept cc_P_takeKept 3 (some .boolean) ∈ WS ∧ Cond.initialized y_P_takeKept.cls ∈ WS ∧ (y_P_takeKept.cls ≠ "java/lang/invoke/MethodHandle" ∧ y_P_takeKept.cls ≠ "java/lang/invoke/VarHandle" ∧ (parseMethodDescriptor y_P_takeKept.desc).map (fun d => d.parameters.length) = some 1) := ⟨tw_180, tw_47, by decide +kernel⟩
abbrev ws_P_takeKept : List Cond := Cond.code y_P_takeKept cc_P_takeKept 3 (some .boolean) :: WS
abbrev cc_P_areAllTold : ByteArray := prog_1_method_18_code
def y_P_areAllTold : MethodName := ⟨"PlainWarehouse", "areAllTold", "(I)Z"⟩
theorem kf_P_areAllTold : Cond.code y_P_areAllTold cc_P_areAllTold 3 (some .boolean) ∈ WS ∧ Cond.initialized y_P_areAllTold.cls ∈ WS ∧ (y_P_areAllTold.cls ≠ "java/lang/invoke/MethodHandle" ∧ y_P_areAllTold.cls ≠ "java/lang/invoke/VarHandle" ∧ (parseMethodDescriptor y_P_areAllTold.desc).map (fun d => d.parameters.length) = some 1) := ⟨tw_425, tw_47, by decide +kernel⟩
abbrev ws_P_areAllTold : List Cond := Cond.code y_P_areAllTold cc_P_areAllTold 3 (some .boolean) :: WS
abbrev cc_P_isEvent : ByteArray := prog_1_method_19_code
def y_P_isEvent : MethodName := ⟨"PlainWarehouse", "isEvent", "(I)Z"⟩
theorem kf_P_isEvent : Cond.code y_P_isEvent cc_P_isEvent 2 (some .boolean) ∈ WS ∧ Cond.initialized y_P_isEvent.cls ∈ WS ∧ (y_P_isEvent.cls ≠ "java/lang/invoke/MethodHandle" ∧ y_P_isEvent.cls ≠ "java/lang/invoke/VarHandle" ∧ (parseMethodDescriptor y_P_isEvent.desc).map (fun d => d.parameters.length) = some 1) := ⟨tw_528, tw_47, by decide +kernel⟩
abbrev ws_P_isEvent : List Cond := Cond.code y_P_isEvent cc_P_isEvent 2 (some .boolean) :: WS
abbrev cc_P_hasSoMany : ByteArray := prog_1_method_20_code
def y_P_hasSoMany : MethodName := ⟨"PlainWarehouse", "hasSoMany", "(I)Z"⟩
theorem kf_P_hasSoMany : Cond.code y_P_hasSoMany cc_P_hasSoMany 2 (some .boolean) ∈ WS ∧ Cond.initialized y_P_hasSoMany.cls ∈ WS ∧ (y_P_hasSoMany.cls ≠ "java/lang/invoke/MethodHandle" ∧ y_P_hasSoMany.cls ≠ "java/lang/invoke/VarHandle" ∧ (parseMethodDescriptor y_P_hasSoMany.desc).map (fun d => d.parameters.length) = some 1) := ⟨tw_382, tw_47, by decide +kernel⟩
abbrev ws_P_hasSoMany : List Cond := Cond.code y_P_hasSoMany cc_P_hasSoMany 2 (some .boolean) :: WS
abbrev cc_P_isInRange : ByteArray := prog_1_method_21_code
def y_P_isInRange : MethodName := ⟨"PlainWarehouse", "isInRange", "(IIII)Z"⟩
theorem kf_P_isInRange : Cond.code y_P_isInRange cc_P_isInRange 4 (some .boolean) ∈ WS ∧ Cond.initialized y_P_isInRange.cls ∈ WS ∧ (y_P_isInRange.cls ≠ "java/lang/invoke/MethodHandle" ∧ y_P_isInRange.cls ≠ "java/lang/invoke/VarHandle" ∧ (parseMethodDescriptor y_P_isInRange.desc).map (fun d => d.parameters.length) = some 4) := ⟨tw_254, tw_47, by decide +kernel⟩
abbrev ws_P_isInRange : List Cond := Cond.code y_P_isInRange cc_P_isInRange 4 (some .boolean) :: WS
abbrev cc_P_isUnit : ByteArray := prog_1_method_22_code
def y_P_isUnit : MethodName := ⟨"PlainWarehouse", "isUnit", "(I)Z"⟩
theorem kf_P_isUnit : Cond.code y_P_isUnit cc_P_isUnit 1 (some .boolean) ∈ WS ∧ Cond.initialized y_P_isUnit.cls ∈ WS ∧ (y_P_isUnit.cls ≠ "java/lang/invoke/MethodHandle" ∧ y_P_isUnit.cls ≠ "java/lang/invoke/VarHandle" ∧ (parseMethodDescriptor y_P_isUnit.desc).map (fun d => d.parameters.length) = some 1) := ⟨tw_257, tw_47, by decide +kernel⟩
abbrev ws_P_isUnit : List Cond := Cond.code y_P_isUnit cc_P_isUnit 1 (some .boolean) :: WS
abbrev cc_P_isGood : ByteArray := prog_1_method_23_code
def y_P_isGood : MethodName := ⟨"PlainWarehouse", "isGood", "(I)Z"⟩
theorem kf_P_isGood : Cond.code y_P_isGood cc_P_isGood 1 (some .boolean) ∈ WS ∧ Cond.initialized y_P_isGood.cls ∈ WS ∧ (y_P_isGood.cls ≠ "java/lang/invoke/MethodHandle" ∧ y_P_isGood.cls ≠ "java/lang/invoke/VarHandle" ∧ (parseMethodDescriptor y_P_isGood.desc).map (fun d => d.parameters.length) = some 1) := ⟨tw_263, tw_47, by decide +kernel⟩
abbrev ws_P_isGood : List Cond := Cond.code y_P_isGood cc_P_isGood 1 (some .boolean) :: WS
abbrev cc_P_isPlace : ByteArray := prog_1_method_24_code
def y_P_isPlace : MethodName := ⟨"PlainWarehouse", "isPlace", "(I)Z"⟩
theorem kf_P_isPlace : Cond.code y_P_isPlace cc_P_isPlace 1 (some .boolean) ∈ WS ∧ Cond.initialized y_P_isPlace.cls ∈ WS ∧ (y_P_isPlace.cls ≠ "java/lang/invoke/MethodHandle" ∧ y_P_isPlace.cls ≠ "java/lang/invoke/VarHandle" ∧ (parseMethodDescriptor y_P_isPlace.desc).map (fun d => d.parameters.length) = some 1) := ⟨tw_266, tw_47, by decide +kernel⟩
abbrev ws_P_isPlace : List Cond := Cond.code y_P_isPlace cc_P_isPlace 1 (some .boolean) :: WS
abbrev cc_P_isOrder : ByteArray := prog_1_method_25_code
def y_P_isOrder : MethodName := ⟨"PlainWarehouse", "isOrder", "(I)Z"⟩
theorem kf_P_isOrder : Cond.code y_P_isOrder cc_P_isOrder 1 (some .boolean) ∈ WS ∧ Cond.initialized y_P_isOrder.cls ∈ WS ∧ (y_P_isOrder.cls ≠ "java/lang/invoke/MethodHandle" ∧ y_P_isOrder.cls ≠ "java/lang/invoke/VarHandle" ∧ (parseMethodDescriptor y_P_isOrder.desc).map (fun d => d.parameters.length) = some 1) := ⟨tw_269, tw_47, by decide +kernel⟩
abbrev ws_P_isOrder : List Cond := Cond.code y_P_isOrder cc_P_isOrder 1 (some .boolean) :: WS
abbrev cc_P_isOwner : ByteArray := prog_1_method_26_code
def y_P_isOwner : MethodName := ⟨"PlainWarehouse", "isOwner", "(I)Z"⟩
theorem kf_P_isOwner : Cond.code y_P_isOwner cc_P_isOwner 1 (some .boolean) ∈ WS ∧ Cond.initialized y_P_isOwner.cls ∈ WS ∧ (y_P_isOwner.cls ≠ "java/lang/invoke/MethodHandle" ∧ y_P_isOwner.cls ≠ "java/lang/invoke/VarHandle" ∧ (parseMethodDescriptor y_P_isOwner.desc).map (fun d => d.parameters.length) = some 1) := ⟨tw_272, tw_47, by decide +kernel⟩
abbrev ws_P_isOwner : List Cond := Cond.code y_P_isOwner cc_P_isOwner 1 (some .boolean) :: WS
abbrev cc_P_isWithin : ByteArray := prog_1_method_27_code
def y_P_isWithin : MethodName := ⟨"PlainWarehouse", "isWithin", "(III)Z"⟩
theorem kf_P_isWithin : Cond.code y_P_isWithin cc_P_isWithin 3 (some .boolean) ∈ WS ∧ Cond.initialized y_P_isWithin.cls ∈ WS ∧ (y_P_isWithin.cls ≠ "java/lang/invoke/MethodHandle" ∧ y_P_isWithin.cls ≠ "java/lang/invoke/VarHandle" ∧ (parseMethodDescriptor y_P_isWithin.desc).map (fun d => d.parameters.length) = some 3) := ⟨tw_260, tw_47, by decide +kernel⟩
abbrev ws_P_isWithin : List Cond := Cond.code y_P_isWithin cc_P_isWithin 3 (some .boolean) :: WS
abbrev cc_P_isInSet : ByteArray := prog_1_method_28_code
def y_P_isInSet : MethodName := ⟨"PlainWarehouse", "isInSet", "(II)Z"⟩
theorem kf_P_isInSet : Cond.code y_P_isInSet cc_P_isInSet 2 (some .boolean) ∈ WS ∧ Cond.initialized y_P_isInSet.cls ∈ WS ∧ (y_P_isInSet.cls ≠ "java/lang/invoke/MethodHandle" ∧ y_P_isInSet.cls ≠ "java/lang/invoke/VarHandle" ∧ (parseMethodDescriptor y_P_isInSet.desc).map (fun d => d.parameters.length) = some 2) := ⟨tw_428, tw_47, by decide +kernel⟩
abbrev ws_P_isInSet : List Cond := Cond.code y_P_isInSet cc_P_isInSet 2 (some .boolean) :: WS
abbrev cc_P_pair : ByteArray := prog_1_method_29_code
def y_P_pair : MethodName := ⟨"PlainWarehouse", "pair", "(II)I"⟩
theorem kf_P_pair : Cond.code y_P_pair cc_P_pair 2 (some .int) ∈ WS ∧ Cond.initialized y_P_pair.cls ∈ WS ∧ (y_P_pair.cls ≠ "java/lang/invoke/MethodHandle" ∧ y_P_pair.cls ≠ "java/lang/invoke/VarHandle" ∧ (parseMethodDescriptor y_P_pair.desc).map (fun d => d.parameters.length) = some 2) := ⟨tw_219, tw_47, by decide +kernel⟩
abbrev ws_P_pair : List Cond := Cond.code y_P_pair cc_P_pair 2 (some .int) :: WS
abbrev cc_P_orNone : ByteArray := prog_1_method_30_code
def y_P_orNone : MethodName := ⟨"PlainWarehouse", "orNone", "(I)I"⟩
theorem kf_P_orNone : Cond.code y_P_orNone cc_P_orNone 1 (some .int) ∈ WS ∧ Cond.initialized y_P_orNone.cls ∈ WS ∧ (y_P_orNone.cls ≠ "java/lang/invoke/MethodHandle" ∧ y_P_orNone.cls ≠ "java/lang/invoke/VarHandle" ∧ (parseMethodDescriptor y_P_orNone.desc).map (fun d => d.parameters.length) = some 1) := ⟨tw_489, tw_47, by decide +kernel⟩
abbrev ws_P_orNone : List Cond := Cond.code y_P_orNone cc_P_orNone 1 (some .int) :: WS
abbrev cc_M_init : ByteArray := prog_6_method_1_code
def y_M_init : MethodName := ⟨"PlainWarehouseModel", "<init>", "()V"⟩
theorem kf_M_init : Cond.code y_M_init cc_M_init 2 none ∈ WS ∧ Cond.initialized y_M_init.cls ∈ WS ∧ (y_M_init.cls ≠ "java/lang/invoke/MethodHandle" ∧ y_M_init.cls ≠ "java/lang/invoke/VarHandle" ∧ (parseMethodDescriptor y_M_init.desc).map (fun d => d.parameters.length) = some 0) := ⟨tw_573, tw_51, by decide +kernel⟩
abbrev ws_M_init : List Cond := Cond.code y_M_init cc_M_init 2 none :: WS
abbrev cc_M_thrown : ByteArray := prog_6_method_2_code
def y_M_thrown : MethodName := ⟨"PlainWarehouseModel", "thrown", "()I"⟩
theorem kf_M_thrown : Cond.code y_M_thrown cc_M_thrown 1 (some .int) ∈ WS ∧ Cond.initialized y_M_thrown.cls ∈ WS ∧ (y_M_thrown.cls ≠ "java/lang/invoke/MethodHandle" ∧ y_M_thrown.cls ≠ "java/lang/invoke/VarHandle" ∧ (parseMethodDescriptor y_M_thrown.desc).map (fun d => d.parameters.length) = some 0) := ⟨tw_633, tw_51, by decide +kernel⟩
abbrev ws_M_thrown : List Cond := Cond.code y_M_thrown cc_M_thrown 1 (some .int) :: WS
abbrev cc_M_in : ByteArray := prog_6_method_3_code
def y_M_in : MethodName := ⟨"PlainWarehouseModel", "in", "(III)Z"⟩
theorem kf_M_in : Cond.code y_M_in cc_M_in 3 (some .boolean) ∈ WS ∧ Cond.initialized y_M_in.cls ∈ WS ∧ (y_M_in.cls ≠ "java/lang/invoke/MethodHandle" ∧ y_M_in.cls ≠ "java/lang/invoke/VarHandle" ∧ (parseMethodDescriptor y_M_in.desc).map (fun d => d.parameters.length) = some 3) := ⟨tw_646, tw_51, by decide +kernel⟩
abbrev ws_M_in : List Cond := Cond.code y_M_in cc_M_in 3 (some .boolean) :: WS
abbrev cc_M_isUnit : ByteArray := prog_6_method_4_code
def y_M_isUnit : MethodName := ⟨"PlainWarehouseModel", "isUnit", "(I)Z"⟩
theorem kf_M_isUnit : Cond.code y_M_isUnit cc_M_isUnit 1 (some .boolean) ∈ WS ∧ Cond.initialized y_M_isUnit.cls ∈ WS ∧ (y_M_isUnit.cls ≠ "java/lang/invoke/MethodHandle" ∧ y_M_isUnit.cls ≠ "java/lang/invoke/VarHandle" ∧ (parseMethodDescriptor y_M_isUnit.desc).map (fun d => d.parameters.length) = some 1) := ⟨tw_643, tw_51, by decide +kernel⟩
abbrev ws_M_isUnit : List Cond := Cond.code y_M_isUnit cc_M_isUnit 1 (some .boolean) :: WS
abbrev cc_M_isPlace : ByteArray := prog_6_method_5_code
def y_M_isPlace : MethodName := ⟨"PlainWarehouseModel", "isPlace", "(I)Z"⟩
theorem kf_M_isPlace : Cond.code y_M_isPlace cc_M_isPlace 1 (some .boolean) ∈ WS ∧ Cond.initialized y_M_isPlace.cls ∈ WS ∧ (y_M_isPlace.cls ≠ "java/lang/invoke/MethodHandle" ∧ y_M_isPlace.cls ≠ "java/lang/invoke/VarHandle" ∧ (parseMethodDescriptor y_M_isPlace.desc).map (fun d => d.parameters.length) = some 1) := ⟨tw_649, tw_51, by decide +kernel⟩
abbrev ws_M_isPlace : List Cond := Cond.code y_M_isPlace cc_M_isPlace 1 (some .boolean) :: WS
abbrev cc_M_isOrder : ByteArray := prog_6_method_6_code
def y_M_isOrder : MethodName := ⟨"PlainWarehouseModel", "isOrder", "(I)Z"⟩
theorem kf_M_isOrder : Cond.code y_M_isOrder cc_M_isOrder 2 (some .boolean) ∈ WS ∧ Cond.initialized y_M_isOrder.cls ∈ WS ∧ (y_M_isOrder.cls ≠ "java/lang/invoke/MethodHandle" ∧ y_M_isOrder.cls ≠ "java/lang/invoke/VarHandle" ∧ (parseMethodDescriptor y_M_isOrder.desc).map (fun d => d.parameters.length) = some 1) := ⟨tw_697, tw_51, by decide +kernel⟩
abbrev ws_M_isOrder : List Cond := Cond.code y_M_isOrder cc_M_isOrder 2 (some .boolean) :: WS
abbrev cc_M_isSaid : ByteArray := prog_6_method_7_code
def y_M_isSaid : MethodName := ⟨"PlainWarehouseModel", "isSaid", "(IIII)Z"⟩
theorem kf_M_isSaid : Cond.code y_M_isSaid cc_M_isSaid 4 (some .boolean) ∈ WS ∧ Cond.initialized y_M_isSaid.cls ∈ WS ∧ (y_M_isSaid.cls ≠ "java/lang/invoke/MethodHandle" ∧ y_M_isSaid.cls ≠ "java/lang/invoke/VarHandle" ∧ (parseMethodDescriptor y_M_isSaid.desc).map (fun d => d.parameters.length) = some 4) := ⟨tw_640, tw_51, by decide +kernel⟩
abbrev ws_M_isSaid : List Cond := Cond.code y_M_isSaid cc_M_isSaid 4 (some .boolean) :: WS
abbrev cc_M_isOpen : ByteArray := prog_6_method_8_code
def y_M_isOpen : MethodName := ⟨"PlainWarehouseModel", "isOpen", "(II)Z"⟩
theorem kf_M_isOpen : Cond.code y_M_isOpen cc_M_isOpen 3 (some .boolean) ∈ WS ∧ Cond.initialized y_M_isOpen.cls ∈ WS ∧ (y_M_isOpen.cls ≠ "java/lang/invoke/MethodHandle" ∧ y_M_isOpen.cls ≠ "java/lang/invoke/VarHandle" ∧ (parseMethodDescriptor y_M_isOpen.desc).map (fun d => d.parameters.length) = some 2) := ⟨tw_661, tw_51, by decide +kernel⟩
abbrev ws_M_isOpen : List Cond := Cond.code y_M_isOpen cc_M_isOpen 3 (some .boolean) :: WS
abbrev cc_M_mayGo : ByteArray := prog_6_method_9_code
def y_M_mayGo : MethodName := ⟨"PlainWarehouseModel", "mayGo", "(II)Z"⟩
theorem kf_M_mayGo : Cond.code y_M_mayGo cc_M_mayGo 3 (some .boolean) ∈ WS ∧ Cond.initialized y_M_mayGo.cls ∈ WS ∧ (y_M_mayGo.cls ≠ "java/lang/invoke/MethodHandle" ∧ y_M_mayGo.cls ≠ "java/lang/invoke/VarHandle" ∧ (parseMethodDescriptor y_M_mayGo.desc).map (fun d => d.parameters.length) = some 2) := ⟨tw_657, tw_51, by decide +kernel⟩
abbrev ws_M_mayGo : List Cond := Cond.code y_M_mayGo cc_M_mayGo 3 (some .boolean) :: WS
abbrev cc_M_mayGive : ByteArray := prog_6_method_10_code
def y_M_mayGive : MethodName := ⟨"PlainWarehouseModel", "mayGive", "(III)Z"⟩
theorem kf_M_mayGive : Cond.code y_M_mayGive cc_M_mayGive 5 (some .boolean) ∈ WS ∧ Cond.initialized y_M_mayGive.cls ∈ WS ∧ (y_M_mayGive.cls ≠ "java/lang/invoke/MethodHandle" ∧ y_M_mayGive.cls ≠ "java/lang/invoke/VarHandle" ∧ (parseMethodDescriptor y_M_mayGive.desc).map (fun d => d.parameters.length) = some 3) := ⟨tw_665, tw_51, by decide +kernel⟩
abbrev ws_M_mayGive : List Cond := Cond.code y_M_mayGive cc_M_mayGive 5 (some .boolean) :: WS
abbrev cc_M_can : ByteArray := prog_6_method_11_code
def y_M_can : MethodName := ⟨"PlainWarehouseModel", "can", "(IIII)Z"⟩
theorem kf_M_can : Cond.code y_M_can cc_M_can 5 (some .boolean) ∈ WS ∧ Cond.initialized y_M_can.cls ∈ WS ∧ (y_M_can.cls ≠ "java/lang/invoke/MethodHandle" ∧ y_M_can.cls ≠ "java/lang/invoke/VarHandle" ∧ (parseMethodDescriptor y_M_can.desc).map (fun d => d.parameters.length) = some 4) := ⟨tw_653, tw_51, by decide +kernel⟩
abbrev ws_M_can : List Cond := Cond.code y_M_can cc_M_can 5 (some .boolean) :: WS
abbrev cc_M_copy : ByteArray := prog_6_method_12_code
def y_M_copy : MethodName := ⟨"PlainWarehouseModel", "copy", "(II)V"⟩
theorem kf_M_copy : Cond.code y_M_copy cc_M_copy 4 none ∈ WS ∧ Cond.initialized y_M_copy.cls ∈ WS ∧ (y_M_copy.cls ≠ "java/lang/invoke/MethodHandle" ∧ y_M_copy.cls ≠ "java/lang/invoke/VarHandle" ∧ (parseMethodDescriptor y_M_copy.desc).map (fun d => d.parameters.length) = some 2) := ⟨tw_669, tw_51, by decide +kernel⟩
abbrev ws_M_copy : List Cond := Cond.code y_M_copy cc_M_copy 4 none :: WS
abbrev cc_M_apply : ByteArray := prog_6_method_13_code
def y_M_apply : MethodName := ⟨"PlainWarehouseModel", "apply", "(IIIII)V"⟩
theorem kf_M_apply : Cond.code y_M_apply cc_M_apply 6 none ∈ WS ∧ Cond.initialized y_M_apply.cls ∈ WS ∧ (y_M_apply.cls ≠ "java/lang/invoke/MethodHandle" ∧ y_M_apply.cls ≠ "java/lang/invoke/VarHandle" ∧ (parseMethodDescriptor y_M_apply.desc).map (fun d => d.parameters.length) = some 5) := ⟨tw_673, tw_51, by decide +kernel⟩
abbrev ws_M_apply : List Cond := Cond.code y_M_apply cc_M_apply 6 none :: WS
abbrev cc_M_event : ByteArray := prog_6_method_14_code
def y_M_event : MethodName := ⟨"PlainWarehouseModel", "event", "(IIII)I"⟩
theorem kf_M_event : Cond.code y_M_event cc_M_event 5 (some .int) ∈ WS ∧ Cond.initialized y_M_event.cls ∈ WS ∧ (y_M_event.cls ≠ "java/lang/invoke/MethodHandle" ∧ y_M_event.cls ≠ "java/lang/invoke/VarHandle" ∧ (parseMethodDescriptor y_M_event.desc).map (fun d => d.parameters.length) = some 4) := ⟨tw_637, tw_51, by decide +kernel⟩
abbrev ws_M_event : List Cond := Cond.code y_M_event cc_M_event 5 (some .int) :: WS
abbrev cc_M_back : ByteArray := prog_6_method_15_code
def y_M_back : MethodName := ⟨"PlainWarehouseModel", "back", "()V"⟩
theorem kf_M_back : Cond.code y_M_back cc_M_back 1 none ∈ WS ∧ Cond.initialized y_M_back.cls ∈ WS ∧ (y_M_back.cls ≠ "java/lang/invoke/MethodHandle" ∧ y_M_back.cls ≠ "java/lang/invoke/VarHandle" ∧ (parseMethodDescriptor y_M_back.desc).map (fun d => d.parameters.length) = some 0) := ⟨tw_677, tw_51, by decide +kernel⟩
abbrev ws_M_back : List Cond := Cond.code y_M_back cc_M_back 1 none :: WS
abbrev cc_M_stock : ByteArray := prog_6_method_16_code
def y_M_stock : MethodName := ⟨"PlainWarehouseModel", "stock", "(II)I"⟩
theorem kf_M_stock : Cond.code y_M_stock cc_M_stock 6 (some .int) ∈ WS ∧ Cond.initialized y_M_stock.cls ∈ WS ∧ (y_M_stock.cls ≠ "java/lang/invoke/MethodHandle" ∧ y_M_stock.cls ≠ "java/lang/invoke/VarHandle" ∧ (parseMethodDescriptor y_M_stock.desc).map (fun d => d.parameters.length) = some 2) := ⟨tw_681, tw_51, by decide +kernel⟩
abbrev ws_M_stock : List Cond := Cond.code y_M_stock cc_M_stock 6 (some .int) :: WS
abbrev cc_M_where : ByteArray := prog_6_method_17_code
def y_M_where : MethodName := ⟨"PlainWarehouseModel", "where", "(II)I"⟩
theorem kf_M_where : Cond.code y_M_where cc_M_where 3 (some .int) ∈ WS ∧ Cond.initialized y_M_where.cls ∈ WS ∧ (y_M_where.cls ≠ "java/lang/invoke/MethodHandle" ∧ y_M_where.cls ≠ "java/lang/invoke/VarHandle" ∧ (parseMethodDescriptor y_M_where.desc).map (fun d => d.parameters.length) = some 2) := ⟨tw_685, tw_51, by decide +kernel⟩
abbrev ws_M_where : List Cond := Cond.code y_M_where cc_M_where 3 (some .int) :: WS
abbrev cc_M_money : ByteArray := prog_6_method_18_code
def y_M_money : MethodName := ⟨"PlainWarehouseModel", "money", "(II)I"⟩
theorem kf_M_money : Cond.code y_M_money cc_M_money 3 (some .int) ∈ WS ∧ Cond.initialized y_M_money.cls ∈ WS ∧ (y_M_money.cls ≠ "java/lang/invoke/MethodHandle" ∧ y_M_money.cls ≠ "java/lang/invoke/VarHandle" ∧ (parseMethodDescriptor y_M_money.desc).map (fun d => d.parameters.length) = some 2) := ⟨tw_689, tw_51, by decide +kernel⟩
abbrev ws_M_money : List Cond := Cond.code y_M_money cc_M_money 3 (some .int) :: WS
abbrev cc_M_freeOf : ByteArray := prog_6_method_19_code
def y_M_freeOf : MethodName := ⟨"PlainWarehouseModel", "freeOf", "(I)I"⟩
theorem kf_M_freeOf : Cond.code y_M_freeOf cc_M_freeOf 4 (some .int) ∈ WS ∧ Cond.initialized y_M_freeOf.cls ∈ WS ∧ (y_M_freeOf.cls ≠ "java/lang/invoke/MethodHandle" ∧ y_M_freeOf.cls ≠ "java/lang/invoke/VarHandle" ∧ (parseMethodDescriptor y_M_freeOf.desc).map (fun d => d.parameters.length) = some 1) := ⟨tw_701, tw_51, by decide +kernel⟩
abbrev ws_M_freeOf : List Cond := Cond.code y_M_freeOf cc_M_freeOf 4 (some .int) :: WS
abbrev cc_M_order : ByteArray := prog_6_method_20_code
def y_M_order : MethodName := ⟨"PlainWarehouseModel", "order", "(II)I"⟩
theorem kf_M_order : Cond.code y_M_order cc_M_order 4 (some .int) ∈ WS ∧ Cond.initialized y_M_order.cls ∈ WS ∧ (y_M_order.cls ≠ "java/lang/invoke/MethodHandle" ∧ y_M_order.cls ≠ "java/lang/invoke/VarHandle" ∧ (parseMethodDescriptor y_M_order.desc).map (fun d => d.parameters.length) = some 2) := ⟨tw_693, tw_51, by decide +kernel⟩
abbrev ws_M_order : List Cond := Cond.code y_M_order cc_M_order 4 (some .int) :: WS
abbrev cc_M_filled : ByteArray := prog_6_method_21_code
def y_M_filled : MethodName := ⟨"PlainWarehouseModel", "filled", "(II)I"⟩
theorem kf_M_filled : Cond.code y_M_filled cc_M_filled 8 (some .int) ∈ WS ∧ Cond.initialized y_M_filled.cls ∈ WS ∧ (y_M_filled.cls ≠ "java/lang/invoke/MethodHandle" ∧ y_M_filled.cls ≠ "java/lang/invoke/VarHandle" ∧ (parseMethodDescriptor y_M_filled.desc).map (fun d => d.parameters.length) = some 2) := ⟨tw_709, tw_51, by decide +kernel⟩
abbrev ws_M_filled : List Cond := Cond.code y_M_filled cc_M_filled 8 (some .int) :: WS
abbrev cc_M_promise : ByteArray := prog_6_method_22_code
def y_M_promise : MethodName := ⟨"PlainWarehouseModel", "promise", "(I)I"⟩
theorem kf_M_promise : Cond.code y_M_promise cc_M_promise 5 (some .int) ∈ WS ∧ Cond.initialized y_M_promise.cls ∈ WS ∧ (y_M_promise.cls ≠ "java/lang/invoke/MethodHandle" ∧ y_M_promise.cls ≠ "java/lang/invoke/VarHandle" ∧ (parseMethodDescriptor y_M_promise.desc).map (fun d => d.parameters.length) = some 1) := ⟨tw_705, tw_51, by decide +kernel⟩
abbrev ws_M_promise : List Cond := Cond.code y_M_promise cc_M_promise 5 (some .int) :: WS
abbrev cc_M_reach : ByteArray := prog_6_method_23_code
def y_M_reach : MethodName := ⟨"PlainWarehouseModel", "reach", "()V"⟩
theorem kf_M_reach : Cond.code y_M_reach cc_M_reach 5 none ∈ WS ∧ Cond.initialized y_M_reach.cls ∈ WS ∧ (y_M_reach.cls ≠ "java/lang/invoke/MethodHandle" ∧ y_M_reach.cls ≠ "java/lang/invoke/VarHandle" ∧ (parseMethodDescriptor y_M_reach.desc).map (fun d => d.parameters.length) = some 0) := ⟨tw_717, tw_51, by decide +kernel⟩
abbrev ws_M_reach : List Cond := Cond.code y_M_reach cc_M_reach 5 none :: WS
abbrev cc_M_way : ByteArray := prog_6_method_24_code
def y_M_way : MethodName := ⟨"PlainWarehouseModel", "way", "(II)I"⟩
theorem kf_M_way : Cond.code y_M_way cc_M_way 3 (some .int) ∈ WS ∧ Cond.initialized y_M_way.cls ∈ WS ∧ (y_M_way.cls ≠ "java/lang/invoke/MethodHandle" ∧ y_M_way.cls ≠ "java/lang/invoke/VarHandle" ∧ (parseMethodDescriptor y_M_way.desc).map (fun d => d.parameters.length) = some 2) := ⟨tw_713, tw_51, by decide +kernel⟩
abbrev ws_M_way : List Cond := Cond.code y_M_way cc_M_way 3 (some .int) :: WS
abbrev cc_M_places : ByteArray := prog_6_method_25_code
def y_M_places : MethodName := ⟨"PlainWarehouseModel", "places", "(I)I"⟩
theorem kf_M_places : Cond.code y_M_places cc_M_places 6 (some .int) ∈ WS ∧ Cond.initialized y_M_places.cls ∈ WS ∧ (y_M_places.cls ≠ "java/lang/invoke/MethodHandle" ∧ y_M_places.cls ≠ "java/lang/invoke/VarHandle" ∧ (parseMethodDescriptor y_M_places.desc).map (fun d => d.parameters.length) = some 1) := ⟨tw_726, tw_51, by decide +kernel⟩
abbrev ws_M_places : List Cond := Cond.code y_M_places cc_M_places 6 (some .int) :: WS
abbrev cc_M_walk : ByteArray := prog_6_method_26_code
def y_M_walk : MethodName := ⟨"PlainWarehouseModel", "walk", "(II)I"⟩
theorem kf_M_walk : Cond.code y_M_walk cc_M_walk 10 (some .int) ∈ WS ∧ Cond.initialized y_M_walk.cls ∈ WS ∧ (y_M_walk.cls ≠ "java/lang/invoke/MethodHandle" ∧ y_M_walk.cls ≠ "java/lang/invoke/VarHandle" ∧ (parseMethodDescriptor y_M_walk.desc).map (fun d => d.parameters.length) = some 2) := ⟨tw_722, tw_51, by decide +kernel⟩
abbrev ws_M_walk : List Cond := Cond.code y_M_walk cc_M_walk 10 (some .int) :: WS
abbrev cc_M_without : ByteArray := prog_6_method_27_code
def y_M_without : MethodName := ⟨"PlainWarehouseModel", "without", "(IZ)I"⟩
theorem kf_M_without : Cond.code y_M_without cc_M_without 5 (some .int) ∈ WS ∧ Cond.initialized y_M_without.cls ∈ WS ∧ (y_M_without.cls ≠ "java/lang/invoke/MethodHandle" ∧ y_M_without.cls ≠ "java/lang/invoke/VarHandle" ∧ (parseMethodDescriptor y_M_without.desc).map (fun d => d.parameters.length) = some 2) := ⟨tw_738, tw_51, by decide +kernel⟩
abbrev ws_M_without : List Cond := Cond.code y_M_without cc_M_without 5 (some .int) :: WS
abbrev cc_M_isEvent : ByteArray := prog_6_method_28_code
def y_M_isEvent : MethodName := ⟨"PlainWarehouseModel", "isEvent", "(I)Z"⟩
theorem kf_M_isEvent : Cond.code y_M_isEvent cc_M_isEvent 2 (some .boolean) ∈ WS ∧ Cond.initialized y_M_isEvent.cls ∈ WS ∧ (y_M_isEvent.cls ≠ "java/lang/invoke/MethodHandle" ∧ y_M_isEvent.cls ≠ "java/lang/invoke/VarHandle" ∧ (parseMethodDescriptor y_M_isEvent.desc).map (fun d => d.parameters.length) = some 1) := ⟨tw_734, tw_51, by decide +kernel⟩
abbrev ws_M_isEvent : List Cond := Cond.code y_M_isEvent cc_M_isEvent 2 (some .boolean) :: WS
abbrev cc_M_needs : ByteArray := prog_6_method_29_code
def y_M_needs : MethodName := ⟨"PlainWarehouseModel", "needs", "(I)I"⟩
theorem kf_M_needs : Cond.code y_M_needs cc_M_needs 2 (some .int) ∈ WS ∧ Cond.initialized y_M_needs.cls ∈ WS ∧ (y_M_needs.cls ≠ "java/lang/invoke/MethodHandle" ∧ y_M_needs.cls ≠ "java/lang/invoke/VarHandle" ∧ (parseMethodDescriptor y_M_needs.desc).map (fun d => d.parameters.length) = some 1) := ⟨tw_730, tw_51, by decide +kernel⟩
abbrev ws_M_needs : List Cond := Cond.code y_M_needs cc_M_needs 2 (some .int) :: WS
abbrev cc_M_explained : ByteArray := prog_6_method_30_code
def y_M_explained : MethodName := ⟨"PlainWarehouseModel", "explained", "(I)I"⟩
theorem kf_M_explained : Cond.code y_M_explained cc_M_explained 2 (some .int) ∈ WS ∧ Cond.initialized y_M_explained.cls ∈ WS ∧ (y_M_explained.cls ≠ "java/lang/invoke/MethodHandle" ∧ y_M_explained.cls ≠ "java/lang/invoke/VarHandle" ∧ (parseMethodDescriptor y_M_explained.desc).map (fun d => d.parameters.length) = some 1) := ⟨tw_742, tw_51, by decide +kernel⟩
abbrev ws_M_explained : List Cond := Cond.code y_M_explained cc_M_explained 2 (some .int) :: WS
abbrev cc_M_told : ByteArray := prog_6_method_31_code
def y_M_told : MethodName := ⟨"PlainWarehouseModel", "told", "(II)I"⟩
theorem kf_M_told : Cond.code y_M_told cc_M_told 3 (some .int) ∈ WS ∧ Cond.initialized y_M_told.cls ∈ WS ∧ (y_M_told.cls ≠ "java/lang/invoke/MethodHandle" ∧ y_M_told.cls ≠ "java/lang/invoke/VarHandle" ∧ (parseMethodDescriptor y_M_told.desc).map (fun d => d.parameters.length) = some 2) := ⟨tw_746, tw_51, by decide +kernel⟩
abbrev ws_M_told : List Cond := Cond.code y_M_told cc_M_told 3 (some .int) :: WS
abbrev cc_M_count : ByteArray := prog_6_method_32_code
def y_M_count : MethodName := ⟨"PlainWarehouseModel", "count", "(I)I"⟩
theorem kf_M_count : Cond.code y_M_count cc_M_count 4 (some .int) ∈ WS ∧ Cond.initialized y_M_count.cls ∈ WS ∧ (y_M_count.cls ≠ "java/lang/invoke/MethodHandle" ∧ y_M_count.cls ≠ "java/lang/invoke/VarHandle" ∧ (parseMethodDescriptor y_M_count.desc).map (fun d => d.parameters.length) = some 1) := ⟨tw_750, tw_51, by decide +kernel⟩
abbrev ws_M_count : List Cond := Cond.code y_M_count cc_M_count 4 (some .int) :: WS
abbrev cc_F_init : ByteArray := prog_2_method_1_code
def y_F_init : MethodName := ⟨"PlainWarehouse$Fillings", "<init>", "()V"⟩
theorem kf_F_init : Cond.code y_F_init cc_F_init 1 none ∈ WS ∧ Cond.initialized y_F_init.cls ∈ WS ∧ (y_F_init.cls ≠ "java/lang/invoke/MethodHandle" ∧ y_F_init.cls ≠ "java/lang/invoke/VarHandle" ∧ (parseMethodDescriptor y_F_init.desc).map (fun d => d.parameters.length) = some 0) := ⟨tw_115, tw_49, by decide +kernel⟩
abbrev ws_F_init : List Cond := Cond.code y_F_init cc_F_init 1 none :: WS
abbrev cc_F_most : ByteArray := prog_2_method_2_code
def y_F_most : MethodName := ⟨"PlainWarehouse$Fillings", "most", "(LPlainWarehouse$House;I)I"⟩
theorem kf_F_most : Cond.code y_F_most cc_F_most 5 (some .int) ∈ WS ∧ Cond.initialized y_F_most.cls ∈ WS ∧ (y_F_most.cls ≠ "java/lang/invoke/MethodHandle" ∧ y_F_most.cls ≠ "java/lang/invoke/VarHandle" ∧ (parseMethodDescriptor y_F_most.desc).map (fun d => d.parameters.length) = some 2) := ⟨tw_439, tw_49, by decide +kernel⟩
abbrev ws_F_most : List Cond := Cond.code y_F_most cc_F_most 5 (some .int) :: WS
abbrev cc_F_countFree : ByteArray := prog_2_method_3_code
def y_F_countFree : MethodName := ⟨"PlainWarehouse$Fillings", "countFree", "(LPlainWarehouse$House;)V"⟩
theorem kf_F_countFree : Cond.code y_F_countFree cc_F_countFree 3 none ∈ WS ∧ Cond.initialized y_F_countFree.cls ∈ WS ∧ (y_F_countFree.cls ≠ "java/lang/invoke/MethodHandle" ∧ y_F_countFree.cls ≠ "java/lang/invoke/VarHandle" ∧ (parseMethodDescriptor y_F_countFree.desc).map (fun d => d.parameters.length) = some 1) := ⟨tw_443, tw_49, by decide +kernel⟩
abbrev ws_F_countFree : List Cond := Cond.code y_F_countFree cc_F_countFree 3 none :: WS
abbrev cc_F_chooseOpen : ByteArray := prog_2_method_4_code
def y_F_chooseOpen : MethodName := ⟨"PlainWarehouse$Fillings", "chooseOpen", "(LPlainWarehouse$House;I)V"⟩
theorem kf_F_chooseOpen : Cond.code y_F_chooseOpen cc_F_chooseOpen 4 none ∈ WS ∧ Cond.initialized y_F_chooseOpen.cls ∈ WS ∧ (y_F_chooseOpen.cls ≠ "java/lang/invoke/MethodHandle" ∧ y_F_chooseOpen.cls ≠ "java/lang/invoke/VarHandle" ∧ (parseMethodDescriptor y_F_chooseOpen.desc).map (fun d => d.parameters.length) = some 2) := ⟨tw_448, tw_49, by decide +kernel⟩
abbrev ws_F_chooseOpen : List Cond := Cond.code y_F_chooseOpen cc_F_chooseOpen 4 none :: WS
abbrev cc_F_isEnoughFor : ByteArray := prog_2_method_5_code
def y_F_isEnoughFor : MethodName := ⟨"PlainWarehouse$Fillings", "isEnoughFor", "(I)Z"⟩
theorem kf_F_isEnoughFor : Cond.code y_F_isEnoughFor cc_F_isEnoughFor 3 (some .boolean) ∈ WS ∧ Cond.initialized y_F_isEnoughFor.cls ∈ WS ∧ (y_F_isEnoughFor.cls ≠ "java/lang/invoke/MethodHandle" ∧ y_F_isEnoughFor.cls ≠ "java/lang/invoke/VarHandle" ∧ (parseMethodDescriptor y_F_isEnoughFor.desc).map (fun d => d.parameters.length) = some 1) := ⟨tw_455, tw_49, by decide +kernel⟩
abbrev ws_F_isEnoughFor : List Cond := Cond.code y_F_isEnoughFor cc_F_isEnoughFor 3 (some .boolean) :: WS
abbrev cc_H_init : ByteArray := prog_3_method_1_code
def y_H_init : MethodName := ⟨"PlainWarehouse$House", "<init>", "()V"⟩
theorem kf_H_init : Cond.code y_H_init cc_H_init 1 none ∈ WS ∧ Cond.initialized y_H_init.cls ∈ WS ∧ (y_H_init.cls ≠ "java/lang/invoke/MethodHandle" ∧ y_H_init.cls ≠ "java/lang/invoke/VarHandle" ∧ (parseMethodDescriptor y_H_init.desc).map (fun d => d.parameters.length) = some 0) := ⟨tw_75, tw_48, by decide +kernel⟩
abbrev ws_H_init : List Cond := Cond.code y_H_init cc_H_init 1 none :: WS
abbrev cc_H_empty : ByteArray := prog_3_method_2_code
def y_H_empty : MethodName := ⟨"PlainWarehouse$House", "empty", "()V"⟩
theorem kf_H_empty : Cond.code y_H_empty cc_H_empty 1 none ∈ WS ∧ Cond.initialized y_H_empty.cls ∈ WS ∧ (y_H_empty.cls ≠ "java/lang/invoke/MethodHandle" ∧ y_H_empty.cls ≠ "java/lang/invoke/VarHandle" ∧ (parseMethodDescriptor y_H_empty.desc).map (fun d => d.parameters.length) = some 0) := ⟨tw_173, tw_48, by decide +kernel⟩
abbrev ws_H_empty : List Cond := Cond.code y_H_empty cc_H_empty 1 none :: WS
abbrev cc_H_take : ByteArray := prog_3_method_3_code
def y_H_take : MethodName := ⟨"PlainWarehouse$House", "take", "(IIII)Z"⟩
theorem kf_H_take : Cond.code y_H_take cc_H_take 5 (some .boolean) ∈ WS ∧ Cond.initialized y_H_take.cls ∈ WS ∧ (y_H_take.cls ≠ "java/lang/invoke/MethodHandle" ∧ y_H_take.cls ≠ "java/lang/invoke/VarHandle" ∧ (parseMethodDescriptor y_H_take.desc).map (fun d => d.parameters.length) = some 4) := ⟨tw_184, tw_48, by decide +kernel⟩
abbrev ws_H_take : List Cond := Cond.code y_H_take cc_H_take 5 (some .boolean) :: WS
abbrev cc_H_isPossible : ByteArray := prog_3_method_4_code
def y_H_isPossible : MethodName := ⟨"PlainWarehouse$House", "isPossible", "(III)Z"⟩
theorem kf_H_isPossible : Cond.code y_H_isPossible cc_H_isPossible 4 (some .boolean) ∈ WS ∧ Cond.initialized y_H_isPossible.cls ∈ WS ∧ (y_H_isPossible.cls ≠ "java/lang/invoke/MethodHandle" ∧ y_H_isPossible.cls ≠ "java/lang/invoke/VarHandle" ∧ (parseMethodDescriptor y_H_isPossible.desc).map (fun d => d.parameters.length) = some 3) := ⟨tw_188, tw_48, by decide +kernel⟩
abbrev ws_H_isPossible : List Cond := Cond.code y_H_isPossible cc_H_isPossible 4 (some .boolean) :: WS
abbrev cc_H_happen : ByteArray := prog_3_method_5_code
def y_H_happen : MethodName := ⟨"PlainWarehouse$House", "happen", "(IIII)V"⟩
theorem kf_H_happen : Cond.code y_H_happen cc_H_happen 5 none ∈ WS ∧ Cond.initialized y_H_happen.cls ∈ WS ∧ (y_H_happen.cls ≠ "java/lang/invoke/MethodHandle" ∧ y_H_happen.cls ≠ "java/lang/invoke/VarHandle" ∧ (parseMethodDescriptor y_H_happen.desc).map (fun d => d.parameters.length) = some 4) := ⟨tw_208, tw_48, by decide +kernel⟩
abbrev ws_H_happen : List Cond := Cond.code y_H_happen cc_H_happen 5 none :: WS
abbrev cc_H_come : ByteArray := prog_3_method_6_code
def y_H_come : MethodName := ⟨"PlainWarehouse$House", "come", "(III)V"⟩
theorem kf_H_come : Cond.code y_H_come cc_H_come 4 none ∈ WS ∧ Cond.initialized y_H_come.cls ∈ WS ∧ (y_H_come.cls ≠ "java/lang/invoke/MethodHandle" ∧ y_H_come.cls ≠ "java/lang/invoke/VarHandle" ∧ (parseMethodDescriptor y_H_come.desc).map (fun d => d.parameters.length) = some 3) := ⟨tw_212, tw_48, by decide +kernel⟩
abbrev ws_H_come : List Cond := Cond.code y_H_come cc_H_come 4 none :: WS
abbrev cc_H_leave : ByteArray := prog_3_method_7_code
def y_H_leave : MethodName := ⟨"PlainWarehouse$House", "leave", "(I)V"⟩
theorem kf_H_leave : Cond.code y_H_leave cc_H_leave 2 none ∈ WS ∧ Cond.initialized y_H_leave.cls ∈ WS ∧ (y_H_leave.cls ≠ "java/lang/invoke/MethodHandle" ∧ y_H_leave.cls ≠ "java/lang/invoke/VarHandle" ∧ (parseMethodDescriptor y_H_leave.desc).map (fun d => d.parameters.length) = some 1) := ⟨tw_216, tw_48, by decide +kernel⟩
abbrev ws_H_leave : List Cond := Cond.code y_H_leave cc_H_leave 2 none :: WS
abbrev cc_H_isInside : ByteArray := prog_3_method_8_code
def y_H_isInside : MethodName := ⟨"PlainWarehouse$House", "isInside", "(I)Z"⟩
theorem kf_H_isInside : Cond.code y_H_isInside cc_H_isInside 2 (some .boolean) ∈ WS ∧ Cond.initialized y_H_isInside.cls ∈ WS ∧ (y_H_isInside.cls ≠ "java/lang/invoke/MethodHandle" ∧ y_H_isInside.cls ≠ "java/lang/invoke/VarHandle" ∧ (parseMethodDescriptor y_H_isInside.desc).map (fun d => d.parameters.length) = some 1) := ⟨tw_192, tw_48, by decide +kernel⟩
abbrev ws_H_isInside : List Cond := Cond.code y_H_isInside cc_H_isInside 2 (some .boolean) :: WS
abbrev cc_H_isFree : ByteArray := prog_3_method_9_code
def y_H_isFree : MethodName := ⟨"PlainWarehouse$House", "isFree", "(I)Z"⟩
theorem kf_H_isFree : Cond.code y_H_isFree cc_H_isFree 2 (some .boolean) ∈ WS ∧ Cond.initialized y_H_isFree.cls ∈ WS ∧ (y_H_isFree.cls ≠ "java/lang/invoke/MethodHandle" ∧ y_H_isFree.cls ≠ "java/lang/invoke/VarHandle" ∧ (parseMethodDescriptor y_H_isFree.desc).map (fun d => d.parameters.length) = some 1) := ⟨tw_204, tw_48, by decide +kernel⟩
abbrev ws_H_isFree : List Cond := Cond.code y_H_isFree cc_H_isFree 2 (some .boolean) :: WS
abbrev cc_H_isTold : ByteArray := prog_3_method_10_code
def y_H_isTold : MethodName := ⟨"PlainWarehouse$House", "isTold", "(I)Z"⟩
theorem kf_H_isTold : Cond.code y_H_isTold cc_H_isTold 2 (some .boolean) ∈ WS ∧ Cond.initialized y_H_isTold.cls ∈ WS ∧ (y_H_isTold.cls ≠ "java/lang/invoke/MethodHandle" ∧ y_H_isTold.cls ≠ "java/lang/invoke/VarHandle" ∧ (parseMethodDescriptor y_H_isTold.desc).map (fun d => d.parameters.length) = some 1) := ⟨tw_200, tw_48, by decide +kernel⟩
abbrev ws_H_isTold : List Cond := Cond.code y_H_isTold cc_H_isTold 2 (some .boolean) :: WS
abbrev cc_H_isOpen : ByteArray := prog_3_method_11_code
def y_H_isOpen : MethodName := ⟨"PlainWarehouse$House", "isOpen", "(I)Z"⟩
theorem kf_H_isOpen : Cond.code y_H_isOpen cc_H_isOpen 2 (some .boolean) ∈ WS ∧ Cond.initialized y_H_isOpen.cls ∈ WS ∧ (y_H_isOpen.cls ≠ "java/lang/invoke/MethodHandle" ∧ y_H_isOpen.cls ≠ "java/lang/invoke/VarHandle" ∧ (parseMethodDescriptor y_H_isOpen.desc).map (fun d => d.parameters.length) = some 1) := ⟨tw_196, tw_48, by decide +kernel⟩
abbrev ws_H_isOpen : List Cond := Cond.code y_H_isOpen cc_H_isOpen 2 (some .boolean) :: WS
abbrev cc_H_isFull : ByteArray := prog_3_method_12_code
def y_H_isFull : MethodName := ⟨"PlainWarehouse$House", "isFull", "(I)Z"⟩
theorem kf_H_isFull : Cond.code y_H_isFull cc_H_isFull 2 (some .boolean) ∈ WS ∧ Cond.initialized y_H_isFull.cls ∈ WS ∧ (y_H_isFull.cls ≠ "java/lang/invoke/MethodHandle" ∧ y_H_isFull.cls ≠ "java/lang/invoke/VarHandle" ∧ (parseMethodDescriptor y_H_isFull.desc).map (fun d => d.parameters.length) = some 1) := ⟨tw_238, tw_48, by decide +kernel⟩
abbrev ws_H_isFull : List Cond := Cond.code y_H_isFull cc_H_isFull 2 (some .boolean) :: WS
abbrev cc_H_unitsAt : ByteArray := prog_3_method_13_code
def y_H_unitsAt : MethodName := ⟨"PlainWarehouse$House", "unitsAt", "(II)I"⟩
theorem kf_H_unitsAt : Cond.code y_H_unitsAt cc_H_unitsAt 5 (some .int) ∈ WS ∧ Cond.initialized y_H_unitsAt.cls ∈ WS ∧ (y_H_unitsAt.cls ≠ "java/lang/invoke/MethodHandle" ∧ y_H_unitsAt.cls ≠ "java/lang/invoke/VarHandle" ∧ (parseMethodDescriptor y_H_unitsAt.desc).map (fun d => d.parameters.length) = some 2) := ⟨tw_223, tw_48, by decide +kernel⟩
abbrev ws_H_unitsAt : List Cond := Cond.code y_H_unitsAt cc_H_unitsAt 5 (some .int) :: WS
abbrev cc_H_isAsked : ByteArray := prog_3_method_14_code
def y_H_isAsked : MethodName := ⟨"PlainWarehouse$House", "isAsked", "(II)Z"⟩
theorem kf_H_isAsked : Cond.code y_H_isAsked cc_H_isAsked 2 (some .boolean) ∈ WS ∧ Cond.initialized y_H_isAsked.cls ∈ WS ∧ (y_H_isAsked.cls ≠ "java/lang/invoke/MethodHandle" ∧ y_H_isAsked.cls ≠ "java/lang/invoke/VarHandle" ∧ (parseMethodDescriptor y_H_isAsked.desc).map (fun d => d.parameters.length) = some 2) := ⟨tw_226, tw_48, by decide +kernel⟩
abbrev ws_H_isAsked : List Cond := Cond.code y_H_isAsked cc_H_isAsked 2 (some .boolean) :: WS
abbrev cc_H_freeUnits : ByteArray := prog_3_method_15_code
def y_H_freeUnits : MethodName := ⟨"PlainWarehouse$House", "freeUnits", "(I)I"⟩
theorem kf_H_freeUnits : Cond.code y_H_freeUnits cc_H_freeUnits 4 (some .int) ∈ WS ∧ Cond.initialized y_H_freeUnits.cls ∈ WS ∧ (y_H_freeUnits.cls ≠ "java/lang/invoke/MethodHandle" ∧ y_H_freeUnits.cls ≠ "java/lang/invoke/VarHandle" ∧ (parseMethodDescriptor y_H_freeUnits.desc).map (fun d => d.parameters.length) = some 1) := ⟨tw_413, tw_48, by decide +kernel⟩
abbrev ws_H_freeUnits : List Cond := Cond.code y_H_freeUnits cc_H_freeUnits 4 (some .int) :: WS
abbrev cc_H_placesOfUnitsGivenTo : ByteArray := prog_3_method_16_code
def y_H_placesOfUnitsGivenTo : MethodName := ⟨"PlainWarehouse$House", "placesOfUnitsGivenTo", "(I)I"⟩
theorem kf_H_placesOfUnitsGivenTo : Cond.code y_H_placesOfUnitsGivenTo cc_H_placesOfUnitsGivenTo 4 (some .int) ∈ WS ∧ Cond.initialized y_H_placesOfUnitsGivenTo.cls ∈ WS ∧ (y_H_placesOfUnitsGivenTo.cls ≠ "java/lang/invoke/MethodHandle" ∧ y_H_placesOfUnitsGivenTo.cls ≠ "java/lang/invoke/VarHandle" ∧ (parseMethodDescriptor y_H_placesOfUnitsGivenTo.desc).map (fun d => d.parameters.length) = some 1) := ⟨tw_501, tw_48, by decide +kernel⟩
abbrev ws_H_placesOfUnitsGivenTo : List Cond := Cond.code y_H_placesOfUnitsGivenTo cc_H_placesOfUnitsGivenTo 4 (some .int) :: WS
abbrev cc_H_toldOrders : ByteArray := prog_3_method_17_code
def y_H_toldOrders : MethodName := ⟨"PlainWarehouse$House", "toldOrders", "()I"⟩
theorem kf_H_toldOrders : Cond.code y_H_toldOrders cc_H_toldOrders 3 (some .int) ∈ WS ∧ Cond.initialized y_H_toldOrders.cls ∈ WS ∧ (y_H_toldOrders.cls ≠ "java/lang/invoke/MethodHandle" ∧ y_H_toldOrders.cls ≠ "java/lang/invoke/VarHandle" ∧ (parseMethodDescriptor y_H_toldOrders.desc).map (fun d => d.parameters.length) = some 0) := ⟨tw_230, tw_48, by decide +kernel⟩
abbrev ws_H_toldOrders : List Cond := Cond.code y_H_toldOrders cc_H_toldOrders 3 (some .int) :: WS
abbrev cc_H_fullOrders : ByteArray := prog_3_method_18_code
def y_H_fullOrders : MethodName := ⟨"PlainWarehouse$House", "fullOrders", "()I"⟩
theorem kf_H_fullOrders : Cond.code y_H_fullOrders cc_H_fullOrders 3 (some .int) ∈ WS ∧ Cond.initialized y_H_fullOrders.cls ∈ WS ∧ (y_H_fullOrders.cls ≠ "java/lang/invoke/MethodHandle" ∧ y_H_fullOrders.cls ≠ "java/lang/invoke/VarHandle" ∧ (parseMethodDescriptor y_H_fullOrders.desc).map (fun d => d.parameters.length) = some 0) := ⟨tw_234, tw_48, by decide +kernel⟩
abbrev ws_H_fullOrders : List Cond := Cond.code y_H_fullOrders cc_H_fullOrders 3 (some .int) :: WS
abbrev cc_H_linkedPairs : ByteArray := prog_3_method_19_code
def y_H_linkedPairs : MethodName := ⟨"PlainWarehouse$House", "linkedPairs", "()I"⟩
theorem kf_H_linkedPairs : Cond.code y_H_linkedPairs cc_H_linkedPairs 4 (some .int) ∈ WS ∧ Cond.initialized y_H_linkedPairs.cls ∈ WS ∧ (y_H_linkedPairs.cls ≠ "java/lang/invoke/MethodHandle" ∧ y_H_linkedPairs.cls ≠ "java/lang/invoke/VarHandle" ∧ (parseMethodDescriptor y_H_linkedPairs.desc).map (fun d => d.parameters.length) = some 0) := ⟨tw_242, tw_48, by decide +kernel⟩
abbrev ws_H_linkedPairs : List Cond := Cond.code y_H_linkedPairs cc_H_linkedPairs 4 (some .int) :: WS
abbrev cc_Y_init : ByteArray := prog_4_method_1_code
def y_Y_init : MethodName := ⟨"PlainWarehouse$Ways", "<init>", "()V"⟩
theorem kf_Y_init : Cond.code y_Y_init cc_Y_init 1 none ∈ WS ∧ Cond.initialized y_Y_init.cls ∈ WS ∧ (y_Y_init.cls ≠ "java/lang/invoke/MethodHandle" ∧ y_Y_init.cls ≠ "java/lang/invoke/VarHandle" ∧ (parseMethodDescriptor y_Y_init.desc).map (fun d => d.parameters.length) = some 0) := ⟨tw_137, tw_50, by decide +kernel⟩
abbrev ws_Y_init : List Cond := Cond.code y_Y_init cc_Y_init 1 none :: WS
abbrev cc_Y_measure : ByteArray := prog_4_method_2_code
def y_Y_measure : MethodName := ⟨"PlainWarehouse$Ways", "measure", "(LPlainWarehouse$House;)V"⟩
theorem kf_Y_measure : Cond.code y_Y_measure cc_Y_measure 4 none ∈ WS ∧ Cond.initialized y_Y_measure.cls ∈ WS ∧ (y_Y_measure.cls ≠ "java/lang/invoke/MethodHandle" ∧ y_Y_measure.cls ≠ "java/lang/invoke/VarHandle" ∧ (parseMethodDescriptor y_Y_measure.desc).map (fun d => d.parameters.length) = some 1) := ⟨tw_469, tw_50, by decide +kernel⟩
abbrev ws_Y_measure : List Cond := Cond.code y_Y_measure cc_Y_measure 4 none :: WS
abbrev cc_Y_layLinks : ByteArray := prog_4_method_3_code
def y_Y_layLinks : MethodName := ⟨"PlainWarehouse$Ways", "layLinks", "(LPlainWarehouse$House;)V"⟩
theorem kf_Y_layLinks : Cond.code y_Y_layLinks cc_Y_layLinks 5 none ∈ WS ∧ Cond.initialized y_Y_layLinks.cls ∈ WS ∧ (y_Y_layLinks.cls ≠ "java/lang/invoke/MethodHandle" ∧ y_Y_layLinks.cls ≠ "java/lang/invoke/VarHandle" ∧ (parseMethodDescriptor y_Y_layLinks.desc).map (fun d => d.parameters.length) = some 1) := ⟨tw_473, tw_50, by decide +kernel⟩
abbrev ws_Y_layLinks : List Cond := Cond.code y_Y_layLinks cc_Y_layLinks 5 none :: WS
abbrev cc_Y_shortenVia : ByteArray := prog_4_method_4_code
def y_Y_shortenVia : MethodName := ⟨"PlainWarehouse$Ways", "shortenVia", "(II)V"⟩
theorem kf_Y_shortenVia : Cond.code y_Y_shortenVia cc_Y_shortenVia 6 none ∈ WS ∧ Cond.initialized y_Y_shortenVia.cls ∈ WS ∧ (y_Y_shortenVia.cls ≠ "java/lang/invoke/MethodHandle" ∧ y_Y_shortenVia.cls ≠ "java/lang/invoke/VarHandle" ∧ (parseMethodDescriptor y_Y_shortenVia.desc).map (fun d => d.parameters.length) = some 2) := ⟨tw_479, tw_50, by decide +kernel⟩
abbrev ws_Y_shortenVia : List Cond := Cond.code y_Y_shortenVia cc_Y_shortenVia 6 none :: WS
abbrev cc_Y_between : ByteArray := prog_4_method_5_code
def y_Y_between : MethodName := ⟨"PlainWarehouse$Ways", "between", "(II)I"⟩
theorem kf_Y_between : Cond.code y_Y_between cc_Y_between 3 (some .int) ∈ WS ∧ Cond.initialized y_Y_between.cls ∈ WS ∧ (y_Y_between.cls ≠ "java/lang/invoke/MethodHandle" ∧ y_Y_between.cls ≠ "java/lang/invoke/VarHandle" ∧ (parseMethodDescriptor y_Y_between.desc).map (fun d => d.parameters.length) = some 2) := ⟨tw_486, tw_50, by decide +kernel⟩
abbrev ws_Y_between : List Cond := Cond.code y_Y_between cc_Y_between 3 (some .int) :: WS
abbrev cc_Y_fewestThrough : ByteArray := prog_4_method_6_code
def y_Y_fewestThrough : MethodName := ⟨"PlainWarehouse$Ways", "fewestThrough", "(II)I"⟩
theorem kf_Y_fewestThrough : Cond.code y_Y_fewestThrough cc_Y_fewestThrough 3 (some .int) ∈ WS ∧ Cond.initialized y_Y_fewestThrough.cls ∈ WS ∧ (y_Y_fewestThrough.cls ≠ "java/lang/invoke/MethodHandle" ∧ y_Y_fewestThrough.cls ≠ "java/lang/invoke/VarHandle" ∧ (parseMethodDescriptor y_Y_fewestThrough.desc).map (fun d => d.parameters.length) = some 2) := ⟨tw_505, tw_50, by decide +kernel⟩
abbrev ws_Y_fewestThrough : List Cond := Cond.code y_Y_fewestThrough cc_Y_fewestThrough 3 (some .int) :: WS
abbrev cc_Y_fewest : ByteArray := prog_4_method_7_code
def y_Y_fewest : MethodName := ⟨"PlainWarehouse$Ways", "fewest", "([IIII)I"⟩
theorem kf_Y_fewest : Cond.code y_Y_fewest cc_Y_fewest 7 (some .int) ∈ WS ∧ Cond.initialized y_Y_fewest.cls ∈ WS ∧ (y_Y_fewest.cls ≠ "java/lang/invoke/MethodHandle" ∧ y_Y_fewest.cls ≠ "java/lang/invoke/VarHandle" ∧ (parseMethodDescriptor y_Y_fewest.desc).map (fun d => d.parameters.length) = some 4) := ⟨tw_508, tw_50, by decide +kernel⟩
abbrev ws_Y_fewest : List Cond := Cond.code y_Y_fewest cc_Y_fewest 7 (some .int) :: WS
abbrev cc_L_event : ByteArray := method_3_code
def y_L_event : MethodName := ⟨"PlainWarehouseLaw", "event", "(LPlainWarehouse;IIII[J)I"⟩
abbrev cc_L_stock : ByteArray := method_4_code
def y_L_stock : MethodName := ⟨"PlainWarehouseLaw", "stock", "(LPlainWarehouse;II[J)I"⟩
abbrev cc_L_where : ByteArray := method_5_code
def y_L_where : MethodName := ⟨"PlainWarehouseLaw", "where", "(LPlainWarehouse;II[J)I"⟩
abbrev cc_L_order : ByteArray := method_6_code
def y_L_order : MethodName := ⟨"PlainWarehouseLaw", "order", "(LPlainWarehouse;II[J)I"⟩
abbrev cc_L_promise : ByteArray := method_7_code
def y_L_promise : MethodName := ⟨"PlainWarehouseLaw", "promise", "(LPlainWarehouse;I[J)I"⟩
abbrev cc_L_way : ByteArray := method_8_code
def y_L_way : MethodName := ⟨"PlainWarehouseLaw", "way", "(LPlainWarehouse;II[J)I"⟩
abbrev cc_L_walk : ByteArray := method_9_code
def y_L_walk : MethodName := ⟨"PlainWarehouseLaw", "walk", "(LPlainWarehouse;II[J)I"⟩
abbrev cc_L_money : ByteArray := method_10_code
def y_L_money : MethodName := ⟨"PlainWarehouseLaw", "money", "(LPlainWarehouse;II[J)I"⟩
abbrev cc_L_needs : ByteArray := method_11_code
def y_L_needs : MethodName := ⟨"PlainWarehouseLaw", "needs", "(LPlainWarehouse;I[J)I"⟩
abbrev cc_L_explained : ByteArray := method_12_code
def y_L_explained : MethodName := ⟨"PlainWarehouseLaw", "explained", "(LPlainWarehouse;I[J)I"⟩
abbrev cc_L_told : ByteArray := method_13_code
def y_L_told : MethodName := ⟨"PlainWarehouseLaw", "told", "(LPlainWarehouse;II[J)I"⟩
abbrev cc_L_back : ByteArray := method_14_code
def y_L_back : MethodName := ⟨"PlainWarehouseLaw", "back", "(LPlainWarehouse;)I"⟩
abbrev cc_JI_bitCount : ByteArray := prog_10_method_49_code
def y_JI_bitCount : MethodName := ⟨"java/lang/Integer", "bitCount", "(I)I"⟩
theorem kf_JI_bitCount : Cond.code y_JI_bitCount cc_JI_bitCount 1 (some .int) ∈ WS ∧ Cond.initialized y_JI_bitCount.cls ∈ WS ∧ (y_JI_bitCount.cls ≠ "java/lang/invoke/MethodHandle" ∧ y_JI_bitCount.cls ≠ "java/lang/invoke/VarHandle" ∧ (parseMethodDescriptor y_JI_bitCount.desc).map (fun d => d.parameters.length) = some 1) := ⟨tw_432, tw_59, by decide +kernel⟩
abbrev ws_JI_bitCount : List Cond := Cond.code y_JI_bitCount cc_JI_bitCount 1 (some .int) :: WS
abbrev cc_JA_fill : ByteArray := prog_17_method_103_code
def y_JA_fill : MethodName := ⟨"java/util/Arrays", "fill", "([II)V"⟩
theorem kf_JA_fill : Cond.code y_JA_fill cc_JA_fill 4 none ∈ WS ∧ Cond.initialized y_JA_fill.cls ∈ WS ∧ (y_JA_fill.cls ≠ "java/lang/invoke/MethodHandle" ∧ y_JA_fill.cls ≠ "java/lang/invoke/VarHandle" ∧ (parseMethodDescriptor y_JA_fill.desc).map (fun d => d.parameters.length) = some 2) := ⟨tw_176, tw_57, by decide +kernel⟩
abbrev ws_JA_fill : List Cond := Cond.code y_JA_fill cc_JA_fill 4 none :: WS
end
section
/-! J: a walk's goal with its heap, its array of locals and its written places hidden; the model's equation carries the values. -/
abbrev JX : Type := (Program × Launch × Env × Room × State) × (MethodId × Array Value × List Frame × Method × Code) × (va_G × List (ClassId × FieldType) × (Nat → Prop) × (State → Prop))
abbrev jp (x : JX) : Program := x.1.1
abbrev jl (x : JX) : Launch := x.1.2.1
abbrev je (x : JX) : Env := x.1.2.2.1
abbrev jR (x : JX) : Room := x.1.2.2.2.1
abbrev js (x : JX) : State := x.1.2.2.2.2
abbrev jm (x : JX) : MethodId := x.2.1.1
abbrev ja (x : JX) : Array Value := x.2.1.2.1
abbrev jb (x : JX) : List Frame := x.2.1.2.2.1
abbrev jt (x : JX) : Method := x.2.1.2.2.2.1
abbrev jc (x : JX) : Code := x.2.1.2.2.2.2
abbrev jD (x : JX) : va_G := x.2.2.1
abbrev jT (x : JX) : List (ClassId × FieldType) := x.2.2.2.1
abbrev jA (x : JX) : Nat → Prop := x.2.2.2.2.1
abbrev jQ (x : JX) : State → Prop := x.2.2.2.2.2
/-- the words of nest mates hold -/
def jN (U : State) : Prop := ∀ w ∈ NWS, va_Nw w U
theorem jN.warm {s U : State} (hW : s.WarmedH U.vm) (h : jN s) : jN U := by
  intro w hw
  have h0 := h w hw
  have hn : nestW w = true := (List.mem_filter.mp hw).2
  cases w <;> first | exact va_Nw.warmF hW h0 | exact va_Nw.warmM hW h0 | exact absurd hn (by decide) | (simp [nestW] at hn; done)
theorem jN.same {s U : State} (e : s.vm = U.vm) (h : jN s) : jN U := by
  intro w hw
  have h0 := h w hw
  have hn : nestW w = true := (List.mem_filter.mp hw).2
  cases w <;> first | exact va_Nw.same rfl e h0 | exact absurd hn (by decide) | (simp [nestW] at hn; done)
theorem nest_on {w : Cond} (hw : w ∈ NWS) : w.onTables = true := by
  have hn : nestW w = true := (List.mem_filter.mp hw).2
  cases w <;> first | rfl | exact absurd hn (by decide) | (simp [nestW] at hn; done)
theorem ws_good {L : List Cond} (h : ∀ w ∈ L, w ∈ WS) : GoodIn WS L := fun w hw => ⟨h w hw, good_of_word (List.mem_filter.mp (h w hw)).2⟩
def jC (x : JX) (cc : ByteArray) (nL : Nat) (own : String) : Prop :=
  CallFix (jp x) (jm x) (jc x) cc nL (js x) (ja x) WS own ∧ va_K (jD x) vwCl (jT x) (js x) ∧ (∀ q, (js x).heap.size ≤ q → jA x q) ∧ (jt x).locks = false ∧ jN (js x)
def jW (x : JX) (nL kc ks pc : Nat) (lv : List (Nat × Value)) (st : List Value) (w : va_W) : Prop :=
  ∀ (H : Heap) (locs : List Loc) (ls : Array Slot), va_P (jD x) vwCl w H → va_D (jA x) w → va_S (jA x) (js x).heap H locs → lv_has ls nL lv →
    W (jp x) (jl x) (je x) (jR x) (js x) (jm x) (ja x) (jb x) (jt x) (jc x) H locs kc ks (jQ x) (F0 (jm x) pc ls st)
/-- a guarded read, a guard, a named value: the words of the models -/
def mrd {α β : Type} (n : Nat) (f : Nat → β) (i : Int32) (B : β → Option α) : Option α := if 0 ≤ i.toInt ∧ i.toInt < n then B (f i.toNatClampNeg) else none
def mck {α : Type} (n : Nat) (i : Int32) (M : Option α) : Option α := if 0 ≤ i.toInt ∧ i.toInt < n then M else none
def mlet {α β : Type} (t : α) (B : α → β) : β := B t
def lp {S E : Type} (body : S → Option (S ⊕ E)) : Nat → S → Option E
  | 0, _ => none
  | n + 1, t => match body t with
    | none => none
    | some (.inl t') => lp body n t'
    | some (.inr e) => some e
def mb1 {α β : Type} (o : Option α) (B : α → Option β) : Option β := o.bind B
theorem mb1_some {α β : Type} {o : Option α} {B : α → Option β} {r : β} (h : mb1 o B = some r) : ∃ a, o = some a ∧ B a = some r := Option.bind_eq_some_iff.mp h
def mb2 {α0 α1 β : Type} (o : Option (α0 × α1)) (B : α0 → α1 → Option β) : Option β := o.bind fun s => B s.1 s.2
theorem mb2_some {α0 α1 β : Type} {o : Option (α0 × α1)} {B : α0 → α1 → Option β} {r : β} (h : mb2 o B = some r) : ∃ a0 a1, o = some (a0, a1) ∧ B a0 a1 = some r := by
  obtain ⟨⟨a0, a1⟩, h1, h2⟩ := Option.bind_eq_some_iff.mp h
  exact ⟨a0, a1, h1, h2⟩
def mb3 {α0 α1 α2 β : Type} (o : Option (α0 × α1 × α2)) (B : α0 → α1 → α2 → Option β) : Option β := o.bind fun s => B s.1 s.2.1 s.2.2
theorem mb3_some {α0 α1 α2 β : Type} {o : Option (α0 × α1 × α2)} {B : α0 → α1 → α2 → Option β} {r : β} (h : mb3 o B = some r) : ∃ a0 a1 a2, o = some (a0, a1, a2) ∧ B a0 a1 a2 = some r := by
  obtain ⟨⟨a0, a1, a2⟩, h1, h2⟩ := Option.bind_eq_some_iff.mp h
  exact ⟨a0, a1, a2, h1, h2⟩
def mb4 {α0 α1 α2 α3 β : Type} (o : Option (α0 × α1 × α2 × α3)) (B : α0 → α1 → α2 → α3 → Option β) : Option β := o.bind fun s => B s.1 s.2.1 s.2.2.1 s.2.2.2
theorem mb4_some {α0 α1 α2 α3 β : Type} {o : Option (α0 × α1 × α2 × α3)} {B : α0 → α1 → α2 → α3 → Option β} {r : β} (h : mb4 o B = some r) : ∃ a0 a1 a2 a3, o = some (a0, a1, a2, a3) ∧ B a0 a1 a2 a3 = some r := by
  obtain ⟨⟨a0, a1, a2, a3⟩, h1, h2⟩ := Option.bind_eq_some_iff.mp h
  exact ⟨a0, a1, a2, a3, h1, h2⟩
def mb5 {α0 α1 α2 α3 α4 β : Type} (o : Option (α0 × α1 × α2 × α3 × α4)) (B : α0 → α1 → α2 → α3 → α4 → Option β) : Option β := o.bind fun s => B s.1 s.2.1 s.2.2.1 s.2.2.2.1 s.2.2.2.2
theorem mb5_some {α0 α1 α2 α3 α4 β : Type} {o : Option (α0 × α1 × α2 × α3 × α4)} {B : α0 → α1 → α2 → α3 → α4 → Option β} {r : β} (h : mb5 o B = some r) : ∃ a0 a1 a2 a3 a4, o = some (a0, a1, a2, a3, a4) ∧ B a0 a1 a2 a3 a4 = some r := by
  obtain ⟨⟨a0, a1, a2, a3, a4⟩, h1, h2⟩ := Option.bind_eq_some_iff.mp h
  exact ⟨a0, a1, a2, a3, a4, h1, h2⟩
def mb6 {α0 α1 α2 α3 α4 α5 β : Type} (o : Option (α0 × α1 × α2 × α3 × α4 × α5)) (B : α0 → α1 → α2 → α3 → α4 → α5 → Option β) : Option β := o.bind fun s => B s.1 s.2.1 s.2.2.1 s.2.2.2.1 s.2.2.2.2.1 s.2.2.2.2.2
theorem mb6_some {α0 α1 α2 α3 α4 α5 β : Type} {o : Option (α0 × α1 × α2 × α3 × α4 × α5)} {B : α0 → α1 → α2 → α3 → α4 → α5 → Option β} {r : β} (h : mb6 o B = some r) : ∃ a0 a1 a2 a3 a4 a5, o = some (a0, a1, a2, a3, a4, a5) ∧ B a0 a1 a2 a3 a4 a5 = some r := by
  obtain ⟨⟨a0, a1, a2, a3, a4, a5⟩, h1, h2⟩ := Option.bind_eq_some_iff.mp h
  exact ⟨a0, a1, a2, a3, a4, a5, h1, h2⟩
def mb7 {α0 α1 α2 α3 α4 α5 α6 β : Type} (o : Option (α0 × α1 × α2 × α3 × α4 × α5 × α6)) (B : α0 → α1 → α2 → α3 → α4 → α5 → α6 → Option β) : Option β := o.bind fun s => B s.1 s.2.1 s.2.2.1 s.2.2.2.1 s.2.2.2.2.1 s.2.2.2.2.2.1 s.2.2.2.2.2.2
theorem mb7_some {α0 α1 α2 α3 α4 α5 α6 β : Type} {o : Option (α0 × α1 × α2 × α3 × α4 × α5 × α6)} {B : α0 → α1 → α2 → α3 → α4 → α5 → α6 → Option β} {r : β} (h : mb7 o B = some r) : ∃ a0 a1 a2 a3 a4 a5 a6, o = some (a0, a1, a2, a3, a4, a5, a6) ∧ B a0 a1 a2 a3 a4 a5 a6 = some r := by
  obtain ⟨⟨a0, a1, a2, a3, a4, a5, a6⟩, h1, h2⟩ := Option.bind_eq_some_iff.mp h
  exact ⟨a0, a1, a2, a3, a4, a5, a6, h1, h2⟩
def mb8 {α0 α1 α2 α3 α4 α5 α6 α7 β : Type} (o : Option (α0 × α1 × α2 × α3 × α4 × α5 × α6 × α7)) (B : α0 → α1 → α2 → α3 → α4 → α5 → α6 → α7 → Option β) : Option β := o.bind fun s => B s.1 s.2.1 s.2.2.1 s.2.2.2.1 s.2.2.2.2.1 s.2.2.2.2.2.1 s.2.2.2.2.2.2.1 s.2.2.2.2.2.2.2
theorem mb8_some {α0 α1 α2 α3 α4 α5 α6 α7 β : Type} {o : Option (α0 × α1 × α2 × α3 × α4 × α5 × α6 × α7)} {B : α0 → α1 → α2 → α3 → α4 → α5 → α6 → α7 → Option β} {r : β} (h : mb8 o B = some r) : ∃ a0 a1 a2 a3 a4 a5 a6 a7, o = some (a0, a1, a2, a3, a4, a5, a6, a7) ∧ B a0 a1 a2 a3 a4 a5 a6 a7 = some r := by
  obtain ⟨⟨a0, a1, a2, a3, a4, a5, a6, a7⟩, h1, h2⟩ := Option.bind_eq_some_iff.mp h
  exact ⟨a0, a1, a2, a3, a4, a5, a6, a7, h1, h2⟩
theorem mrd_some {α β : Type} {n : Nat} {f : Nat → β} {i : Int32} {B : β → Option α} {r : α} (h : mrd n f i B = some r) : vp_in i n ∧ B (f i.toNatClampNeg) = some r := by
  unfold mrd at h
  split at h
  · rename_i hc; exact ⟨vp_in_iff.mpr hc, h⟩
  · cases h
theorem mck_some {α : Type} {n : Nat} {i : Int32} {M : Option α} {r : α} (h : mck n i M = some r) : vp_in i n ∧ M = some r := by
  unfold mck at h
  split at h
  · rename_i hc; exact ⟨vp_in_iff.mpr hc, h⟩
  · cases h
theorem j_lp {S E : Type} {body : S → Option (S ⊕ E)} {Pr : S → Prop} {K : E → Prop} (hs : ∀ t o, body t = some o → (∀ t', o = .inl t' → Pr t') → (∀ e, o = .inr e → K e) → Pr t) : ∀ n t e, lp body n t = some e → K e → Pr t := by
  intro n
  induction n with
  | zero => intro t e h; cases h
  | succ n ih =>
    intro t e h k
    unfold lp at h
    cases hb : body t with
    | none => rw [hb] at h; cases h
    | some o =>
      rw [hb] at h
      cases o with
      | inl t' => exact hs t _ hb (fun t'' ht => by cases ht; exact ih t' e h k) (fun e' he => by cases he)
      | inr e' => cases h; exact hs t _ hb (fun t' ht => by cases ht) (fun e'' he => by cases he; exact k)
section JROWS
variable {x : JX} {cc : ByteArray} {nL kc ks : Nat} {own : String} {pc pc' : Nat} {lv lv' : List (Nat × Value)} {st : List Value} {w : va_W}
theorem j_sub (is : List Nat) (hl : lv_pick lv is = lv') (K : jW x nL kc ks pc lv' st w) : jW x nL kc ks pc lv st w :=
  fun H locs ls hP hD hS h => K H locs ls hP hD hS (lv_sub h is hl)
theorem j_pc (hp : pc = pc') (K : jW x nL kc ks pc' lv st w) : jW x nL kc ks pc lv st w := hp ▸ K
theorem j_iconst (C : jC x cc nL own) {n : Int} {v : Int32} (hd : decode cc pc = .ok (.iconst n, 1)) (hp : pc + 1 = pc') (hv : Int32.ofInt n = v) (K : jW x nL kc ks pc' lv (.int v :: st) w) : jW x nL kc ks pc lv (st) w :=
  fun H locs ls hP hD hS hl => lv_iconst C.1.1 C.1.2.1 hd hv (by subst hp; exact K H locs ls hP hD hS hl)
theorem j_bipush (C : jC x cc nL own) {n : Int} {v : Int32} (hd : decode cc pc = .ok (.bipush n, 2)) (hp : pc + 2 = pc') (hv : (Int8.ofInt n).toInt32 = v) (K : jW x nL kc ks pc' lv (.int v :: st) w) : jW x nL kc ks pc lv (st) w :=
  fun H locs ls hP hD hS hl => lv_bipush C.1.1 C.1.2.1 hd hv (by subst hp; exact K H locs ls hP hD hS hl)
theorem j_sipush (C : jC x cc nL own) {n : Int} {v : Int32} (hd : decode cc pc = .ok (.sipush n, 3)) (hp : pc + 3 = pc') (hv : (Int16.ofInt n).toInt32 = v) (K : jW x nL kc ks pc' lv (.int v :: st) w) : jW x nL kc ks pc lv (st) w :=
  fun H locs ls hP hD hS hl => lv_sipush C.1.1 C.1.2.1 hd hv (by subst hp; exact K H locs ls hP hD hS hl)
theorem j_ldc (C : jC x cc nL own) {index : Nat} {v : Int32} (hd : decode cc pc = .ok (.ldc index, 2)) (hp : pc + 2 = pc') (hw : Cond.constant own index v ∈ WS) (K : jW x nL kc ks pc' lv (.int v :: st) w) : jW x nL kc ks pc lv (st) w :=
  fun H locs ls hP hD hS hl => lv_ldc C.1.1 C.1.2.1 C.1.2.2.2.1 (C.1.2.2.2.2 _ hw) hd (by subst hp; exact K H locs ls hP hD hS hl)
theorem j_iload_n (C : jC x cc nL own) {kk : Fin 4} {i : Nat} {v : Int32} (j : Nat) (hd : decode cc pc = .ok (.iload_n kk, 1)) (hp : pc + 1 = pc') (hi : (kk : Nat) = i) (hk : lv[j]? = some (i, .int v)) (K : jW x nL kc ks pc' lv (.int v :: st) w) : jW x nL kc ks pc lv (st) w :=
  fun H locs ls hP hD hS hl => lv_iload_n C.1.1 C.1.2.1 hd hi (lv_at hl j hk) (by subst hp; exact K H locs ls hP hD hS hl)
theorem j_iload (C : jC x cc nL own) {i : Nat} {v : Int32} (j : Nat) (hd : decode cc pc = .ok (.iload i, 2)) (hp : pc + 2 = pc') (hk : lv[j]? = some (i, .int v)) (K : jW x nL kc ks pc' lv (.int v :: st) w) : jW x nL kc ks pc lv (st) w :=
  fun H locs ls hP hD hS hl => lv_iload C.1.1 C.1.2.1 hd (lv_at hl j hk) (by subst hp; exact K H locs ls hP hD hS hl)
theorem j_aload_n (C : jC x cc nL own) {kk : Fin 4} {i : Nat} {v : Nat} (j : Nat) (hd : decode cc pc = .ok (.aload_n kk, 1)) (hp : pc + 1 = pc') (hi : (kk : Nat) = i) (hk : lv[j]? = some (i, .ref v)) (K : jW x nL kc ks pc' lv (.ref v :: st) w) : jW x nL kc ks pc lv (st) w :=
  fun H locs ls hP hD hS hl => lv_aload_n C.1.1 C.1.2.1 hd hi (lv_at hl j hk) (by subst hp; exact K H locs ls hP hD hS hl)
theorem j_aload (C : jC x cc nL own) {i : Nat} {v : Nat} (j : Nat) (hd : decode cc pc = .ok (.aload i, 2)) (hp : pc + 2 = pc') (hk : lv[j]? = some (i, .ref v)) (K : jW x nL kc ks pc' lv (.ref v :: st) w) : jW x nL kc ks pc lv (st) w :=
  fun H locs ls hP hD hS hl => lv_aload C.1.1 C.1.2.1 hd (lv_at hl j hk) (by subst hp; exact K H locs ls hP hD hS hl)
theorem j_lload_n (C : jC x cc nL own) {kk : Fin 4} {i : Nat} {v : Int64} (j : Nat) (hd : decode cc pc = .ok (.lload_n kk, 1)) (hp : pc + 1 = pc') (hi : (kk : Nat) = i) (hk : lv[j]? = some (i, .long v)) (K : jW x nL kc ks pc' lv (.long v :: st) w) : jW x nL kc ks pc lv (st) w :=
  fun H locs ls hP hD hS hl => lv_lload_n C.1.1 C.1.2.1 hd hi (lv_at hl j hk) (by subst hp; exact K H locs ls hP hD hS hl)
theorem j_lload (C : jC x cc nL own) {i : Nat} {v : Int64} (j : Nat) (hd : decode cc pc = .ok (.lload i, 2)) (hp : pc + 2 = pc') (hk : lv[j]? = some (i, .long v)) (K : jW x nL kc ks pc' lv (.long v :: st) w) : jW x nL kc ks pc lv (st) w :=
  fun H locs ls hP hD hS hl => lv_lload C.1.1 C.1.2.1 hd (lv_at hl j hk) (by subst hp; exact K H locs ls hP hD hS hl)
theorem j_istore_n (C : jC x cc nL own) {kk : Fin 4} {i : Nat} {v : Int32} (hd : decode cc pc = .ok (.istore_n kk, 1)) (hp : pc + 1 = pc') (hi : (kk : Nat) = i) (hn : i < nL) (hl : (i, Value.int v) :: lv.filter (fun q => !(q.1 == i) && !(q.1 + 1 == i && q.2.category == 2)) = lv') (K : jW x nL kc ks pc' lv' (st) w) : jW x nL kc ks pc lv (.int v :: st) w :=
  fun H locs ls hP hD hS h => lv_istore_n C.1.1 C.1.2.1 hd hi h hn hl (fun ls' h' => by subst hp; exact K H locs ls' hP hD hS h')
theorem j_istore (C : jC x cc nL own) {i : Nat} {v : Int32} (hd : decode cc pc = .ok (.istore i, 2)) (hp : pc + 2 = pc') (hn : i < nL) (hl : (i, Value.int v) :: lv.filter (fun q => !(q.1 == i) && !(q.1 + 1 == i && q.2.category == 2)) = lv') (K : jW x nL kc ks pc' lv' (st) w) : jW x nL kc ks pc lv (.int v :: st) w :=
  fun H locs ls hP hD hS h => lv_istore C.1.1 C.1.2.1 hd h hn hl (fun ls' h' => by subst hp; exact K H locs ls' hP hD hS h')
theorem j_astore_n (C : jC x cc nL own) {kk : Fin 4} {i : Nat} {v : Nat} (hd : decode cc pc = .ok (.astore_n kk, 1)) (hp : pc + 1 = pc') (hi : (kk : Nat) = i) (hn : i < nL) (hl : (i, Value.ref v) :: lv.filter (fun q => !(q.1 == i) && !(q.1 + 1 == i && q.2.category == 2)) = lv') (K : jW x nL kc ks pc' lv' (st) w) : jW x nL kc ks pc lv (.ref v :: st) w :=
  fun H locs ls hP hD hS h => lv_astore_n C.1.1 C.1.2.1 hd hi h hn hl (fun ls' h' => by subst hp; exact K H locs ls' hP hD hS h')
theorem j_astore (C : jC x cc nL own) {i : Nat} {v : Nat} (hd : decode cc pc = .ok (.astore i, 2)) (hp : pc + 2 = pc') (hn : i < nL) (hl : (i, Value.ref v) :: lv.filter (fun q => !(q.1 == i) && !(q.1 + 1 == i && q.2.category == 2)) = lv') (K : jW x nL kc ks pc' lv' (st) w) : jW x nL kc ks pc lv (.ref v :: st) w :=
  fun H locs ls hP hD hS h => lv_astore C.1.1 C.1.2.1 hd h hn hl (fun ls' h' => by subst hp; exact K H locs ls' hP hD hS h')
theorem j_iinc (C : jC x cc nL own) {i : Nat} {n : Int} {v v' : Int32} (j : Nat) (hd : decode cc pc = .ok (.iinc i n, 3)) (hp : pc + 3 = pc') (hk : lv[j]? = some (i, .int v)) (hv : v + Int32.ofInt n = v') (hn : i < nL) (hl : (i, Value.int v') :: lv.filter (fun q => !(q.1 == i) && !(q.1 + 1 == i && q.2.category == 2)) = lv') (K : jW x nL kc ks pc' lv' (st) w) : jW x nL kc ks pc lv (st) w :=
  fun H locs ls hP hD hS h => lv_iinc C.1.1 C.1.2.1 hd h hk hv hn hl (fun ls' h' => by subst hp; exact K H locs ls' hP hD hS h')
theorem j_iadd (C : jC x cc nL own) {a b : Int32} (hd : decode cc pc = .ok (.iadd, 1)) (hp : pc + 1 = pc') (K : jW x nL kc ks pc' lv (.int (a + b) :: st) w) : jW x nL kc ks pc lv (.int b :: .int a :: st) w :=
  fun H locs ls hP hD hS hl => lv_iadd C.1.1 C.1.2.1 hd (by subst hp; exact K H locs ls hP hD hS hl)
theorem j_isub (C : jC x cc nL own) {a b : Int32} (hd : decode cc pc = .ok (.isub, 1)) (hp : pc + 1 = pc') (K : jW x nL kc ks pc' lv (.int (a - b) :: st) w) : jW x nL kc ks pc lv (.int b :: .int a :: st) w :=
  fun H locs ls hP hD hS hl => lv_isub C.1.1 C.1.2.1 hd (by subst hp; exact K H locs ls hP hD hS hl)
theorem j_imul (C : jC x cc nL own) {a b : Int32} (hd : decode cc pc = .ok (.imul, 1)) (hp : pc + 1 = pc') (K : jW x nL kc ks pc' lv (.int (a * b) :: st) w) : jW x nL kc ks pc lv (.int b :: .int a :: st) w :=
  fun H locs ls hP hD hS hl => lv_imul C.1.1 C.1.2.1 hd (by subst hp; exact K H locs ls hP hD hS hl)
theorem j_iand (C : jC x cc nL own) {a b : Int32} (hd : decode cc pc = .ok (.iand, 1)) (hp : pc + 1 = pc') (K : jW x nL kc ks pc' lv (.int (a &&& b) :: st) w) : jW x nL kc ks pc lv (.int b :: .int a :: st) w :=
  fun H locs ls hP hD hS hl => lv_iand C.1.1 C.1.2.1 hd (by subst hp; exact K H locs ls hP hD hS hl)
theorem j_ior (C : jC x cc nL own) {a b : Int32} (hd : decode cc pc = .ok (.ior, 1)) (hp : pc + 1 = pc') (K : jW x nL kc ks pc' lv (.int (a ||| b) :: st) w) : jW x nL kc ks pc lv (.int b :: .int a :: st) w :=
  fun H locs ls hP hD hS hl => lv_ior C.1.1 C.1.2.1 hd (by subst hp; exact K H locs ls hP hD hS hl)
theorem j_ixor (C : jC x cc nL own) {a b : Int32} (hd : decode cc pc = .ok (.ixor, 1)) (hp : pc + 1 = pc') (K : jW x nL kc ks pc' lv (.int (a ^^^ b) :: st) w) : jW x nL kc ks pc lv (.int b :: .int a :: st) w :=
  fun H locs ls hP hD hS hl => lv_ixor C.1.1 C.1.2.1 hd (by subst hp; exact K H locs ls hP hD hS hl)
theorem j_ishl (C : jC x cc nL own) {a b : Int32} (hd : decode cc pc = .ok (.ishl, 1)) (hp : pc + 1 = pc') (K : jW x nL kc ks pc' lv (.int (a <<< (b &&& 31)) :: st) w) : jW x nL kc ks pc lv (.int b :: .int a :: st) w :=
  fun H locs ls hP hD hS hl => lv_ishl C.1.1 C.1.2.1 hd (by subst hp; exact K H locs ls hP hD hS hl)
theorem j_ishr (C : jC x cc nL own) {a b : Int32} (hd : decode cc pc = .ok (.ishr, 1)) (hp : pc + 1 = pc') (K : jW x nL kc ks pc' lv (.int (a >>> (b &&& 31)) :: st) w) : jW x nL kc ks pc lv (.int b :: .int a :: st) w :=
  fun H locs ls hP hD hS hl => lv_ishr C.1.1 C.1.2.1 hd (by subst hp; exact K H locs ls hP hD hS hl)
theorem j_iushr (C : jC x cc nL own) {a b : Int32} (hd : decode cc pc = .ok (.iushr, 1)) (hp : pc + 1 = pc') (K : jW x nL kc ks pc' lv (.int ((a.toUInt32 >>> (b.toUInt32 &&& Int32.toUInt32 31)).toInt32) :: st) w) : jW x nL kc ks pc lv (.int b :: .int a :: st) w :=
  fun H locs ls hP hD hS hl => lv_iushr C.1.1 C.1.2.1 hd rfl (by subst hp; exact K H locs ls hP hD hS hl)
theorem j_ineg (C : jC x cc nL own) {a : Int32} (hd : decode cc pc = .ok (.ineg, 1)) (hp : pc + 1 = pc') (K : jW x nL kc ks pc' lv (.int (-a) :: st) w) : jW x nL kc ks pc lv (.int a :: st) w :=
  fun H locs ls hP hD hS hl => lv_ineg C.1.1 C.1.2.1 hd (by subst hp; exact K H locs ls hP hD hS hl)
theorem j_i2l (C : jC x cc nL own) {a : Int32} (hd : decode cc pc = .ok (.i2l, 1)) (hp : pc + 1 = pc') (K : jW x nL kc ks pc' lv (.long a.toInt64 :: st) w) : jW x nL kc ks pc lv (.int a :: st) w :=
  fun H locs ls hP hD hS hl => lv_i2l C.1.1 C.1.2.1 hd rfl (by subst hp; exact K H locs ls hP hD hS hl)
theorem j_dup (C : jC x cc nL own) {va : Value} (hd : decode cc pc = .ok (.dup, 1)) (hp : pc + 1 = pc') (hva : va.category = 1) (K : jW x nL kc ks pc' lv (va :: va :: st) w) : jW x nL kc ks pc lv (va :: st) w :=
  fun H locs ls hP hD hS hl => lv_dup C.1.1 C.1.2.1 hd hva (by subst hp; exact K H locs ls hP hD hS hl)
theorem j_pop (C : jC x cc nL own) {va : Value} (hd : decode cc pc = .ok (.pop, 1)) (hp : pc + 1 = pc') (hva : va.category = 1) (K : jW x nL kc ks pc' lv (st) w) : jW x nL kc ks pc lv (va :: st) w :=
  fun H locs ls hP hD hS hl => lv_pop C.1.1 C.1.2.1 hd hva (by subst hp; exact K H locs ls hP hD hS hl)
theorem j_dup2 (C : jC x cc nL own) {va vb : Value} (hd : decode cc pc = .ok (.dup2, 1)) (hp : pc + 1 = pc') (hva : va.category = 1) (hvb : vb.category = 1) (K : jW x nL kc ks pc' lv (va :: vb :: va :: vb :: st) w) : jW x nL kc ks pc lv (va :: vb :: st) w :=
  fun H locs ls hP hD hS hl => lv_dup2_11 C.1.1 C.1.2.1 hd hva hvb (by subst hp; exact K H locs ls hP hD hS hl)
theorem j_dup_x1 (C : jC x cc nL own) {va vb : Value} (hd : decode cc pc = .ok (.dup_x1, 1)) (hp : pc + 1 = pc') (hva : va.category = 1) (hvb : vb.category = 1) (K : jW x nL kc ks pc' lv (va :: vb :: va :: st) w) : jW x nL kc ks pc lv (va :: vb :: st) w :=
  fun H locs ls hP hD hS hl => lv_dup_x1 C.1.1 C.1.2.1 hd hva hvb (by subst hp; exact K H locs ls hP hD hS hl)
theorem j_goto (C : jC x cc nL own) {off : Int} {tgt : Nat} (hd : decode cc pc = .ok (.goto off, 3)) (ht : (pc : Int) + off = (tgt : Int)) (K : jW x nL kc ks tgt lv st w) : jW x nL kc ks pc lv (st) w :=
  fun H locs ls hP hD hS hl => lv_goto C.1.1 C.1.2.1 hd ht (K H locs ls hP hD hS hl)
theorem j_if_eq (C : jC x cc nL own) {α : Type} {res : α} {MA MB : Option α} {a : Int32} {off : Int} {tgt : Nat} (hd : decode cc pc = .ok (.ifCond .eq off, 3)) (ht : (pc : Int) + off = (tgt : Int)) (hp : pc + 3 = pc') (h : (if a = 0 then MA else MB) = some res) (K1 : MA = some res → jW x nL kc ks tgt lv st w) (K2 : MB = some res → jW x nL kc ks pc' lv st w) : jW x nL kc ks pc lv (.int a :: st) w :=
  fun H locs ls hP hD hS hl => lv_if_eq C.1.1 C.1.2.1 hd ht (fun q => K1 (by rw [if_pos q] at h; exact h) H locs ls hP hD hS hl) (fun q => by subst hp; exact K2 (by rw [if_neg q] at h; exact h) H locs ls hP hD hS hl)
theorem j_icmp_eq (C : jC x cc nL own) {α : Type} {res : α} {MA MB : Option α} {a b : Int32} {off : Int} {tgt : Nat} (hd : decode cc pc = .ok (.if_icmp .eq off, 3)) (ht : (pc : Int) + off = (tgt : Int)) (hp : pc + 3 = pc') (h : (if a = b then MA else MB) = some res) (K1 : MA = some res → jW x nL kc ks tgt lv st w) (K2 : MB = some res → jW x nL kc ks pc' lv st w) : jW x nL kc ks pc lv (.int b :: .int a :: st) w :=
  fun H locs ls hP hD hS hl => lv_icmp_eq C.1.1 C.1.2.1 hd ht (fun q => K1 (by rw [if_pos q] at h; exact h) H locs ls hP hD hS hl) (fun q => by subst hp; exact K2 (by rw [if_neg q] at h; exact h) H locs ls hP hD hS hl)
theorem j_if_ne (C : jC x cc nL own) {α : Type} {res : α} {MA MB : Option α} {a : Int32} {off : Int} {tgt : Nat} (hd : decode cc pc = .ok (.ifCond .ne off, 3)) (ht : (pc : Int) + off = (tgt : Int)) (hp : pc + 3 = pc') (h : (if a = 0 then MA else MB) = some res) (K1 : MB = some res → jW x nL kc ks tgt lv st w) (K2 : MA = some res → jW x nL kc ks pc' lv st w) : jW x nL kc ks pc lv (.int a :: st) w :=
  fun H locs ls hP hD hS hl => lv_if_ne C.1.1 C.1.2.1 hd ht (fun q => K1 (by rw [if_neg q] at h; exact h) H locs ls hP hD hS hl) (fun q => by subst hp; exact K2 (by rw [if_pos q] at h; exact h) H locs ls hP hD hS hl)
theorem j_icmp_ne (C : jC x cc nL own) {α : Type} {res : α} {MA MB : Option α} {a b : Int32} {off : Int} {tgt : Nat} (hd : decode cc pc = .ok (.if_icmp .ne off, 3)) (ht : (pc : Int) + off = (tgt : Int)) (hp : pc + 3 = pc') (h : (if a = b then MA else MB) = some res) (K1 : MB = some res → jW x nL kc ks tgt lv st w) (K2 : MA = some res → jW x nL kc ks pc' lv st w) : jW x nL kc ks pc lv (.int b :: .int a :: st) w :=
  fun H locs ls hP hD hS hl => lv_icmp_ne C.1.1 C.1.2.1 hd ht (fun q => K1 (by rw [if_neg q] at h; exact h) H locs ls hP hD hS hl) (fun q => by subst hp; exact K2 (by rw [if_pos q] at h; exact h) H locs ls hP hD hS hl)
theorem j_if_lt (C : jC x cc nL own) {α : Type} {res : α} {MA MB : Option α} {a : Int32} {off : Int} {tgt : Nat} (hd : decode cc pc = .ok (.ifCond .lt off, 3)) (ht : (pc : Int) + off = (tgt : Int)) (hp : pc + 3 = pc') (h : (if a < 0 then MA else MB) = some res) (K1 : MA = some res → jW x nL kc ks tgt lv st w) (K2 : MB = some res → jW x nL kc ks pc' lv st w) : jW x nL kc ks pc lv (.int a :: st) w :=
  fun H locs ls hP hD hS hl => lv_if_lt C.1.1 C.1.2.1 hd ht (fun q => K1 (by rw [if_pos q] at h; exact h) H locs ls hP hD hS hl) (fun q => by subst hp; exact K2 (by rw [if_neg q] at h; exact h) H locs ls hP hD hS hl)
theorem j_icmp_lt (C : jC x cc nL own) {α : Type} {res : α} {MA MB : Option α} {a b : Int32} {off : Int} {tgt : Nat} (hd : decode cc pc = .ok (.if_icmp .lt off, 3)) (ht : (pc : Int) + off = (tgt : Int)) (hp : pc + 3 = pc') (h : (if a < b then MA else MB) = some res) (K1 : MA = some res → jW x nL kc ks tgt lv st w) (K2 : MB = some res → jW x nL kc ks pc' lv st w) : jW x nL kc ks pc lv (.int b :: .int a :: st) w :=
  fun H locs ls hP hD hS hl => lv_icmp_lt C.1.1 C.1.2.1 hd ht (fun q => K1 (by rw [if_pos q] at h; exact h) H locs ls hP hD hS hl) (fun q => by subst hp; exact K2 (by rw [if_neg q] at h; exact h) H locs ls hP hD hS hl)
theorem j_if_ge (C : jC x cc nL own) {α : Type} {res : α} {MA MB : Option α} {a : Int32} {off : Int} {tgt : Nat} (hd : decode cc pc = .ok (.ifCond .ge off, 3)) (ht : (pc : Int) + off = (tgt : Int)) (hp : pc + 3 = pc') (h : (if 0 ≤ a then MA else MB) = some res) (K1 : MA = some res → jW x nL kc ks tgt lv st w) (K2 : MB = some res → jW x nL kc ks pc' lv st w) : jW x nL kc ks pc lv (.int a :: st) w :=
  fun H locs ls hP hD hS hl => lv_if_ge C.1.1 C.1.2.1 hd ht (fun q => K1 (by rw [if_pos q] at h; exact h) H locs ls hP hD hS hl) (fun q => by subst hp; exact K2 (by rw [if_neg q] at h; exact h) H locs ls hP hD hS hl)
theorem j_icmp_ge (C : jC x cc nL own) {α : Type} {res : α} {MA MB : Option α} {a b : Int32} {off : Int} {tgt : Nat} (hd : decode cc pc = .ok (.if_icmp .ge off, 3)) (ht : (pc : Int) + off = (tgt : Int)) (hp : pc + 3 = pc') (h : (if b ≤ a then MA else MB) = some res) (K1 : MA = some res → jW x nL kc ks tgt lv st w) (K2 : MB = some res → jW x nL kc ks pc' lv st w) : jW x nL kc ks pc lv (.int b :: .int a :: st) w :=
  fun H locs ls hP hD hS hl => lv_icmp_ge C.1.1 C.1.2.1 hd ht (fun q => K1 (by rw [if_pos q] at h; exact h) H locs ls hP hD hS hl) (fun q => by subst hp; exact K2 (by rw [if_neg q] at h; exact h) H locs ls hP hD hS hl)
theorem j_if_gt (C : jC x cc nL own) {α : Type} {res : α} {MA MB : Option α} {a : Int32} {off : Int} {tgt : Nat} (hd : decode cc pc = .ok (.ifCond .gt off, 3)) (ht : (pc : Int) + off = (tgt : Int)) (hp : pc + 3 = pc') (h : (if 0 < a then MA else MB) = some res) (K1 : MA = some res → jW x nL kc ks tgt lv st w) (K2 : MB = some res → jW x nL kc ks pc' lv st w) : jW x nL kc ks pc lv (.int a :: st) w :=
  fun H locs ls hP hD hS hl => lv_if_gt C.1.1 C.1.2.1 hd ht (fun q => K1 (by rw [if_pos q] at h; exact h) H locs ls hP hD hS hl) (fun q => by subst hp; exact K2 (by rw [if_neg q] at h; exact h) H locs ls hP hD hS hl)
theorem j_icmp_gt (C : jC x cc nL own) {α : Type} {res : α} {MA MB : Option α} {a b : Int32} {off : Int} {tgt : Nat} (hd : decode cc pc = .ok (.if_icmp .gt off, 3)) (ht : (pc : Int) + off = (tgt : Int)) (hp : pc + 3 = pc') (h : (if b < a then MA else MB) = some res) (K1 : MA = some res → jW x nL kc ks tgt lv st w) (K2 : MB = some res → jW x nL kc ks pc' lv st w) : jW x nL kc ks pc lv (.int b :: .int a :: st) w :=
  fun H locs ls hP hD hS hl => lv_icmp_gt C.1.1 C.1.2.1 hd ht (fun q => K1 (by rw [if_pos q] at h; exact h) H locs ls hP hD hS hl) (fun q => by subst hp; exact K2 (by rw [if_neg q] at h; exact h) H locs ls hP hD hS hl)
theorem j_if_le (C : jC x cc nL own) {α : Type} {res : α} {MA MB : Option α} {a : Int32} {off : Int} {tgt : Nat} (hd : decode cc pc = .ok (.ifCond .le off, 3)) (ht : (pc : Int) + off = (tgt : Int)) (hp : pc + 3 = pc') (h : (if a ≤ 0 then MA else MB) = some res) (K1 : MA = some res → jW x nL kc ks tgt lv st w) (K2 : MB = some res → jW x nL kc ks pc' lv st w) : jW x nL kc ks pc lv (.int a :: st) w :=
  fun H locs ls hP hD hS hl => lv_if_le C.1.1 C.1.2.1 hd ht (fun q => K1 (by rw [if_pos q] at h; exact h) H locs ls hP hD hS hl) (fun q => by subst hp; exact K2 (by rw [if_neg q] at h; exact h) H locs ls hP hD hS hl)
theorem j_icmp_le (C : jC x cc nL own) {α : Type} {res : α} {MA MB : Option α} {a b : Int32} {off : Int} {tgt : Nat} (hd : decode cc pc = .ok (.if_icmp .le off, 3)) (ht : (pc : Int) + off = (tgt : Int)) (hp : pc + 3 = pc') (h : (if a ≤ b then MA else MB) = some res) (K1 : MA = some res → jW x nL kc ks tgt lv st w) (K2 : MB = some res → jW x nL kc ks pc' lv st w) : jW x nL kc ks pc lv (.int b :: .int a :: st) w :=
  fun H locs ls hP hD hS hl => lv_icmp_le C.1.1 C.1.2.1 hd ht (fun q => K1 (by rw [if_pos q] at h; exact h) H locs ls hP hD hS hl) (fun q => by subst hp; exact K2 (by rw [if_neg q] at h; exact h) H locs ls hP hD hS hl)
/-- a tableswitch, value by value; behind the last one the default -/
theorem j_tsw (C : jC x cc nL own) {α : Type} {res : α} {MA MB : Option α} {v k : Int32} {dflt lo hi off : Int} {offs : Array Int} {len tgt : Nat} (hd : decode cc pc = .ok (.tableswitch dflt lo hi offs, len)) (h1 : ¬ k.toInt < lo) (h2 : ¬ hi < k.toInt) (ho : offs[(k.toInt - lo).toNat]? = some off) (ht : (pc : Int) + off = (tgt : Int)) (h : (if v = k then MA else MB) = some res)
    (K1 : MA = some res → jW x nL kc ks tgt lv st w) (K2 : ¬ v = k → MB = some res → jW x nL kc ks pc lv (.int v :: st) w) : jW x nL kc ks pc lv (.int v :: st) w := by
  by_cases q : v = k
  · rw [if_pos q] at h
    subst q
    exact fun H locs ls hP hD hS hl => lv_tableIn C.1.1 C.1.2.1 hd h1 h2 ho ht (K1 h H locs ls hP hD hS hl)
  · rw [if_neg q] at h
    exact K2 q h
theorem j_tswD (C : jC x cc nL own) {v : Int32} {dflt lo hi : Int} {offs : Array Int} {len tgt : Nat} (hd : decode cc pc = .ok (.tableswitch dflt lo hi offs, len)) (hno : v.toInt < lo ∨ hi < v.toInt) (ht : (pc : Int) + dflt = (tgt : Int)) (K : jW x nL kc ks tgt lv st w) : jW x nL kc ks pc lv (.int v :: st) w :=
  fun H locs ls hP hD hS hl => lv_tableOut C.1.1 C.1.2.1 hd hno ht (K H locs ls hP hD hS hl)
theorem tiNe {v k : Int32} {z : Int} (hz : k.toInt = z) (h : ¬ v = k) : v.toInt ≠ z := fun e => h (Int32.toInt_inj.mp (e.trans hz.symm))
theorem j_get (C : jC x cc nL own) {ref Cn : String} {T : u_T} {N ci index a : Nat} (hin : ∀ z ∈ u_ws Cn T N, z ∈ WS) (q0 : Nat) {fs : List Value} (he : w[q0]? = some (a, .inr (ci, fs))) (hc : vwCl[ci]? = some (Cn, T, N)) (k : Nat) (hk : k < N) (hlink : Cond.fieldLink own index ref (T k).2.1 (T k).2.2.1 ∈ WS) (hsame : (T k).1 = ref) {v : Value} (hv : fs[k]? = some v) (hd : decode cc pc = .ok (.getfield index, 3)) (hp : pc + 3 = pc') (K : jW x nL kc ks pc' lv (v :: st) w) : jW x nL kc ks pc lv (.ref a :: st) w :=
  fun H locs ls hP hD hS hl => va_get (D := jD x) (ci := ci) C.1.1 C.1.2.1 C.1.2.2.2.2 hin C.1.2.2.2.1 C.2.1 hP q0 he hc k hk (C.1.2.2.2.2 _ hlink) (fun _ h9 => by rw [← hsame]; exact h9) hv hd (by subst hp; exact K H locs ls hP hD hS hl)
theorem j_getN (C : jC x cc nL own) {ref Cn host : String} {T : u_T} {N ci index a : Nat} (hin : ∀ z ∈ u_ws Cn T N, z ∈ WS) (q0 : Nat) {fs : List Value} (he : w[q0]? = some (a, .inr (ci, fs))) (hc : vwCl[ci]? = some (Cn, T, N)) (k : Nat) (hk : k < N) (hlink : Cond.fieldLinkNest own index ref (T k).2.1 (T k).2.2.1 host ∈ NWS) (hsame : (T k).1 = ref) {v : Value} (hv : fs[k]? = some v) (hd : decode cc pc = .ok (.getfield index, 3)) (hp : pc + 3 = pc') (K : jW x nL kc ks pc' lv (v :: st) w) : jW x nL kc ks pc lv (.ref a :: st) w :=
  fun H locs ls hP hD hS hl => va_getN (D := jD x) (ci := ci) C.1.1 C.1.2.1 C.1.2.2.2.2 hin C.1.2.2.2.1 C.2.1 hP q0 he hc k hk (va_Nw.use (nest_on hlink) (C.2.2.2.2 _ hlink)) (fun _ h9 => by rw [← hsame]; exact h9) hv hd (by subst hp; exact K H locs ls hP hD hS hl)
theorem j_put (C : jC x cc nL own) {ref Cn : String} {T : u_T} {N ci index a : Nat} {ty0 : Nat → FieldType} (hin : ∀ z ∈ u_ws Cn T N, z ∈ WS) (hty : ∀ k, k < N → parseFieldDescriptor (T k).2.2.1 = some (ty0 k)) (hnm : ∀ a, a < N → ∀ b, b < N → a ≠ b → (T a).2.1 ≠ (T b).2.1) (q0 : Nat) {fs : List Value} (he : w[q0]? = some (a, .inr (ci, fs))) (hc : vwCl[ci]? = some (Cn, T, N)) (k : Nat) (hk : k < N) (hlink : Cond.fieldLink own index ref (T k).2.1 (T k).2.2.1 ∈ WS) (hsame : (T k).1 = ref) (hfin : (T k).2.2.2 = false) (hty1 : ty0 k = .int) {v : Int32} (hl : k < fs.length) {α τ : Type} {res : α} {B : τ → Option α} {t0 : τ} (wf : τ → va_W) (hd : decode cc pc = .ok (.putfield index, 3)) (hp : pc + 3 = pc') (h0 : mlet t0 B = some res) (hw : w.set q0 (a, .inr (ci, fs.set k (.int v))) = wf t0) (K : ∀ t : τ, B t = some res → jW x nL kc ks pc' lv st (wf t)) : jW x nL kc ks pc lv (.int v :: .ref a :: st) w :=
  fun H locs ls hP hD hS h => va_put (D := jD x) (ci := ci) (ty := .int) C.1.1 C.1.2.1 C.1.2.2.2.2 hin ty0 hty hnm C.1.2.2.2.1 C.2.1 hP hD hS q0 he hc k hk (C.1.2.2.2.2 _ hlink) (fun _ h9 => by rw [← hsame]; exact h9) hfin (by rw [hty k hk, hty1]) rfl rfl hl hd (fun H1 locs1 hP1 hD1 hS1 => by rw [hw] at hP1 hD1; subst hp; exact K t0 h0 H1 locs1 ls hP1 hD1 hS1 h)
theorem j_iald (C : jC x cc nL own) {α : Type} {res : α} {B : Int32 → Option α} {a n : Nat} {cA : ClassId} {f : Nat → Int32} {i : Int32} (q0 t0 : Nat) (ha : w[q0]? = some (a, .inl (cA, n, .inl f))) (ht : (jT x)[t0]? = some (cA, .int)) (hd : decode cc pc = .ok (.iaload, 1)) (hp : pc + 1 = pc') (h : mrd n f i B = some res) (K : ∀ v : Int32, B v = some res → jW x nL kc ks pc' lv (.int v :: st) w) : jW x nL kc ks pc lv (.int i :: .ref a :: st) w :=
  fun H locs ls hP hD hS hl => va_iald C.1.1 C.1.2.1 C.2.1 hP q0 t0 ha ht (mrd_some h).1 hd (by subst hp; exact K _ (mrd_some h).2 H locs ls hP hD hS hl)
theorem j_lald (C : jC x cc nL own) {α : Type} {res : α} {B : Int64 → Option α} {a n : Nat} {cA : ClassId} {f : Nat → Int64} {i : Int32} (q0 t0 : Nat) (ha : w[q0]? = some (a, .inl (cA, n, .inr (.inl f)))) (ht : (jT x)[t0]? = some (cA, .long)) (hd : decode cc pc = .ok (.laload, 1)) (hp : pc + 1 = pc') (h : mrd n f i B = some res) (K : ∀ v : Int64, B v = some res → jW x nL kc ks pc' lv (.long v :: st) w) : jW x nL kc ks pc lv (.int i :: .ref a :: st) w :=
  fun H locs ls hP hD hS hl => va_lald C.1.1 C.1.2.1 C.2.1 hP q0 t0 ha ht (mrd_some h).1 hd (by subst hp; exact K _ (mrd_some h).2 H locs ls hP hD hS hl)
theorem j_iast (C : jC x cc nL own) {α τ : Type} {res : α} {B : τ → Option α} {t0 : τ} {a n : Nat} {cA : ClassId} {f : Nat → Int32} {i v : Int32} (wf : τ → va_W) (q0 ty0 : Nat) (ha : w[q0]? = some (a, .inl (cA, n, .inl f))) (ht : (jT x)[ty0]? = some (cA, .int)) (hd : decode cc pc = .ok (.iastore, 1)) (hp : pc + 1 = pc') (h : mck n i (mlet t0 B) = some res) (hw : w.set q0 (a, .inl (cA, n, .inl (upd f i.toNatClampNeg v))) = wf t0) (K : ∀ t : τ, B t = some res → jW x nL kc ks pc' lv st (wf t)) : jW x nL kc ks pc lv (.int v :: .int i :: .ref a :: st) w :=
  fun H locs ls hP hD hS hl => va_iast C.1.1 C.1.2.1 C.2.1 hP hD hS q0 ty0 ha ht (mck_some h).1 hd (fun H1 locs1 hP1 hD1 hS1 => by rw [hw] at hP1 hD1; subst hp; exact K t0 (mck_some h).2 H1 locs1 ls hP1 hD1 hS1 hl)
theorem j_last (C : jC x cc nL own) {α τ : Type} {res : α} {B : τ → Option α} {t0 : τ} {a n : Nat} {cA : ClassId} {f : Nat → Int64} {i : Int32} {v : Int64} (wf : τ → va_W) (q0 ty0 : Nat) (ha : w[q0]? = some (a, .inl (cA, n, .inr (.inl f)))) (ht : (jT x)[ty0]? = some (cA, .long)) (hd : decode cc pc = .ok (.lastore, 1)) (hp : pc + 1 = pc') (h : mck n i (mlet t0 B) = some res) (hw : w.set q0 (a, .inl (cA, n, .inr (.inl (vp_updL f i.toNatClampNeg v)))) = wf t0) (K : ∀ t : τ, B t = some res → jW x nL kc ks pc' lv st (wf t)) : jW x nL kc ks pc lv (.long v :: .int i :: .ref a :: st) w :=
  fun H locs ls hP hD hS hl => va_last C.1.1 C.1.2.1 C.2.1 hP hD hS q0 ty0 ha ht (mck_some h).1 hd (fun H1 locs1 hP1 hD1 hS1 => by rw [hw] at hP1 hD1; subst hp; exact K t0 (mck_some h).2 H1 locs1 ls hP1 hD1 hS1 hl)
theorem j_alen (C : jC x cc nL own) {a : Nat} {cA : ClassId} {y : vp_A} (q0 t0 : Nat) (ha : w[q0]? = some (a, .inl (cA, y))) {ty : FieldType} (ht : (jT x)[t0]? = some (cA, ty)) {v : Int32} (hv : Int32.ofNat y.1 = v) (hd : decode cc pc = .ok (.arraylength, 1)) (hp : pc + 1 = pc') (K : jW x nL kc ks pc' lv (.int v :: st) w) : jW x nL kc ks pc lv (.ref a :: st) w :=
  fun H locs ls hP hD hS hl => va_alen C.1.1 C.1.2.1 C.2.1 hP q0 t0 ha ht hv hd (by subst hp; exact K H locs ls hP hD hS hl)
/-- the contract of a method that returns v, over the worlds w0 and w1 (its cells, and what else is told) -/
def jM (l : Launch) (y : MethodName) (ws : List Cond) (rm : Room) (D : va_G) (tys : List (ClassId × FieldType)) (av : List Value) (w0 : va_W) (v : Option Value) (w1 : va_W) : Prop :=
  ∀ sz : Nat, Met l y ws rm (va_Pc av (fun U => U.heap.size = sz ∧ va_P D vwCl w0 U.heap ∧ va_K D vwCl tys U ∧ va_D (fun _ => True) w0 ∧ jN U)) (fun _ st oc t => oc = .returned v ∧ va_P D vwCl w1 t.heap ∧ va_D (va_A w0 sz) w1 ∧ va_F (va_A w0 sz) st t) rm.cells rm.slots (va_A w0 sz)
/-- the end that a body owes -/
def jE (x : JX) (kc ks : Nat) (v : Option Value) (w1 : va_W) : Prop :=
  jQ x = MQ (jb x) (fun _ st oc t => oc = .returned v ∧ va_P (jD x) vwCl w1 t.heap ∧ va_D (jA x) w1 ∧ va_F (jA x) st t) (ja x) (js x) kc ks (jA x)
theorem j_iret (C : jC x cc nL own) {v : Int32} (E : jE x kc ks (some (.int v)) w) (hr : (jt x).sig.returnType = some .int) (hd : decode cc pc = .ok (.ireturn, 1)) : jW x nL kc ks pc lv [.int v] w := by
  intro H locs ls hP hD hS hl
  rw [E]
  exact W.iret C.1.1 C.1.2.1 hr (fun t ht hW => ⟨rfl, by rw [ht]; exact hP, hD, hS.F ht⟩) hS.2.2 hd C.2.2.2.1
theorem j_zret (C : jC x cc nL own) {v : Int32} {ty : FieldType} (E : jE x kc ks (some (.int v)) w) (hr : (jt x).sig.returnType = some ty) (hn : narrow ty (.int v) = .int v) (hd : decode cc pc = .ok (.ireturn, 1)) : jW x nL kc ks pc lv [.int v] w := by
  intro H locs ls hP hD hS hl
  rw [E]
  exact W.zret C.1.1 C.1.2.1 hr hn (fun t ht hW => ⟨rfl, by rw [ht]; exact hP, hD, hS.F ht⟩) hS.2.2 hd C.2.2.2.1
theorem j_vret (C : jC x cc nL own) (E : jE x kc ks none w) (hr : (jt x).sig.returnType = none) (hd : decode cc pc = .ok (.return_, 1)) : jW x nL kc ks pc lv [] w := by
  intro H locs ls hP hD hS hl
  rw [E]
  exact W.vret C.1.1 C.1.2.1 hr (fun t ht hW => ⟨rfl, by rw [ht]; exact hP, hD, hS.F ht⟩) hS.2.2 hd C.2.2.2.1
/-- from a body to its contract -/
theorem j_of {l : Launch} {y : MethodName} {ws : List Cond} {rm : Room} {D : va_G} {tys : List (ClassId × FieldType)} {av : List Value} {w0 w1 : va_W} {v : Option Value} {bytes : ByteArray} {maxL : Nat} {ret : Option FieldType}
    (hy : plainName y.cls = true) (hw : ws = Cond.code y bytes maxL ret :: WS) (hav : (lg_sl av).length ≤ maxL) (hlv : lv_args 0 av = lv)
    (body : ∀ x : JX, jl x = l → jD x = D → jT x = tys → jR x = rm → jC x bytes maxL y.cls → (jt x).sig.returnType = ret → ((jt x).name = y.name) → jE x rm.cells rm.slots v w1 → jW x maxL 0 0 0 lv [] w0) : jM l y ws rm D tys av w0 v w1 := by
  intro sz
  refine Met.ofW hy hw ?_
  intro p e s m args below meth c s₁ B hml hv
  obtain ⟨rfl, hsz, hP, hK, hD0, hN⟩ := hv
  subst hsz
  have hlv' := lv_entry av (n := maxL) hav
  rw [hlv] at hlv'
  rw [lg_entry_eq]
  refine body ((p, l, e, (headSpec ws rm).room, s), (m, av.toArray, below, meth, c), (D, tys, va_A w0 s.heap.size, _)) rfl rfl rfl rfl ⟨⟨B.exec, B.bytes, hml, findClass_of_methodNamed B.named, fun z hz => atoms_spec (ws := ws) B.pre z (by rw [hw]; exact List.mem_cons_of_mem _ hz)⟩, hK, fun q h => Or.inr h, B.notSynchronized, hN⟩ B.returns (name_of_methodNamed B.named B.method).1 rfl s.heap [] _ hP (hD0.self) va_S.rf hlv'
theorem j_frame {A0 : Nat → Prop} {w0 : va_W} {H0 H : Heap} {locs : List Loc} (hD : va_D A0 w0) (hS : va_S A0 H0 H locs) (hA : ∀ q, H0.size ≤ q → A0 q) : ∀ q, va_A w0 H.size q → A0 q := by
  intro q h
  rcases h with ⟨k, e, hk⟩ | h
  · exact hD.2 k (q, e) hk
  · exact hA q (Nat.le_trans hS.1 h)
/-- behind a call -/
theorem j_run (C : jC x cc nL own) {rest : List Value} {v : Option Value} {w1 : va_W} {mc ms : Nat}
    (hr : ∀ (H : Heap) (locs : List Loc) (ls : Array Slot), va_P (jD x) vwCl w H → va_D (jA x) w → va_S (jA x) (js x).heap H locs → lv_has ls nL lv →
      va_Run (jp x) (jl x) (je x) (jR x) (js x) (jm x) (ja x) (jb x) (jt x) (jc x) H locs kc ks mc ms (F0 (jm x) pc ls st) rest (fun st0 oc t => oc = .returned v ∧ va_P (jD x) vwCl w1 t.heap ∧ va_D (va_A w H.size) w1 ∧ va_F (va_A w H.size) st0 t) (va_A w H.size))
    (K : jW x nL (kc + mc) (ks + ms) (pc + 3) lv (v.toList ++ rest) w1) : jW x nL kc ks pc lv st w := by
  intro H locs ls hP hD hS hl T hT X
  obtain ⟨v', st₀, t, T', L, h0, X', hL, e1, e2, ⟨hv, hP1, hD1, hF⟩, go⟩ := hr H locs ls hP hD hS hl T hT X
  cases hv
  have hfr := j_frame hD hS C.2.2.1
  have hS1 : va_S (jA x) (js x).heap T'.heap (locs ++ L) := by
    refine ⟨?_, ?_, ?_⟩
    · rw [e1]; exact Nat.le_trans hS.1 (by rw [← h0]; exact hF.1)
    · intro q hq hn
      have hq1 : q < H.size := Nat.lt_of_lt_of_le hq hS.1
      rw [e1, hF.2 q (by rw [h0]; exact hq1) (fun h => hn (hfr q h)), h0]
      exact hS.2.1 q hq hn
    · intro z hz
      rcases List.mem_append.mp hz with h | h
      · exact hS.2.2 z h
      · exact hfr _ (hL z h)
  obtain ⟨t2, a1, b1⟩ := K T'.heap (locs ++ L) ls (by rw [e1]; exact hP1) (hD1.weaken (fun _ q _ hq => hfr _ hq)) hS1 hl T' rfl X'
  exact ⟨t2, go t2 a1, b1⟩
theorem j_pre {l : Launch} {D : va_G} {tys : List (ClassId × FieldType)} {av : List Value} {w0 : va_W} {sz : Nat} : FrameBlind (va_Pc av (fun U => U.heap.size = sz ∧ va_P D vwCl w0 U.heap ∧ va_K D vwCl tys U ∧ va_D (fun _ => True) w0 ∧ jN U)) := fun a U g mk q => by
  obtain ⟨q0, q1, qP, qK, qD, qN⟩ := q
  exact ⟨q0, q1, qP, va_K.moved (u := U) (U := U.calling g mk a) (Vm.Alike.refl U.vm) qK, qD, qN.same rfl⟩
theorem j_at (C : jC x cc nL own) {av : List Value} {H : Heap} (hP : va_P (jD x) vwCl w H) (hD : va_D (jA x) w) : ∀ U : State, U.heap = H → (js x).WarmedH U.vm → va_Pc av (fun U => U.heap.size = H.size ∧ va_P (jD x) vwCl w U.heap ∧ va_K (jD x) vwCl (jT x) U ∧ va_D (fun _ => True) w ∧ jN U) av.toArray U :=
  fun U hU hW => ⟨rfl, by rw [hU], by rw [hU]; exact hP, va_K.moved hW.alike C.2.1, hD.weaken (fun _ _ _ _ => trivial), C.2.2.2.2.warm hW⟩
theorem j_callS (C : jC x cc nL own) {rm0 : Room} (hR : jR x = rm0) {y : MethodName} {bytes : ByteArray} {maxL n index : Nat} {ret : Option FieldType} {rm : Room} {As rest : List Value} {v : Option Value} {w1 : va_W} (hM : jM (jl x) y (Cond.code y bytes maxL ret :: WS) rm (jD x) (jT x) (As) w v w1) (kf : Cond.code y bytes maxL ret ∈ WS ∧ Cond.initialized y.cls ∈ WS ∧ (y.cls ≠ "java/lang/invoke/MethodHandle" ∧ y.cls ≠ "java/lang/invoke/VarHandle" ∧ (parseMethodDescriptor y.desc).map (fun d => d.parameters.length) = some n)) (hrm : rm.frames + 1 ≤ rm0.frames ∧ 8 + (maxL + 11) + rm.locals ≤ rm0.locals) (hlk : Cond.methodLink own index y ∈ WS) (hs : Cond.static y ∈ WS) (hn : As.length = n) (hst : st = As.reverse ++ rest) (hW : (rest.map fun v => v.category).sum ≤ 8) (hf : kc + rm.cells ≤ rm0.cells ∧ ks + rm.slots ≤ rm0.slots) (hd : decode cc pc = .ok (.invokestatic index, 3)) (hp : pc + 3 = pc') (K : jW x nL (kc + rm.cells) (ks + rm.slots) pc' lv (v.toList ++ rest) w1) : jW x nL kc ks pc lv (st) w := by
  subst hp
  refine j_run C (fun H locs ls hP hD hS hl => ?_) K
  exact va_runS C.1 (hM H.size) ⟨callB_of n C.1.2.2.2.2 (ws_good (fun z hz => (List.mem_cons.mp hz).elim (fun e => by rw [e]; exact kf.1) (fun h => h))) rfl rfl rfl (C.1.2.2.2.2 _ kf.2.1) (C.1.2.2.2.2 _ hlk) kf.2.2 (by rw [hR]; exact hrm), C.1.2.2.2.2 _ hs⟩ ⟨j_pre (l := jl x), j_at C hP hD⟩ rfl hn hl.1 hst (lv_room (m := jm x) (pc := pc) (ls := ls) (rest := st) hW) hd (by rw [hR]; exact hf)
theorem j_callSN (C : jC x cc nL own) {rm0 : Room} (hR : jR x = rm0) {y : MethodName} {bytes : ByteArray} {maxL n index : Nat} {ret : Option FieldType} {rm : Room} {As rest : List Value} {v : Option Value} {w1 : va_W} {host : String} (hM : jM (jl x) y (Cond.code y bytes maxL ret :: WS) rm (jD x) (jT x) (As) w v w1) (kf : Cond.code y bytes maxL ret ∈ WS ∧ Cond.initialized y.cls ∈ WS ∧ (y.cls ≠ "java/lang/invoke/MethodHandle" ∧ y.cls ≠ "java/lang/invoke/VarHandle" ∧ (parseMethodDescriptor y.desc).map (fun d => d.parameters.length) = some n)) (hrm : rm.frames + 1 ≤ rm0.frames ∧ 8 + (maxL + 11) + rm.locals ≤ rm0.locals) (hlk : Cond.methodLinkNest own index y host ∈ NWS) (hs : Cond.static y ∈ WS) (hn : As.length = n) (hst : st = As.reverse ++ rest) (hW : (rest.map fun v => v.category).sum ≤ 8) (hf : kc + rm.cells ≤ rm0.cells ∧ ks + rm.slots ≤ rm0.slots) (hd : decode cc pc = .ok (.invokestatic index, 3)) (hp : pc + 3 = pc') (K : jW x nL (kc + rm.cells) (ks + rm.slots) pc' lv (v.toList ++ rest) w1) : jW x nL kc ks pc lv (st) w := by
  subst hp
  refine j_run C (fun H locs ls hP hD hS hl => ?_) K
  exact va_runSN C.1 (hM H.size) ⟨va_cnB n C.1.2.2.2.2 (ws_good (fun z hz => (List.mem_cons.mp hz).elim (fun e => by rw [e]; exact kf.1) (fun h => h))) rfl rfl rfl (C.2.2.2.2 _ hlk) (C.1.2.2.2.2 _ kf.2.1) kf.2.2 (by rw [hR]; exact hrm), C.1.2.2.2.2 _ hs, trivial⟩ ⟨j_pre (l := jl x), j_at C hP hD⟩ rfl hn hl.1 hst (lv_room (m := jm x) (pc := pc) (ls := ls) (rest := st) hW) hd (by rw [hR]; exact hf)
theorem j_callV (C : jC x cc nL own) {rm0 : Room} (hR : jR x = rm0) {y : MethodName} {bytes : ByteArray} {maxL n index : Nat} {ret : Option FieldType} {rm : Room} {As rest : List Value} {v : Option Value} {w1 : va_W} {Cn : String} {b ci : Nat} {T : u_T} {N : Nat} {fs : List Value} (hM : jM (jl x) y (Cond.code y bytes maxL ret :: WS) rm (jD x) (jT x) (.ref b :: As) w v w1) (kf : Cond.code y bytes maxL ret ∈ WS ∧ Cond.initialized y.cls ∈ WS ∧ (y.cls ≠ "java/lang/invoke/MethodHandle" ∧ y.cls ≠ "java/lang/invoke/VarHandle" ∧ (parseMethodDescriptor y.desc).map (fun d => d.parameters.length) = some n)) (hrm : rm.frames + 1 ≤ rm0.frames ∧ 8 + (maxL + 11) + rm.locals ≤ rm0.locals) (hlk : Cond.methodLink own index y ∈ WS) (hi : Cond.instanceMethod y ∈ WS) (hs : Cond.selects Cn y y ∈ WS) (q0 : Nat) (hc : vwCl[ci]? = some (Cn, T, N)) (he : w[q0]? = some (b, .inr (ci, fs))) (hn : As.length = n) (hst : st = As.reverse ++ .ref b :: rest) (hW : (rest.map fun v => v.category).sum ≤ 8) (hf : kc + rm.cells ≤ rm0.cells ∧ ks + rm.slots ≤ rm0.slots) (hd : decode cc pc = .ok (.invokevirtual index, 3)) (hp : pc + 3 = pc') (K : jW x nL (kc + rm.cells) (ks + rm.slots) pc' lv (v.toList ++ rest) w1) : jW x nL kc ks pc lv (st) w := by
  subst hp
  refine j_run C (fun H locs ls hP hD hS hl => ?_) K
  exact va_runV C.1 (hM H.size) ⟨callB_of n C.1.2.2.2.2 (ws_good (fun z hz => (List.mem_cons.mp hz).elim (fun e => by rw [e]; exact kf.1) (fun h => h))) rfl rfl rfl (C.1.2.2.2.2 _ kf.2.1) (C.1.2.2.2.2 _ hlk) kf.2.2 (by rw [hR]; exact hrm), C.1.2.2.2.2 _ hi, C.1.2.2.2.2 _ hs⟩ ⟨j_pre (l := jl x), va_recv C.2.1 hP (ci := ci) (q0 := q0) hc he, j_at C hP hD⟩ rfl hn hl.1 hst (lv_room (m := jm x) (pc := pc) (ls := ls) (rest := st) hW) hd (by rw [hR]; exact hf)
theorem j_callVN (C : jC x cc nL own) {rm0 : Room} (hR : jR x = rm0) {y : MethodName} {bytes : ByteArray} {maxL n index : Nat} {ret : Option FieldType} {rm : Room} {As rest : List Value} {v : Option Value} {w1 : va_W} {Cn : String} {b ci : Nat} {T : u_T} {N : Nat} {fs : List Value} {host : String} (hM : jM (jl x) y (Cond.code y bytes maxL ret :: WS) rm (jD x) (jT x) (.ref b :: As) w v w1) (kf : Cond.code y bytes maxL ret ∈ WS ∧ Cond.initialized y.cls ∈ WS ∧ (y.cls ≠ "java/lang/invoke/MethodHandle" ∧ y.cls ≠ "java/lang/invoke/VarHandle" ∧ (parseMethodDescriptor y.desc).map (fun d => d.parameters.length) = some n)) (hrm : rm.frames + 1 ≤ rm0.frames ∧ 8 + (maxL + 11) + rm.locals ≤ rm0.locals) (hlk : Cond.methodLinkNest own index y host ∈ NWS) (hi : Cond.instanceMethod y ∈ WS) (hs : Cond.selects Cn y y ∈ WS) (q0 : Nat) (hc : vwCl[ci]? = some (Cn, T, N)) (he : w[q0]? = some (b, .inr (ci, fs))) (hn : As.length = n) (hst : st = As.reverse ++ .ref b :: rest) (hW : (rest.map fun v => v.category).sum ≤ 8) (hf : kc + rm.cells ≤ rm0.cells ∧ ks + rm.slots ≤ rm0.slots) (hd : decode cc pc = .ok (.invokevirtual index, 3)) (hp : pc + 3 = pc') (K : jW x nL (kc + rm.cells) (ks + rm.slots) pc' lv (v.toList ++ rest) w1) : jW x nL kc ks pc lv (st) w := by
  subst hp
  refine j_run C (fun H locs ls hP hD hS hl => ?_) K
  exact va_runVN C.1 (hM H.size) ⟨va_cnB n C.1.2.2.2.2 (ws_good (fun z hz => (List.mem_cons.mp hz).elim (fun e => by rw [e]; exact kf.1) (fun h => h))) rfl rfl rfl (C.2.2.2.2 _ hlk) (C.1.2.2.2.2 _ kf.2.1) kf.2.2 (by rw [hR]; exact hrm), C.1.2.2.2.2 _ hi, C.1.2.2.2.2 _ hs⟩ ⟨j_pre (l := jl x), va_recv C.2.1 hP (ci := ci) (q0 := q0) hc he, j_at C hP hD⟩ rfl hn hl.1 hst (lv_room (m := jm x) (pc := pc) (ls := ls) (rest := st) hW) hd (by rw [hR]; exact hf)
theorem j_mmin (C : jC x cc nL own) {rm0 : Room} (hR : jR x = rm0) {index : Nat} {a b : Int32} {α : Type} {res : α} {B : Int32 → Option α} (hlk : Cond.methodLink own index Lib.Math.min.name ∈ WS) (hs : Cond.static Lib.Math.min.name ∈ WS) (hini : Cond.initialized "java/lang/Math" ∈ WS) (hcode : Cond.code Lib.Math.min.name Lib.Math.min.code 2 (some .int) ∈ WS) (hfr : 1 ≤ rm0.frames) (hlo : (st.map fun v => v.category).sum + 13 ≤ rm0.locals) (hc : kc ≤ rm0.cells) (hk : ks ≤ rm0.slots) (hd : decode cc pc = .ok (.invokestatic index, 3)) (hp : pc + 3 = pc') (h : mlet (if b < a then b else a) B = some res) (K : ∀ v : Int32, B v = some res → jW x nL kc ks pc' lv (.int v :: st) w) : jW x nL kc ks pc lv (.int b :: .int a :: st) w :=
  fun H locs ls hP hD hS hl => va_mmin C.1.1 C.1.2.1 (by rw [C.1.2.2.1]; exact hl.1.symm) C.1.2.2.2.1 (C.1.2.2.2.2 _ hlk) (C.1.2.2.2.2 _ hs) (C.1.2.2.2.2 _ hini) (C.1.2.2.2.2 _ hcode) (by rw [hR]; exact hfr) (by rw [hR]; exact hlo) (by rw [hR]; exact hc) (by rw [hR]; exact hk) hd (by subst hp; exact K _ h H locs ls hP hD hS hl)
def mzr {α : Type} (v : Int32) (M : Option α) : Option α := if v = 0 ∨ v = 1 then M else none
theorem mzr_some {α : Type} {v : Int32} {M : Option α} {r : α} (h : mzr v M = some r) : narrow .boolean (.int v) = .int v ∧ M = some r := by
  unfold mzr at h
  split at h
  · rename_i hc
    refine ⟨?_, h⟩
    rcases hc with rfl | rfl <;> rfl
  · cases h
def FU : Nat := 100000
end JROWS
end
