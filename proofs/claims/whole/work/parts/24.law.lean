set_option maxRecDepth 100000 in
theorem tw_162 : Cond.methodLink "PlainWarehouseLaw" (106 : Nat) ({ cls := "PlainWarehouse", name := "count", desc := "(I)I" } : MethodName) ∈ WS := ws_in 162 rfl rfl
set_option maxRecDepth 100000 in
theorem tw_163 : Cond.instanceMethod ({ cls := "PlainWarehouse", name := "count", desc := "(I)I" } : MethodName) ∈ WS := ws_in 163 rfl rfl
set_option maxRecDepth 100000 in
theorem tw_164 : Cond.selects "PlainWarehouse" ({ cls := "PlainWarehouse", name := "count", desc := "(I)I" } : MethodName) ({ cls := "PlainWarehouse", name := "count", desc := "(I)I" } : MethodName) ∈ WS := ws_in 164 rfl rfl
set_option maxRecDepth 100000 in
theorem tw_243 : Cond.methodLink "PlainWarehouseLaw" (60 : Nat) ({ cls := "PlainWarehouseLaw", name := "event", desc := "(LPlainWarehouse;IIII[J)I" } : MethodName) ∈ WS := ws_in 243 rfl rfl
set_option maxRecDepth 100000 in
theorem tw_244 : Cond.static ({ cls := "PlainWarehouseLaw", name := "event", desc := "(LPlainWarehouse;IIII[J)I" } : MethodName) ∈ WS := ws_in 244 rfl rfl
set_option maxRecDepth 100000 in
theorem tw_362 : Cond.methodLink "PlainWarehouseLaw" (70 : Nat) ({ cls := "PlainWarehouseLaw", name := "stock", desc := "(LPlainWarehouse;II[J)I" } : MethodName) ∈ WS := ws_in 362 rfl rfl
set_option maxRecDepth 100000 in
theorem tw_363 : Cond.static ({ cls := "PlainWarehouseLaw", name := "stock", desc := "(LPlainWarehouse;II[J)I" } : MethodName) ∈ WS := ws_in 363 rfl rfl
set_option maxRecDepth 100000 in
theorem tw_371 : Cond.methodLink "PlainWarehouseLaw" (74 : Nat) ({ cls := "PlainWarehouseLaw", name := "where", desc := "(LPlainWarehouse;II[J)I" } : MethodName) ∈ WS := ws_in 371 rfl rfl
set_option maxRecDepth 100000 in
theorem tw_372 : Cond.static ({ cls := "PlainWarehouseLaw", name := "where", desc := "(LPlainWarehouse;II[J)I" } : MethodName) ∈ WS := ws_in 372 rfl rfl
set_option maxRecDepth 100000 in
theorem tw_400 : Cond.methodLink "PlainWarehouseLaw" (77 : Nat) ({ cls := "PlainWarehouseLaw", name := "order", desc := "(LPlainWarehouse;II[J)I" } : MethodName) ∈ WS := ws_in 400 rfl rfl
set_option maxRecDepth 100000 in
theorem tw_401 : Cond.static ({ cls := "PlainWarehouseLaw", name := "order", desc := "(LPlainWarehouse;II[J)I" } : MethodName) ∈ WS := ws_in 401 rfl rfl
set_option maxRecDepth 100000 in
theorem tw_415 : Cond.methodLink "PlainWarehouseLaw" (80 : Nat) ({ cls := "PlainWarehouseLaw", name := "promise", desc := "(LPlainWarehouse;I[J)I" } : MethodName) ∈ WS := ws_in 415 rfl rfl
set_option maxRecDepth 100000 in
theorem tw_416 : Cond.static ({ cls := "PlainWarehouseLaw", name := "promise", desc := "(LPlainWarehouse;I[J)I" } : MethodName) ∈ WS := ws_in 416 rfl rfl
set_option maxRecDepth 100000 in
theorem tw_459 : Cond.methodLink "PlainWarehouseLaw" (84 : Nat) ({ cls := "PlainWarehouseLaw", name := "way", desc := "(LPlainWarehouse;II[J)I" } : MethodName) ∈ WS := ws_in 459 rfl rfl
set_option maxRecDepth 100000 in
theorem tw_460 : Cond.static ({ cls := "PlainWarehouseLaw", name := "way", desc := "(LPlainWarehouse;II[J)I" } : MethodName) ∈ WS := ws_in 460 rfl rfl
set_option maxRecDepth 100000 in
theorem tw_491 : Cond.methodLink "PlainWarehouseLaw" (87 : Nat) ({ cls := "PlainWarehouseLaw", name := "walk", desc := "(LPlainWarehouse;II[J)I" } : MethodName) ∈ WS := ws_in 491 rfl rfl
set_option maxRecDepth 100000 in
theorem tw_492 : Cond.static ({ cls := "PlainWarehouseLaw", name := "walk", desc := "(LPlainWarehouse;II[J)I" } : MethodName) ∈ WS := ws_in 492 rfl rfl
set_option maxRecDepth 100000 in
theorem tw_510 : Cond.methodLink "PlainWarehouseLaw" (90 : Nat) ({ cls := "PlainWarehouseLaw", name := "money", desc := "(LPlainWarehouse;II[J)I" } : MethodName) ∈ WS := ws_in 510 rfl rfl
set_option maxRecDepth 100000 in
theorem tw_511 : Cond.static ({ cls := "PlainWarehouseLaw", name := "money", desc := "(LPlainWarehouse;II[J)I" } : MethodName) ∈ WS := ws_in 511 rfl rfl
set_option maxRecDepth 100000 in
theorem tw_518 : Cond.methodLink "PlainWarehouseLaw" (93 : Nat) ({ cls := "PlainWarehouseLaw", name := "needs", desc := "(LPlainWarehouse;I[J)I" } : MethodName) ∈ WS := ws_in 518 rfl rfl
set_option maxRecDepth 100000 in
theorem tw_519 : Cond.static ({ cls := "PlainWarehouseLaw", name := "needs", desc := "(LPlainWarehouse;I[J)I" } : MethodName) ∈ WS := ws_in 519 rfl rfl
set_option maxRecDepth 100000 in
theorem tw_530 : Cond.methodLink "PlainWarehouseLaw" (96 : Nat) ({ cls := "PlainWarehouseLaw", name := "explained", desc := "(LPlainWarehouse;I[J)I" } : MethodName) ∈ WS := ws_in 530 rfl rfl
set_option maxRecDepth 100000 in
theorem tw_531 : Cond.static ({ cls := "PlainWarehouseLaw", name := "explained", desc := "(LPlainWarehouse;I[J)I" } : MethodName) ∈ WS := ws_in 531 rfl rfl
set_option maxRecDepth 100000 in
theorem tw_537 : Cond.methodLink "PlainWarehouseLaw" (99 : Nat) ({ cls := "PlainWarehouseLaw", name := "told", desc := "(LPlainWarehouse;II[J)I" } : MethodName) ∈ WS := ws_in 537 rfl rfl
set_option maxRecDepth 100000 in
theorem tw_538 : Cond.static ({ cls := "PlainWarehouseLaw", name := "told", desc := "(LPlainWarehouse;II[J)I" } : MethodName) ∈ WS := ws_in 538 rfl rfl
set_option maxRecDepth 100000 in
theorem tw_545 : Cond.methodLink "PlainWarehouseLaw" (102 : Nat) ({ cls := "PlainWarehouseLaw", name := "back", desc := "(LPlainWarehouse;)I" } : MethodName) ∈ WS := ws_in 545 rfl rfl
set_option maxRecDepth 100000 in
theorem tw_546 : Cond.static ({ cls := "PlainWarehouseLaw", name := "back", desc := "(LPlainWarehouse;)I" } : MethodName) ∈ WS := ws_in 546 rfl rfl
set_option maxRecDepth 100000 in
theorem tw_630 : Cond.methodLink "PlainWarehouseLaw" (66 : Nat) ({ cls := "PlainWarehouseModel", name := "thrown", desc := "()I" } : MethodName) ∈ WS := ws_in 630 rfl rfl
set_option maxRecDepth 100000 in
theorem tw_631 : Cond.instanceMethod ({ cls := "PlainWarehouseModel", name := "thrown", desc := "()I" } : MethodName) ∈ WS := ws_in 631 rfl rfl
set_option maxRecDepth 100000 in
theorem tw_632 : Cond.selects "PlainWarehouseModel" ({ cls := "PlainWarehouseModel", name := "thrown", desc := "()I" } : MethodName) ({ cls := "PlainWarehouseModel", name := "thrown", desc := "()I" } : MethodName) ∈ WS := ws_in 632 rfl rfl
set_option maxRecDepth 100000 in
theorem tw_634 : Cond.methodLink "PlainWarehouseLaw" (65 : Nat) ({ cls := "PlainWarehouseModel", name := "event", desc := "(IIII)I" } : MethodName) ∈ WS := ws_in 634 rfl rfl
set_option maxRecDepth 100000 in
theorem tw_635 : Cond.instanceMethod ({ cls := "PlainWarehouseModel", name := "event", desc := "(IIII)I" } : MethodName) ∈ WS := ws_in 635 rfl rfl
set_option maxRecDepth 100000 in
theorem tw_636 : Cond.selects "PlainWarehouseModel" ({ cls := "PlainWarehouseModel", name := "event", desc := "(IIII)I" } : MethodName) ({ cls := "PlainWarehouseModel", name := "event", desc := "(IIII)I" } : MethodName) ∈ WS := ws_in 636 rfl rfl
set_option maxRecDepth 100000 in
theorem tw_674 : Cond.methodLink "PlainWarehouseLaw" (105 : Nat) ({ cls := "PlainWarehouseModel", name := "back", desc := "()V" } : MethodName) ∈ WS := ws_in 674 rfl rfl
set_option maxRecDepth 100000 in
theorem tw_675 : Cond.instanceMethod ({ cls := "PlainWarehouseModel", name := "back", desc := "()V" } : MethodName) ∈ WS := ws_in 675 rfl rfl
set_option maxRecDepth 100000 in
theorem tw_676 : Cond.selects "PlainWarehouseModel" ({ cls := "PlainWarehouseModel", name := "back", desc := "()V" } : MethodName) ({ cls := "PlainWarehouseModel", name := "back", desc := "()V" } : MethodName) ∈ WS := ws_in 676 rfl rfl
set_option maxRecDepth 100000 in
theorem tw_678 : Cond.methodLink "PlainWarehouseLaw" (73 : Nat) ({ cls := "PlainWarehouseModel", name := "stock", desc := "(II)I" } : MethodName) ∈ WS := ws_in 678 rfl rfl
set_option maxRecDepth 100000 in
theorem tw_679 : Cond.instanceMethod ({ cls := "PlainWarehouseModel", name := "stock", desc := "(II)I" } : MethodName) ∈ WS := ws_in 679 rfl rfl
set_option maxRecDepth 100000 in
theorem tw_680 : Cond.selects "PlainWarehouseModel" ({ cls := "PlainWarehouseModel", name := "stock", desc := "(II)I" } : MethodName) ({ cls := "PlainWarehouseModel", name := "stock", desc := "(II)I" } : MethodName) ∈ WS := ws_in 680 rfl rfl
set_option maxRecDepth 100000 in
theorem tw_682 : Cond.methodLink "PlainWarehouseLaw" (76 : Nat) ({ cls := "PlainWarehouseModel", name := "where", desc := "(II)I" } : MethodName) ∈ WS := ws_in 682 rfl rfl
set_option maxRecDepth 100000 in
theorem tw_683 : Cond.instanceMethod ({ cls := "PlainWarehouseModel", name := "where", desc := "(II)I" } : MethodName) ∈ WS := ws_in 683 rfl rfl
set_option maxRecDepth 100000 in
theorem tw_684 : Cond.selects "PlainWarehouseModel" ({ cls := "PlainWarehouseModel", name := "where", desc := "(II)I" } : MethodName) ({ cls := "PlainWarehouseModel", name := "where", desc := "(II)I" } : MethodName) ∈ WS := ws_in 684 rfl rfl
set_option maxRecDepth 100000 in
theorem tw_686 : Cond.methodLink "PlainWarehouseLaw" (92 : Nat) ({ cls := "PlainWarehouseModel", name := "money", desc := "(II)I" } : MethodName) ∈ WS := ws_in 686 rfl rfl
set_option maxRecDepth 100000 in
theorem tw_687 : Cond.instanceMethod ({ cls := "PlainWarehouseModel", name := "money", desc := "(II)I" } : MethodName) ∈ WS := ws_in 687 rfl rfl
set_option maxRecDepth 100000 in
theorem tw_688 : Cond.selects "PlainWarehouseModel" ({ cls := "PlainWarehouseModel", name := "money", desc := "(II)I" } : MethodName) ({ cls := "PlainWarehouseModel", name := "money", desc := "(II)I" } : MethodName) ∈ WS := ws_in 688 rfl rfl
set_option maxRecDepth 100000 in
theorem tw_690 : Cond.methodLink "PlainWarehouseLaw" (79 : Nat) ({ cls := "PlainWarehouseModel", name := "order", desc := "(II)I" } : MethodName) ∈ WS := ws_in 690 rfl rfl
set_option maxRecDepth 100000 in
theorem tw_691 : Cond.instanceMethod ({ cls := "PlainWarehouseModel", name := "order", desc := "(II)I" } : MethodName) ∈ WS := ws_in 691 rfl rfl
set_option maxRecDepth 100000 in
theorem tw_692 : Cond.selects "PlainWarehouseModel" ({ cls := "PlainWarehouseModel", name := "order", desc := "(II)I" } : MethodName) ({ cls := "PlainWarehouseModel", name := "order", desc := "(II)I" } : MethodName) ∈ WS := ws_in 692 rfl rfl
set_option maxRecDepth 100000 in
theorem tw_702 : Cond.methodLink "PlainWarehouseLaw" (83 : Nat) ({ cls := "PlainWarehouseModel", name := "promise", desc := "(I)I" } : MethodName) ∈ WS := ws_in 702 rfl rfl
set_option maxRecDepth 100000 in
theorem tw_703 : Cond.instanceMethod ({ cls := "PlainWarehouseModel", name := "promise", desc := "(I)I" } : MethodName) ∈ WS := ws_in 703 rfl rfl
set_option maxRecDepth 100000 in
theorem tw_704 : Cond.selects "PlainWarehouseModel" ({ cls := "PlainWarehouseModel", name := "promise", desc := "(I)I" } : MethodName) ({ cls := "PlainWarehouseModel", name := "promise", desc := "(I)I" } : MethodName) ∈ WS := ws_in 704 rfl rfl
set_option maxRecDepth 100000 in
theorem tw_710 : Cond.methodLink "PlainWarehouseLaw" (86 : Nat) ({ cls := "PlainWarehouseModel", name := "way", desc := "(II)I" } : MethodName) ∈ WS := ws_in 710 rfl rfl
set_option maxRecDepth 100000 in
theorem tw_711 : Cond.instanceMethod ({ cls := "PlainWarehouseModel", name := "way", desc := "(II)I" } : MethodName) ∈ WS := ws_in 711 rfl rfl
set_option maxRecDepth 100000 in
theorem tw_712 : Cond.selects "PlainWarehouseModel" ({ cls := "PlainWarehouseModel", name := "way", desc := "(II)I" } : MethodName) ({ cls := "PlainWarehouseModel", name := "way", desc := "(II)I" } : MethodName) ∈ WS := ws_in 712 rfl rfl
set_option maxRecDepth 100000 in
theorem tw_719 : Cond.methodLink "PlainWarehouseLaw" (89 : Nat) ({ cls := "PlainWarehouseModel", name := "walk", desc := "(II)I" } : MethodName) ∈ WS := ws_in 719 rfl rfl
set_option maxRecDepth 100000 in
theorem tw_720 : Cond.instanceMethod ({ cls := "PlainWarehouseModel", name := "walk", desc := "(II)I" } : MethodName) ∈ WS := ws_in 720 rfl rfl
set_option maxRecDepth 100000 in
theorem tw_721 : Cond.selects "PlainWarehouseModel" ({ cls := "PlainWarehouseModel", name := "walk", desc := "(II)I" } : MethodName) ({ cls := "PlainWarehouseModel", name := "walk", desc := "(II)I" } : MethodName) ∈ WS := ws_in 721 rfl rfl
set_option maxRecDepth 100000 in
theorem tw_727 : Cond.methodLink "PlainWarehouseLaw" (95 : Nat) ({ cls := "PlainWarehouseModel", name := "needs", desc := "(I)I" } : MethodName) ∈ WS := ws_in 727 rfl rfl
set_option maxRecDepth 100000 in
theorem tw_728 : Cond.instanceMethod ({ cls := "PlainWarehouseModel", name := "needs", desc := "(I)I" } : MethodName) ∈ WS := ws_in 728 rfl rfl
set_option maxRecDepth 100000 in
theorem tw_729 : Cond.selects "PlainWarehouseModel" ({ cls := "PlainWarehouseModel", name := "needs", desc := "(I)I" } : MethodName) ({ cls := "PlainWarehouseModel", name := "needs", desc := "(I)I" } : MethodName) ∈ WS := ws_in 729 rfl rfl
set_option maxRecDepth 100000 in
theorem tw_739 : Cond.methodLink "PlainWarehouseLaw" (98 : Nat) ({ cls := "PlainWarehouseModel", name := "explained", desc := "(I)I" } : MethodName) ∈ WS := ws_in 739 rfl rfl
set_option maxRecDepth 100000 in
theorem tw_740 : Cond.instanceMethod ({ cls := "PlainWarehouseModel", name := "explained", desc := "(I)I" } : MethodName) ∈ WS := ws_in 740 rfl rfl
set_option maxRecDepth 100000 in
theorem tw_741 : Cond.selects "PlainWarehouseModel" ({ cls := "PlainWarehouseModel", name := "explained", desc := "(I)I" } : MethodName) ({ cls := "PlainWarehouseModel", name := "explained", desc := "(I)I" } : MethodName) ∈ WS := ws_in 741 rfl rfl
set_option maxRecDepth 100000 in
theorem tw_743 : Cond.methodLink "PlainWarehouseLaw" (101 : Nat) ({ cls := "PlainWarehouseModel", name := "told", desc := "(II)I" } : MethodName) ∈ WS := ws_in 743 rfl rfl
set_option maxRecDepth 100000 in
theorem tw_744 : Cond.instanceMethod ({ cls := "PlainWarehouseModel", name := "told", desc := "(II)I" } : MethodName) ∈ WS := ws_in 744 rfl rfl
set_option maxRecDepth 100000 in
theorem tw_745 : Cond.selects "PlainWarehouseModel" ({ cls := "PlainWarehouseModel", name := "told", desc := "(II)I" } : MethodName) ({ cls := "PlainWarehouseModel", name := "told", desc := "(II)I" } : MethodName) ∈ WS := ws_in 745 rfl rfl
set_option maxRecDepth 100000 in
theorem tw_747 : Cond.methodLink "PlainWarehouseLaw" (109 : Nat) ({ cls := "PlainWarehouseModel", name := "count", desc := "(I)I" } : MethodName) ∈ WS := ws_in 747 rfl rfl
set_option maxRecDepth 100000 in
theorem tw_748 : Cond.instanceMethod ({ cls := "PlainWarehouseModel", name := "count", desc := "(I)I" } : MethodName) ∈ WS := ws_in 748 rfl rfl
set_option maxRecDepth 100000 in
theorem tw_749 : Cond.selects "PlainWarehouseModel" ({ cls := "PlainWarehouseModel", name := "count", desc := "(I)I" } : MethodName) ({ cls := "PlainWarehouseModel", name := "count", desc := "(I)I" } : MethodName) ∈ WS := ws_in 749 rfl rfl
theorem lf0 {kc ks : Nat} (h1 : kc + 1 ≤ 601024) (h2 : ks + 6 ≤ 7293034) : kc ≤ room_1.cells ∧ ks ≤ room_1.slots := ⟨by show kc ≤ 601024; omega, by show ks ≤ 7293034; omega⟩
theorem lf1 {kc ks : Nat} (h1 : kc + 1 ≤ 601024) (h2 : ks + 6 ≤ 7293034) : kc + 1 ≤ room_1.cells ∧ ks + 6 ≤ room_1.slots := ⟨h1, h2⟩
section LAWROWS
variable {x : JX} {cc : ByteArray} {nL kc ks : Nat} {own : String} {pc pc' : Nat} {lv : List (Nat × Value)} {st : List Value} {w : va_W}
theorem j_sld (C : jC x cc nL own) {b L : Nat} {xs : Nat → Int32} (hX : va_X b L xs (js x) (js x).heap) (hbl : b < (js x).heap.size) (hbA : ¬ jA x b) {α : Type} {res : α} {B : Int32 → Option α} {i : Int32} (hd : decode cc pc = .ok (.iaload, 1)) (hp : pc + 1 = pc') (h : mrd L xs i B = some res) (K : ∀ v : Int32, B v = some res → jW x nL kc ks pc' lv (.int v :: st) w) : jW x nL kc ks pc lv (.int i :: .ref b :: st) w :=
  fun H locs ls hP hD hS hl => va_sld C.1.1 C.1.2.1 hX hbl hbA hS (mrd_some h).1 hd (by subst hp; exact K _ (mrd_some h).2 H locs ls hP hD hS hl)
theorem j_slen (C : jC x cc nL own) {b L : Nat} {xs : Nat → Int32} (hX : va_X b L xs (js x) (js x).heap) (hbl : b < (js x).heap.size) (hbA : ¬ jA x b) (hd : decode cc pc = .ok (.arraylength, 1)) (hp : pc + 1 = pc') (K : jW x nL kc ks pc' lv (.int (nI L) :: st) w) : jW x nL kc ks pc lv (.ref b :: st) w :=
  fun H locs ls hP hD hS hl => va_slen C.1.1 C.1.2.1 hX hbl hbA hS hd (by subst hp; exact K H locs ls hP hD hS hl)
theorem j_lcmp (C : jC x cc nL own) {a b : Int64} (hd : decode cc pc = .ok (.lcmp, 1)) (hp : pc + 1 = pc') (K : jW x nL kc ks pc' lv (.int (lg_cmp a b) :: st) w) : jW x nL kc ks pc lv (.long b :: .long a :: st) w :=
  fun H locs ls hP hD hS hl => W.lcmp C.1.1 C.1.2.1 hd (by subst hp; exact K H locs ls hP hD hS hl)
end LAWROWS

abbrev SL : Type := Int32 × SP × SM × (Nat → Int64)
def b_law (L : Nat) (xs : Nat → Int32) (v4 : Int32) (σ : SP) (μ : SM) (f : Nat → Int64) : Option (SL ⊕ Bool) :=
  (if ((nI L) - (5 : Int32)) < v4 then some (.inr true) else (mrd L xs v4 fun r1 => (if (r1 &&& (15 : Int32)) = 0 then (mrd L xs (v4 + (1 : Int32)) fun r2 => (mrd L xs (v4 + (2 : Int32)) fun r3 => (mrd L xs (v4 + (3 : Int32)) fun r4 => (mrd L xs (v4 + (4 : Int32)) fun r5 => (mb3 (m_L_event r2 r3 r4 r5 σ f) fun k7 σ8 f9 => (mrd L xs (v4 + (1 : Int32)) fun r10 => (mrd L xs (v4 + (2 : Int32)) fun r11 => (mrd L xs (v4 + (3 : Int32)) fun r12 => (mrd L xs (v4 + (4 : Int32)) fun r13 => (mb2 (m_M_event r10 r11 r12 r13 μ) fun r15 μ16 => (mb1 (m_M_thrown μ16) fun r18 => (if r18 = k7 then (if k7 = 0 then (mrd 1 f9 (0 : Int32) fun l19 => (if (lg_cmp l19 (Int32.toInt64 r15)) = 0 then some (.inl ((v4 + 5), σ8, μ16, f9)) else some (.inr false))) else some (.inl ((v4 + 5), σ8, μ16, f9))) else some (.inr false))))))))))))) else (if (r1 &&& (15 : Int32)) = 1 then (mrd L xs (v4 + (1 : Int32)) fun r20 => (mrd L xs (v4 + (2 : Int32)) fun r21 => (mb3 (m_L_stock r20 r21 σ f) fun k23 σ24 f25 => (mrd L xs (v4 + (1 : Int32)) fun r26 => (mrd L xs (v4 + (2 : Int32)) fun r27 => (mb2 (m_M_stock r26 r27 μ) fun r29 μ30 => (mb1 (m_M_thrown μ30) fun r32 => (if r32 = k23 then (if k23 = 0 then (mrd 1 f25 (0 : Int32) fun l33 => (if (lg_cmp l33 (Int32.toInt64 r29)) = 0 then some (.inl ((v4 + 5), σ24, μ30, f25)) else some (.inr false))) else some (.inl ((v4 + 5), σ24, μ30, f25))) else some (.inr false))))))))) else (if (r1 &&& (15 : Int32)) = 2 then (mrd L xs (v4 + (1 : Int32)) fun r34 => (mrd L xs (v4 + (2 : Int32)) fun r35 => (mb3 (m_L_where r34 r35 σ f) fun k37 σ38 f39 => (mrd L xs (v4 + (1 : Int32)) fun r40 => (mrd L xs (v4 + (2 : Int32)) fun r41 => (mb2 (m_M_where r40 r41 μ) fun r43 μ44 => (mb1 (m_M_thrown μ44) fun r46 => (if r46 = k37 then (if k37 = 0 then (mrd 1 f39 (0 : Int32) fun l47 => (if (lg_cmp l47 (Int32.toInt64 r43)) = 0 then some (.inl ((v4 + 5), σ38, μ44, f39)) else some (.inr false))) else some (.inl ((v4 + 5), σ38, μ44, f39))) else some (.inr false))))))))) else (if (r1 &&& (15 : Int32)) = 3 then (mrd L xs (v4 + (1 : Int32)) fun r48 => (mrd L xs (v4 + (2 : Int32)) fun r49 => (mb3 (m_L_order r48 r49 σ f) fun k51 σ52 f53 => (mrd L xs (v4 + (1 : Int32)) fun r54 => (mrd L xs (v4 + (2 : Int32)) fun r55 => (mb2 (m_M_order r54 r55 μ) fun r57 μ58 => (mb1 (m_M_thrown μ58) fun r60 => (if r60 = k51 then (if k51 = 0 then (mrd 1 f53 (0 : Int32) fun l61 => (if (lg_cmp l61 (Int32.toInt64 r57)) = 0 then some (.inl ((v4 + 5), σ52, μ58, f53)) else some (.inr false))) else some (.inl ((v4 + 5), σ52, μ58, f53))) else some (.inr false))))))))) else (if (r1 &&& (15 : Int32)) = 4 then (mrd L xs (v4 + (1 : Int32)) fun r62 => (mb3 (m_L_promise r62 σ f) fun k64 σ65 f66 => (mrd L xs (v4 + (1 : Int32)) fun r67 => (mb2 (m_M_promise r67 μ) fun r69 μ70 => (mb1 (m_M_thrown μ70) fun r72 => (if r72 = k64 then (if k64 = 0 then (mrd 1 f66 (0 : Int32) fun l73 => (if (lg_cmp l73 (Int32.toInt64 r69)) = 0 then some (.inl ((v4 + 5), σ65, μ70, f66)) else some (.inr false))) else some (.inl ((v4 + 5), σ65, μ70, f66))) else some (.inr false))))))) else (if (r1 &&& (15 : Int32)) = 5 then (mrd L xs (v4 + (1 : Int32)) fun r74 => (mrd L xs (v4 + (2 : Int32)) fun r75 => (mb3 (m_L_way r74 r75 σ f) fun k77 σ78 f79 => (mrd L xs (v4 + (1 : Int32)) fun r80 => (mrd L xs (v4 + (2 : Int32)) fun r81 => (mb2 (m_M_way r80 r81 μ) fun r83 μ84 => (mb1 (m_M_thrown μ84) fun r86 => (if r86 = k77 then (if k77 = 0 then (mrd 1 f79 (0 : Int32) fun l87 => (if (lg_cmp l87 (Int32.toInt64 r83)) = 0 then some (.inl ((v4 + 5), σ78, μ84, f79)) else some (.inr false))) else some (.inl ((v4 + 5), σ78, μ84, f79))) else some (.inr false))))))))) else (if (r1 &&& (15 : Int32)) = 6 then (mrd L xs (v4 + (1 : Int32)) fun r88 => (mrd L xs (v4 + (2 : Int32)) fun r89 => (mb3 (m_L_walk r88 r89 σ f) fun k91 σ92 f93 => (mrd L xs (v4 + (1 : Int32)) fun r94 => (mrd L xs (v4 + (2 : Int32)) fun r95 => (mb2 (m_M_walk r94 r95 μ) fun r97 μ98 => (mb1 (m_M_thrown μ98) fun r100 => (if r100 = k91 then (if k91 = 0 then (mrd 1 f93 (0 : Int32) fun l101 => (if (lg_cmp l101 (Int32.toInt64 r97)) = 0 then some (.inl ((v4 + 5), σ92, μ98, f93)) else some (.inr false))) else some (.inl ((v4 + 5), σ92, μ98, f93))) else some (.inr false))))))))) else (if (r1 &&& (15 : Int32)) = 7 then (mrd L xs (v4 + (1 : Int32)) fun r102 => (mrd L xs (v4 + (2 : Int32)) fun r103 => (mb3 (m_L_money r102 r103 σ f) fun k105 σ106 f107 => (mrd L xs (v4 + (1 : Int32)) fun r108 => (mrd L xs (v4 + (2 : Int32)) fun r109 => (mb2 (m_M_money r108 r109 μ) fun r111 μ112 => (mb1 (m_M_thrown μ112) fun r114 => (if r114 = k105 then (if k105 = 0 then (mrd 1 f107 (0 : Int32) fun l115 => (if (lg_cmp l115 (Int32.toInt64 r111)) = 0 then some (.inl ((v4 + 5), σ106, μ112, f107)) else some (.inr false))) else some (.inl ((v4 + 5), σ106, μ112, f107))) else some (.inr false))))))))) else (if (r1 &&& (15 : Int32)) = 8 then (mrd L xs (v4 + (1 : Int32)) fun r116 => (mb3 (m_L_needs r116 σ f) fun k118 σ119 f120 => (mrd L xs (v4 + (1 : Int32)) fun r121 => (mb2 (m_M_needs r121 μ) fun r123 μ124 => (mb1 (m_M_thrown μ124) fun r126 => (if r126 = k118 then (if k118 = 0 then (mrd 1 f120 (0 : Int32) fun l127 => (if (lg_cmp l127 (Int32.toInt64 r123)) = 0 then some (.inl ((v4 + 5), σ119, μ124, f120)) else some (.inr false))) else some (.inl ((v4 + 5), σ119, μ124, f120))) else some (.inr false))))))) else (if (r1 &&& (15 : Int32)) = 9 then (mrd L xs (v4 + (1 : Int32)) fun r128 => (mb3 (m_L_explained r128 σ f) fun k130 σ131 f132 => (mrd L xs (v4 + (1 : Int32)) fun r133 => (mb2 (m_M_explained r133 μ) fun r135 μ136 => (mb1 (m_M_thrown μ136) fun r138 => (if r138 = k130 then (if k130 = 0 then (mrd 1 f132 (0 : Int32) fun l139 => (if (lg_cmp l139 (Int32.toInt64 r135)) = 0 then some (.inl ((v4 + 5), σ131, μ136, f132)) else some (.inr false))) else some (.inl ((v4 + 5), σ131, μ136, f132))) else some (.inr false))))))) else (if (r1 &&& (15 : Int32)) = 10 then (mrd L xs (v4 + (1 : Int32)) fun r140 => (mrd L xs (v4 + (2 : Int32)) fun r141 => (mb3 (m_L_told r140 r141 σ f) fun k143 σ144 f145 => (mrd L xs (v4 + (1 : Int32)) fun r146 => (mrd L xs (v4 + (2 : Int32)) fun r147 => (mb2 (m_M_told r146 r147 μ) fun r149 μ150 => (mb1 (m_M_thrown μ150) fun r152 => (if r152 = k143 then (if k143 = 0 then (mrd 1 f145 (0 : Int32) fun l153 => (if (lg_cmp l153 (Int32.toInt64 r149)) = 0 then some (.inl ((v4 + 5), σ144, μ150, f145)) else some (.inr false))) else some (.inl ((v4 + 5), σ144, μ150, f145))) else some (.inr false))))))))) else (if (r1 &&& (15 : Int32)) = 11 then (mb2 (m_L_back σ) fun k155 σ156 => (mb1 (m_M_back μ) fun μ158 => (mb1 (m_M_thrown μ158) fun r160 => (if r160 = k155 then some (.inl ((v4 + 5), σ156, μ158, f)) else some (.inr false))))) else (if (r1 &&& (15 : Int32)) = 12 then (mrd L xs (v4 + (1 : Int32)) fun r161 => (mb2 (m_P_count r161 σ) fun r163 σ164 => (mrd L xs (v4 + (1 : Int32)) fun r165 => (mb2 (m_M_count r165 μ) fun r167 μ168 => (if r163 = r167 then some (.inl ((v4 + 5), σ164, μ168, f)) else some (.inr false)))))) else some (.inl ((v4 + 5), σ, μ, f)))))))))))))))))
set_option maxHeartbeats 8000000 in
set_option maxRecDepth 100000 in
theorem wb_law {x : JX} {ad bd : Nat → Nat} {cA cL : ClassId} {qo b L : Nat} {xs : Nat → Int32} (C : jC x code 7 "PlainWarehouseLaw") (hT : (jT x)[0]? = some (cA, .int)) (hTL : (jT x)[1]? = some (cL, .long)) (hR : jR x = room_1) (Y : jYL x) (hX : va_X b L xs (js x) (js x).heap) (hbl : b < (js x).heap.size) (hbA : ¬ jA x b) {kc ks : Nat} (hkc : kc + 1 ≤ 601024) (hks : ks + 6 ≤ 7293034) (v4 : Int32) (σ : SP) (μ : SM) (f : Nat → Int64) {o : SL ⊕ Bool} (h : b_law L xs v4 σ μ f = some o) (hno : ¬ o = .inr false) (kc1 : ∀ (u4 : Int32) (τ : SP) (ν : SM) (g : Nat → Int64), o = .inl (u4, τ, ν, g) → jW x 7 (kc + 1) (ks + 6) 23 [(0, .ref b), (1, .ref (ad 0)), (2, .ref (bd 0)), (3, .ref qo), (4, .int u4)] [] ((wP ad cA τ) ++ ((wM bd cA ν) ++ [(qo, .inl (cL, 1, .inr (.inl g)))]))) (ke : o = .inr true → jW x 7 kc ks 895 [(0, .ref b), (1, .ref (ad 0)), (2, .ref (bd 0)), (3, .ref qo), (4, .int v4)] [] ((wP ad cA σ) ++ ((wM bd cA μ) ++ [(qo, .inl (cL, 1, .inr (.inl f)))]))) : jW x 7 kc ks 23 [(0, .ref b), (1, .ref (ad 0)), (2, .ref (bd 0)), (3, .ref qo), (4, .int v4)] [] ((wP ad cA σ) ++ ((wM bd cA μ) ++ [(qo, .inl (cL, 1, .inr (.inl f)))])) := by
  unfold b_law at h
  refine j_iload C 4 d_L_law_23 rfl rfl ?_
  refine j_aload_n C 0 d_L_law_25 rfl rfl rfl ?_
  refine j_slen C hX hbl hbA d_L_law_26 rfl ?_
  refine j_iconst (v := 5) C d_L_law_27 rfl (by decide) ?_
  refine j_isub C d_L_law_28 rfl ?_
  refine j_icmp_gt (tgt := 895) C d_L_law_29 (by decide) rfl h (fun h => ?_) (fun h => ?_)
  · cases h
    refine j_sub [0, 1, 2, 3, 4] rfl (ke rfl)
  · refine j_aload_n C 0 d_L_law_32 rfl rfl rfl ?_
    refine j_iload C 4 d_L_law_33 rfl rfl ?_
    refine j_sld C hX hbl hbA d_L_law_35 rfl h (fun r1 h => ?_)
    refine j_bipush (v := 15) C d_L_law_36 rfl (by decide) ?_
    refine j_iand C d_L_law_38 rfl ?_
    refine j_tsw (k := 0) (tgt := 104) C d_L_law_39 (by decide) (by decide) rfl (by decide) h (fun h => ?_) (fun n0 h => ?_)
    · refine j_aload_n C 1 d_L_law_104 rfl rfl rfl ?_
      refine j_aload_n C 0 d_L_law_105 rfl rfl rfl ?_
      refine j_iload C 4 d_L_law_106 rfl rfl ?_
      refine j_iconst (v := 1) C d_L_law_108 rfl (by decide) ?_
      refine j_iadd C d_L_law_109 rfl ?_
      refine j_sld C hX hbl hbA d_L_law_110 rfl h (fun r2 h => ?_)
      refine j_aload_n C 0 d_L_law_111 rfl rfl rfl ?_
      refine j_iload C 4 d_L_law_112 rfl rfl ?_
      refine j_iconst (v := 2) C d_L_law_114 rfl (by decide) ?_
      refine j_iadd C d_L_law_115 rfl ?_
      refine j_sld C hX hbl hbA d_L_law_116 rfl h (fun r3 h => ?_)
      refine j_aload_n C 0 d_L_law_117 rfl rfl rfl ?_
      refine j_iload C 4 d_L_law_118 rfl rfl ?_
      refine j_iconst (v := 3) C d_L_law_120 rfl (by decide) ?_
      refine j_iadd C d_L_law_121 rfl ?_
      refine j_sld C hX hbl hbA d_L_law_122 rfl h (fun r4 h => ?_)
      refine j_aload_n C 0 d_L_law_123 rfl rfl rfl ?_
      refine j_iload C 4 d_L_law_124 rfl rfl ?_
      refine j_iconst (v := 4) C d_L_law_126 rfl (by decide) ?_
      refine j_iadd C d_L_law_127 rfl ?_
      refine j_sld C hX hbl hbA d_L_law_128 rfl h (fun r5 h => ?_)
      refine j_aload_n C 3 d_L_law_129 rfl rfl rfl ?_
      obtain ⟨k7, σ8, f9, h6, h⟩ := mb3_some h
      refine jl_callS C Y hR (As := [.ref (ad 0), .int r2, .int r3, .int r4, .int r5, .ref qo]) (ct_L_event (jl x) (jD x) (jT x) hT hTL Y.1 r2 r3 r4 r5 σ f h6) kf_L_event (by decide) tw_243 tw_244 (rest := []) rfl rfl (Nat.le_of_ble_eq_true rfl) (lf1 hkc hks) d_L_law_130 rfl (st1 := [.int k7]) rfl ?_
      refine j_istore (lv' := [(5, .int k7), (0, .ref b), (1, .ref (ad 0)), (2, .ref (bd 0)), (3, .ref qo), (4, .int v4)]) C d_L_law_133 rfl (by decide) rfl ?_
      refine j_aload_n C 3 d_L_law_135 rfl rfl rfl ?_
      refine j_aload_n C 1 d_L_law_136 rfl rfl rfl ?_
      refine j_iload C 5 d_L_law_137 rfl rfl ?_
      refine j_iconst (v := 1) C d_L_law_139 rfl (by decide) ?_
      refine j_iadd C d_L_law_140 rfl ?_
      refine j_sld C hX hbl hbA d_L_law_141 rfl h (fun r10 h => ?_)
      refine j_aload_n C 1 d_L_law_142 rfl rfl rfl ?_
      refine j_iload C 5 d_L_law_143 rfl rfl ?_
      refine j_iconst (v := 2) C d_L_law_145 rfl (by decide) ?_
      refine j_iadd C d_L_law_146 rfl ?_
      refine j_sld C hX hbl hbA d_L_law_147 rfl h (fun r11 h => ?_)
      refine j_aload_n C 1 d_L_law_148 rfl rfl rfl ?_
      refine j_iload C 5 d_L_law_149 rfl rfl ?_
      refine j_iconst (v := 3) C d_L_law_151 rfl (by decide) ?_
      refine j_iadd C d_L_law_152 rfl ?_
      refine j_sld C hX hbl hbA d_L_law_153 rfl h (fun r12 h => ?_)
      refine j_aload_n C 1 d_L_law_154 rfl rfl rfl ?_
      refine j_iload C 5 d_L_law_155 rfl rfl ?_
      refine j_iconst (v := 4) C d_L_law_157 rfl (by decide) ?_
      refine j_iadd C d_L_law_158 rfl ?_
      refine j_sld C hX hbl hbA d_L_law_159 rfl h (fun r13 h => ?_)
      obtain ⟨r15, μ16, h14, h⟩ := mb2_some h
      refine j_callV C hR (As := [.int r10, .int r11, .int r12, .int r13]) (ct_M_event (jl x) (jD x) (jT x) hT r10 r11 r12 r13 μ h14) kf_M_event (by decide) tw_634 tw_635 tw_636 18 rfl rfl (rest := []) rfl rfl (Nat.le_of_ble_eq_true rfl) (lf1 hkc hks) ⟨rfl, rfl⟩ d_L_law_160 rfl (st1 := [.int r15]) rfl ?_
      refine j_istore (lv' := [(6, .int r15), (5, .int k7), (0, .ref b), (1, .ref (ad 0)), (2, .ref (bd 0)), (3, .ref qo), (4, .int v4)]) C d_L_law_163 rfl (by decide) rfl ?_
      refine j_aload_n C 4 d_L_law_165 rfl rfl rfl ?_
      obtain ⟨r18, h17, h⟩ := mb1_some h
      refine j_callV C hR (As := []) (ct_M_thrown (jl x) (jD x) (jT x) hT μ16 h17) kf_M_thrown (by decide) tw_630 tw_631 tw_632 18 rfl rfl (rest := []) rfl rfl (Nat.le_of_ble_eq_true rfl) (lf1 hkc hks) ⟨rfl, rfl⟩ d_L_law_166 rfl (st1 := [.int r18]) rfl ?_
      refine j_iload C 1 d_L_law_169 rfl rfl ?_
      refine j_icmp_eq (tgt := 176) C d_L_law_171 (by decide) rfl h (fun h => ?_) (fun h => ?_)
      · refine j_iload C 1 d_L_law_176 rfl rfl ?_
        refine j_if_ne (tgt := 193) C d_L_law_178 (by decide) rfl h (fun h => ?_) (fun h => ?_)
        · refine j_goto (tgt := 889) C d_L_law_193 (by decide) ?_
          refine j_iinc (v' := (v4 + 5)) (lv' := [(4, .int (v4 + 5)), (6, .int r15), (5, .int k7), (0, .ref b), (1, .ref (ad 0)), (2, .ref (bd 0)), (3, .ref qo)]) C 6 d_L_law_889 rfl rfl rfl (by decide) rfl ?_
          refine j_goto (tgt := 23) C d_L_law_892 (by decide) ?_
          cases h
          refine j_sub [3, 4, 5, 6, 0] rfl (j_wide (by first | exact Nat.le_refl _ | exact Nat.le_succ _) (by first | exact Nat.le_refl _ | exact Nat.le_add_right _ 6) (kc1 _ _ _ _ rfl))
        · refine j_aload_n C 5 d_L_law_181 rfl rfl rfl ?_
          refine j_iconst (v := 0) C d_L_law_182 rfl (by decide) ?_
          refine j_lald C 34 1 rfl hTL d_L_law_183 rfl h (fun l19 h => ?_)
          refine j_iload C 0 d_L_law_184 rfl rfl ?_
          refine j_i2l C d_L_law_186 rfl ?_
          refine j_lcmp C d_L_law_187 rfl ?_
          refine j_if_eq (tgt := 193) C d_L_law_188 (by decide) rfl h (fun h => ?_) (fun h => ?_)
          · refine j_goto (tgt := 889) C d_L_law_193 (by decide) ?_
            refine j_iinc (v' := (v4 + 5)) (lv' := [(4, .int (v4 + 5)), (6, .int r15), (5, .int k7), (0, .ref b), (1, .ref (ad 0)), (2, .ref (bd 0)), (3, .ref qo)]) C 6 d_L_law_889 rfl rfl rfl (by decide) rfl ?_
            refine j_goto (tgt := 23) C d_L_law_892 (by decide) ?_
            cases h
            refine j_sub [3, 4, 5, 6, 0] rfl (j_wide (by first | exact Nat.le_refl _ | exact Nat.le_succ _) (by first | exact Nat.le_refl _ | exact Nat.le_add_right _ 6) (kc1 _ _ _ _ rfl))
          · cases h
            exact absurd rfl hno
      · cases h
        exact absurd rfl hno
    refine j_tsw (k := 1) (tgt := 196) C d_L_law_39 (by decide) (by decide) rfl (by decide) h (fun h => ?_) (fun n1 h => ?_)
    · refine j_aload_n C 1 d_L_law_196 rfl rfl rfl ?_
      refine j_aload_n C 0 d_L_law_197 rfl rfl rfl ?_
      refine j_iload C 4 d_L_law_198 rfl rfl ?_
      refine j_iconst (v := 1) C d_L_law_200 rfl (by decide) ?_
      refine j_iadd C d_L_law_201 rfl ?_
      refine j_sld C hX hbl hbA d_L_law_202 rfl h (fun r20 h => ?_)
      refine j_aload_n C 0 d_L_law_203 rfl rfl rfl ?_
      refine j_iload C 4 d_L_law_204 rfl rfl ?_
      refine j_iconst (v := 2) C d_L_law_206 rfl (by decide) ?_
      refine j_iadd C d_L_law_207 rfl ?_
      refine j_sld C hX hbl hbA d_L_law_208 rfl h (fun r21 h => ?_)
      refine j_aload_n C 3 d_L_law_209 rfl rfl rfl ?_
      obtain ⟨k23, σ24, f25, h22, h⟩ := mb3_some h
      refine jl_callS C Y hR (As := [.ref (ad 0), .int r20, .int r21, .ref qo]) (ct_L_stock (jl x) (jD x) (jT x) hT hTL Y.1 r20 r21 σ f h22) kf_L_stock (by decide) tw_362 tw_363 (rest := []) rfl rfl (Nat.le_of_ble_eq_true rfl) (lf1 hkc hks) d_L_law_210 rfl (st1 := [.int k23]) rfl ?_
      refine j_istore (lv' := [(5, .int k23), (0, .ref b), (1, .ref (ad 0)), (2, .ref (bd 0)), (3, .ref qo), (4, .int v4)]) C d_L_law_213 rfl (by decide) rfl ?_
      refine j_aload_n C 3 d_L_law_215 rfl rfl rfl ?_
      refine j_aload_n C 1 d_L_law_216 rfl rfl rfl ?_
      refine j_iload C 5 d_L_law_217 rfl rfl ?_
      refine j_iconst (v := 1) C d_L_law_219 rfl (by decide) ?_
      refine j_iadd C d_L_law_220 rfl ?_
      refine j_sld C hX hbl hbA d_L_law_221 rfl h (fun r26 h => ?_)
      refine j_aload_n C 1 d_L_law_222 rfl rfl rfl ?_
      refine j_iload C 5 d_L_law_223 rfl rfl ?_
      refine j_iconst (v := 2) C d_L_law_225 rfl (by decide) ?_
      refine j_iadd C d_L_law_226 rfl ?_
      refine j_sld C hX hbl hbA d_L_law_227 rfl h (fun r27 h => ?_)
      obtain ⟨r29, μ30, h28, h⟩ := mb2_some h
      refine j_callV C hR (As := [.int r26, .int r27]) (ct_M_stock (jl x) (jD x) (jT x) hT r26 r27 μ h28) kf_M_stock (by decide) tw_678 tw_679 tw_680 18 rfl rfl (rest := []) rfl rfl (Nat.le_of_ble_eq_true rfl) (lf1 hkc hks) ⟨rfl, rfl⟩ d_L_law_228 rfl (st1 := [.int r29]) rfl ?_
      refine j_istore (lv' := [(6, .int r29), (5, .int k23), (0, .ref b), (1, .ref (ad 0)), (2, .ref (bd 0)), (3, .ref qo), (4, .int v4)]) C d_L_law_231 rfl (by decide) rfl ?_
      refine j_aload_n C 4 d_L_law_233 rfl rfl rfl ?_
      obtain ⟨r32, h31, h⟩ := mb1_some h
      refine j_callV C hR (As := []) (ct_M_thrown (jl x) (jD x) (jT x) hT μ30 h31) kf_M_thrown (by decide) tw_630 tw_631 tw_632 18 rfl rfl (rest := []) rfl rfl (Nat.le_of_ble_eq_true rfl) (lf1 hkc hks) ⟨rfl, rfl⟩ d_L_law_234 rfl (st1 := [.int r32]) rfl ?_
      refine j_iload C 1 d_L_law_237 rfl rfl ?_
      refine j_icmp_eq (tgt := 244) C d_L_law_239 (by decide) rfl h (fun h => ?_) (fun h => ?_)
      · refine j_iload C 1 d_L_law_244 rfl rfl ?_
        refine j_if_ne (tgt := 261) C d_L_law_246 (by decide) rfl h (fun h => ?_) (fun h => ?_)
        · refine j_goto (tgt := 889) C d_L_law_261 (by decide) ?_
          refine j_iinc (v' := (v4 + 5)) (lv' := [(4, .int (v4 + 5)), (6, .int r29), (5, .int k23), (0, .ref b), (1, .ref (ad 0)), (2, .ref (bd 0)), (3, .ref qo)]) C 6 d_L_law_889 rfl rfl rfl (by decide) rfl ?_
          refine j_goto (tgt := 23) C d_L_law_892 (by decide) ?_
          cases h
          refine j_sub [3, 4, 5, 6, 0] rfl (j_wide (by first | exact Nat.le_refl _ | exact Nat.le_succ _) (by first | exact Nat.le_refl _ | exact Nat.le_add_right _ 6) (kc1 _ _ _ _ rfl))
        · refine j_aload_n C 5 d_L_law_249 rfl rfl rfl ?_
          refine j_iconst (v := 0) C d_L_law_250 rfl (by decide) ?_
          refine j_lald C 34 1 rfl hTL d_L_law_251 rfl h (fun l33 h => ?_)
          refine j_iload C 0 d_L_law_252 rfl rfl ?_
          refine j_i2l C d_L_law_254 rfl ?_
          refine j_lcmp C d_L_law_255 rfl ?_
          refine j_if_eq (tgt := 261) C d_L_law_256 (by decide) rfl h (fun h => ?_) (fun h => ?_)
          · refine j_goto (tgt := 889) C d_L_law_261 (by decide) ?_
            refine j_iinc (v' := (v4 + 5)) (lv' := [(4, .int (v4 + 5)), (6, .int r29), (5, .int k23), (0, .ref b), (1, .ref (ad 0)), (2, .ref (bd 0)), (3, .ref qo)]) C 6 d_L_law_889 rfl rfl rfl (by decide) rfl ?_
            refine j_goto (tgt := 23) C d_L_law_892 (by decide) ?_
            cases h
            refine j_sub [3, 4, 5, 6, 0] rfl (j_wide (by first | exact Nat.le_refl _ | exact Nat.le_succ _) (by first | exact Nat.le_refl _ | exact Nat.le_add_right _ 6) (kc1 _ _ _ _ rfl))
          · cases h
            exact absurd rfl hno
      · cases h
        exact absurd rfl hno
    refine j_tsw (k := 2) (tgt := 264) C d_L_law_39 (by decide) (by decide) rfl (by decide) h (fun h => ?_) (fun n2 h => ?_)
    · refine j_aload_n C 1 d_L_law_264 rfl rfl rfl ?_
      refine j_aload_n C 0 d_L_law_265 rfl rfl rfl ?_
      refine j_iload C 4 d_L_law_266 rfl rfl ?_
      refine j_iconst (v := 1) C d_L_law_268 rfl (by decide) ?_
      refine j_iadd C d_L_law_269 rfl ?_
      refine j_sld C hX hbl hbA d_L_law_270 rfl h (fun r34 h => ?_)
      refine j_aload_n C 0 d_L_law_271 rfl rfl rfl ?_
      refine j_iload C 4 d_L_law_272 rfl rfl ?_
      refine j_iconst (v := 2) C d_L_law_274 rfl (by decide) ?_
      refine j_iadd C d_L_law_275 rfl ?_
      refine j_sld C hX hbl hbA d_L_law_276 rfl h (fun r35 h => ?_)
      refine j_aload_n C 3 d_L_law_277 rfl rfl rfl ?_
      obtain ⟨k37, σ38, f39, h36, h⟩ := mb3_some h
      refine jl_callS C Y hR (As := [.ref (ad 0), .int r34, .int r35, .ref qo]) (ct_L_where (jl x) (jD x) (jT x) hT hTL Y.1 r34 r35 σ f h36) kf_L_where (by decide) tw_371 tw_372 (rest := []) rfl rfl (Nat.le_of_ble_eq_true rfl) (lf1 hkc hks) d_L_law_278 rfl (st1 := [.int k37]) rfl ?_
      refine j_istore (lv' := [(5, .int k37), (0, .ref b), (1, .ref (ad 0)), (2, .ref (bd 0)), (3, .ref qo), (4, .int v4)]) C d_L_law_281 rfl (by decide) rfl ?_
      refine j_aload_n C 3 d_L_law_283 rfl rfl rfl ?_
      refine j_aload_n C 1 d_L_law_284 rfl rfl rfl ?_
      refine j_iload C 5 d_L_law_285 rfl rfl ?_
      refine j_iconst (v := 1) C d_L_law_287 rfl (by decide) ?_
      refine j_iadd C d_L_law_288 rfl ?_
      refine j_sld C hX hbl hbA d_L_law_289 rfl h (fun r40 h => ?_)
      refine j_aload_n C 1 d_L_law_290 rfl rfl rfl ?_
      refine j_iload C 5 d_L_law_291 rfl rfl ?_
      refine j_iconst (v := 2) C d_L_law_293 rfl (by decide) ?_
      refine j_iadd C d_L_law_294 rfl ?_
      refine j_sld C hX hbl hbA d_L_law_295 rfl h (fun r41 h => ?_)
      obtain ⟨r43, μ44, h42, h⟩ := mb2_some h
      refine j_callV C hR (As := [.int r40, .int r41]) (ct_M_where (jl x) (jD x) (jT x) hT r40 r41 μ h42) kf_M_where (by decide) tw_682 tw_683 tw_684 18 rfl rfl (rest := []) rfl rfl (Nat.le_of_ble_eq_true rfl) (lf1 hkc hks) ⟨rfl, rfl⟩ d_L_law_296 rfl (st1 := [.int r43]) rfl ?_
      refine j_istore (lv' := [(6, .int r43), (5, .int k37), (0, .ref b), (1, .ref (ad 0)), (2, .ref (bd 0)), (3, .ref qo), (4, .int v4)]) C d_L_law_299 rfl (by decide) rfl ?_
      refine j_aload_n C 4 d_L_law_301 rfl rfl rfl ?_
      obtain ⟨r46, h45, h⟩ := mb1_some h
      refine j_callV C hR (As := []) (ct_M_thrown (jl x) (jD x) (jT x) hT μ44 h45) kf_M_thrown (by decide) tw_630 tw_631 tw_632 18 rfl rfl (rest := []) rfl rfl (Nat.le_of_ble_eq_true rfl) (lf1 hkc hks) ⟨rfl, rfl⟩ d_L_law_302 rfl (st1 := [.int r46]) rfl ?_
      refine j_iload C 1 d_L_law_305 rfl rfl ?_
      refine j_icmp_eq (tgt := 312) C d_L_law_307 (by decide) rfl h (fun h => ?_) (fun h => ?_)
      · refine j_iload C 1 d_L_law_312 rfl rfl ?_
        refine j_if_ne (tgt := 329) C d_L_law_314 (by decide) rfl h (fun h => ?_) (fun h => ?_)
        · refine j_goto (tgt := 889) C d_L_law_329 (by decide) ?_
          refine j_iinc (v' := (v4 + 5)) (lv' := [(4, .int (v4 + 5)), (6, .int r43), (5, .int k37), (0, .ref b), (1, .ref (ad 0)), (2, .ref (bd 0)), (3, .ref qo)]) C 6 d_L_law_889 rfl rfl rfl (by decide) rfl ?_
          refine j_goto (tgt := 23) C d_L_law_892 (by decide) ?_
          cases h
          refine j_sub [3, 4, 5, 6, 0] rfl (j_wide (by first | exact Nat.le_refl _ | exact Nat.le_succ _) (by first | exact Nat.le_refl _ | exact Nat.le_add_right _ 6) (kc1 _ _ _ _ rfl))
        · refine j_aload_n C 5 d_L_law_317 rfl rfl rfl ?_
          refine j_iconst (v := 0) C d_L_law_318 rfl (by decide) ?_
          refine j_lald C 34 1 rfl hTL d_L_law_319 rfl h (fun l47 h => ?_)
          refine j_iload C 0 d_L_law_320 rfl rfl ?_
          refine j_i2l C d_L_law_322 rfl ?_
          refine j_lcmp C d_L_law_323 rfl ?_
          refine j_if_eq (tgt := 329) C d_L_law_324 (by decide) rfl h (fun h => ?_) (fun h => ?_)
          · refine j_goto (tgt := 889) C d_L_law_329 (by decide) ?_
            refine j_iinc (v' := (v4 + 5)) (lv' := [(4, .int (v4 + 5)), (6, .int r43), (5, .int k37), (0, .ref b), (1, .ref (ad 0)), (2, .ref (bd 0)), (3, .ref qo)]) C 6 d_L_law_889 rfl rfl rfl (by decide) rfl ?_
            refine j_goto (tgt := 23) C d_L_law_892 (by decide) ?_
            cases h
            refine j_sub [3, 4, 5, 6, 0] rfl (j_wide (by first | exact Nat.le_refl _ | exact Nat.le_succ _) (by first | exact Nat.le_refl _ | exact Nat.le_add_right _ 6) (kc1 _ _ _ _ rfl))
          · cases h
            exact absurd rfl hno
      · cases h
        exact absurd rfl hno
    refine j_tsw (k := 3) (tgt := 332) C d_L_law_39 (by decide) (by decide) rfl (by decide) h (fun h => ?_) (fun n3 h => ?_)
    · refine j_aload_n C 1 d_L_law_332 rfl rfl rfl ?_
      refine j_aload_n C 0 d_L_law_333 rfl rfl rfl ?_
      refine j_iload C 4 d_L_law_334 rfl rfl ?_
      refine j_iconst (v := 1) C d_L_law_336 rfl (by decide) ?_
      refine j_iadd C d_L_law_337 rfl ?_
      refine j_sld C hX hbl hbA d_L_law_338 rfl h (fun r48 h => ?_)
      refine j_aload_n C 0 d_L_law_339 rfl rfl rfl ?_
      refine j_iload C 4 d_L_law_340 rfl rfl ?_
      refine j_iconst (v := 2) C d_L_law_342 rfl (by decide) ?_
      refine j_iadd C d_L_law_343 rfl ?_
      refine j_sld C hX hbl hbA d_L_law_344 rfl h (fun r49 h => ?_)
      refine j_aload_n C 3 d_L_law_345 rfl rfl rfl ?_
      obtain ⟨k51, σ52, f53, h50, h⟩ := mb3_some h
      refine jl_callS C Y hR (As := [.ref (ad 0), .int r48, .int r49, .ref qo]) (ct_L_order (jl x) (jD x) (jT x) hT hTL Y.1 r48 r49 σ f h50) kf_L_order (by decide) tw_400 tw_401 (rest := []) rfl rfl (Nat.le_of_ble_eq_true rfl) (lf1 hkc hks) d_L_law_346 rfl (st1 := [.int k51]) rfl ?_
      refine j_istore (lv' := [(5, .int k51), (0, .ref b), (1, .ref (ad 0)), (2, .ref (bd 0)), (3, .ref qo), (4, .int v4)]) C d_L_law_349 rfl (by decide) rfl ?_
      refine j_aload_n C 3 d_L_law_351 rfl rfl rfl ?_
      refine j_aload_n C 1 d_L_law_352 rfl rfl rfl ?_
      refine j_iload C 5 d_L_law_353 rfl rfl ?_
      refine j_iconst (v := 1) C d_L_law_355 rfl (by decide) ?_
      refine j_iadd C d_L_law_356 rfl ?_
      refine j_sld C hX hbl hbA d_L_law_357 rfl h (fun r54 h => ?_)
      refine j_aload_n C 1 d_L_law_358 rfl rfl rfl ?_
      refine j_iload C 5 d_L_law_359 rfl rfl ?_
      refine j_iconst (v := 2) C d_L_law_361 rfl (by decide) ?_
      refine j_iadd C d_L_law_362 rfl ?_
      refine j_sld C hX hbl hbA d_L_law_363 rfl h (fun r55 h => ?_)
      obtain ⟨r57, μ58, h56, h⟩ := mb2_some h
      refine j_callV C hR (As := [.int r54, .int r55]) (ct_M_order (jl x) (jD x) (jT x) hT r54 r55 μ h56) kf_M_order (by decide) tw_690 tw_691 tw_692 18 rfl rfl (rest := []) rfl rfl (Nat.le_of_ble_eq_true rfl) (lf1 hkc hks) ⟨rfl, rfl⟩ d_L_law_364 rfl (st1 := [.int r57]) rfl ?_
      refine j_istore (lv' := [(6, .int r57), (5, .int k51), (0, .ref b), (1, .ref (ad 0)), (2, .ref (bd 0)), (3, .ref qo), (4, .int v4)]) C d_L_law_367 rfl (by decide) rfl ?_
      refine j_aload_n C 4 d_L_law_369 rfl rfl rfl ?_
      obtain ⟨r60, h59, h⟩ := mb1_some h
      refine j_callV C hR (As := []) (ct_M_thrown (jl x) (jD x) (jT x) hT μ58 h59) kf_M_thrown (by decide) tw_630 tw_631 tw_632 18 rfl rfl (rest := []) rfl rfl (Nat.le_of_ble_eq_true rfl) (lf1 hkc hks) ⟨rfl, rfl⟩ d_L_law_370 rfl (st1 := [.int r60]) rfl ?_
      refine j_iload C 1 d_L_law_373 rfl rfl ?_
      refine j_icmp_eq (tgt := 380) C d_L_law_375 (by decide) rfl h (fun h => ?_) (fun h => ?_)
      · refine j_iload C 1 d_L_law_380 rfl rfl ?_
        refine j_if_ne (tgt := 397) C d_L_law_382 (by decide) rfl h (fun h => ?_) (fun h => ?_)
        · refine j_goto (tgt := 889) C d_L_law_397 (by decide) ?_
          refine j_iinc (v' := (v4 + 5)) (lv' := [(4, .int (v4 + 5)), (6, .int r57), (5, .int k51), (0, .ref b), (1, .ref (ad 0)), (2, .ref (bd 0)), (3, .ref qo)]) C 6 d_L_law_889 rfl rfl rfl (by decide) rfl ?_
          refine j_goto (tgt := 23) C d_L_law_892 (by decide) ?_
          cases h
          refine j_sub [3, 4, 5, 6, 0] rfl (j_wide (by first | exact Nat.le_refl _ | exact Nat.le_succ _) (by first | exact Nat.le_refl _ | exact Nat.le_add_right _ 6) (kc1 _ _ _ _ rfl))
        · refine j_aload_n C 5 d_L_law_385 rfl rfl rfl ?_
          refine j_iconst (v := 0) C d_L_law_386 rfl (by decide) ?_
          refine j_lald C 34 1 rfl hTL d_L_law_387 rfl h (fun l61 h => ?_)
          refine j_iload C 0 d_L_law_388 rfl rfl ?_
          refine j_i2l C d_L_law_390 rfl ?_
          refine j_lcmp C d_L_law_391 rfl ?_
          refine j_if_eq (tgt := 397) C d_L_law_392 (by decide) rfl h (fun h => ?_) (fun h => ?_)
          · refine j_goto (tgt := 889) C d_L_law_397 (by decide) ?_
            refine j_iinc (v' := (v4 + 5)) (lv' := [(4, .int (v4 + 5)), (6, .int r57), (5, .int k51), (0, .ref b), (1, .ref (ad 0)), (2, .ref (bd 0)), (3, .ref qo)]) C 6 d_L_law_889 rfl rfl rfl (by decide) rfl ?_
            refine j_goto (tgt := 23) C d_L_law_892 (by decide) ?_
            cases h
            refine j_sub [3, 4, 5, 6, 0] rfl (j_wide (by first | exact Nat.le_refl _ | exact Nat.le_succ _) (by first | exact Nat.le_refl _ | exact Nat.le_add_right _ 6) (kc1 _ _ _ _ rfl))
          · cases h
            exact absurd rfl hno
      · cases h
        exact absurd rfl hno
    refine j_tsw (k := 4) (tgt := 400) C d_L_law_39 (by decide) (by decide) rfl (by decide) h (fun h => ?_) (fun n4 h => ?_)
    · refine j_aload_n C 1 d_L_law_400 rfl rfl rfl ?_
      refine j_aload_n C 0 d_L_law_401 rfl rfl rfl ?_
      refine j_iload C 4 d_L_law_402 rfl rfl ?_
      refine j_iconst (v := 1) C d_L_law_404 rfl (by decide) ?_
      refine j_iadd C d_L_law_405 rfl ?_
      refine j_sld C hX hbl hbA d_L_law_406 rfl h (fun r62 h => ?_)
      refine j_aload_n C 3 d_L_law_407 rfl rfl rfl ?_
      obtain ⟨k64, σ65, f66, h63, h⟩ := mb3_some h
      refine jl_callS C Y hR (As := [.ref (ad 0), .int r62, .ref qo]) (ct_L_promise (jl x) (jD x) (jT x) hT hTL Y.1 r62 σ f h63) kf_L_promise (by decide) tw_415 tw_416 (rest := []) rfl rfl (Nat.le_of_ble_eq_true rfl) (lf1 hkc hks) d_L_law_408 rfl (st1 := [.int k64]) rfl ?_
      refine j_istore (lv' := [(5, .int k64), (0, .ref b), (1, .ref (ad 0)), (2, .ref (bd 0)), (3, .ref qo), (4, .int v4)]) C d_L_law_411 rfl (by decide) rfl ?_
      refine j_aload_n C 3 d_L_law_413 rfl rfl rfl ?_
      refine j_aload_n C 1 d_L_law_414 rfl rfl rfl ?_
      refine j_iload C 5 d_L_law_415 rfl rfl ?_
      refine j_iconst (v := 1) C d_L_law_417 rfl (by decide) ?_
      refine j_iadd C d_L_law_418 rfl ?_
      refine j_sld C hX hbl hbA d_L_law_419 rfl h (fun r67 h => ?_)
      obtain ⟨r69, μ70, h68, h⟩ := mb2_some h
      refine j_callV C hR (As := [.int r67]) (ct_M_promise (jl x) (jD x) (jT x) hT r67 μ h68) kf_M_promise (by decide) tw_702 tw_703 tw_704 18 rfl rfl (rest := []) rfl rfl (Nat.le_of_ble_eq_true rfl) (lf1 hkc hks) ⟨rfl, rfl⟩ d_L_law_420 rfl (st1 := [.int r69]) rfl ?_
      refine j_istore (lv' := [(6, .int r69), (5, .int k64), (0, .ref b), (1, .ref (ad 0)), (2, .ref (bd 0)), (3, .ref qo), (4, .int v4)]) C d_L_law_423 rfl (by decide) rfl ?_
      refine j_aload_n C 4 d_L_law_425 rfl rfl rfl ?_
      obtain ⟨r72, h71, h⟩ := mb1_some h
      refine j_callV C hR (As := []) (ct_M_thrown (jl x) (jD x) (jT x) hT μ70 h71) kf_M_thrown (by decide) tw_630 tw_631 tw_632 18 rfl rfl (rest := []) rfl rfl (Nat.le_of_ble_eq_true rfl) (lf1 hkc hks) ⟨rfl, rfl⟩ d_L_law_426 rfl (st1 := [.int r72]) rfl ?_
      refine j_iload C 1 d_L_law_429 rfl rfl ?_
      refine j_icmp_eq (tgt := 436) C d_L_law_431 (by decide) rfl h (fun h => ?_) (fun h => ?_)
      · refine j_iload C 1 d_L_law_436 rfl rfl ?_
        refine j_if_ne (tgt := 453) C d_L_law_438 (by decide) rfl h (fun h => ?_) (fun h => ?_)
        · refine j_goto (tgt := 889) C d_L_law_453 (by decide) ?_
          refine j_iinc (v' := (v4 + 5)) (lv' := [(4, .int (v4 + 5)), (6, .int r69), (5, .int k64), (0, .ref b), (1, .ref (ad 0)), (2, .ref (bd 0)), (3, .ref qo)]) C 6 d_L_law_889 rfl rfl rfl (by decide) rfl ?_
          refine j_goto (tgt := 23) C d_L_law_892 (by decide) ?_
          cases h
          refine j_sub [3, 4, 5, 6, 0] rfl (j_wide (by first | exact Nat.le_refl _ | exact Nat.le_succ _) (by first | exact Nat.le_refl _ | exact Nat.le_add_right _ 6) (kc1 _ _ _ _ rfl))
        · refine j_aload_n C 5 d_L_law_441 rfl rfl rfl ?_
          refine j_iconst (v := 0) C d_L_law_442 rfl (by decide) ?_
          refine j_lald C 34 1 rfl hTL d_L_law_443 rfl h (fun l73 h => ?_)
          refine j_iload C 0 d_L_law_444 rfl rfl ?_
          refine j_i2l C d_L_law_446 rfl ?_
          refine j_lcmp C d_L_law_447 rfl ?_
          refine j_if_eq (tgt := 453) C d_L_law_448 (by decide) rfl h (fun h => ?_) (fun h => ?_)
          · refine j_goto (tgt := 889) C d_L_law_453 (by decide) ?_
            refine j_iinc (v' := (v4 + 5)) (lv' := [(4, .int (v4 + 5)), (6, .int r69), (5, .int k64), (0, .ref b), (1, .ref (ad 0)), (2, .ref (bd 0)), (3, .ref qo)]) C 6 d_L_law_889 rfl rfl rfl (by decide) rfl ?_
            refine j_goto (tgt := 23) C d_L_law_892 (by decide) ?_
            cases h
            refine j_sub [3, 4, 5, 6, 0] rfl (j_wide (by first | exact Nat.le_refl _ | exact Nat.le_succ _) (by first | exact Nat.le_refl _ | exact Nat.le_add_right _ 6) (kc1 _ _ _ _ rfl))
          · cases h
            exact absurd rfl hno
      · cases h
        exact absurd rfl hno
    refine j_tsw (k := 5) (tgt := 456) C d_L_law_39 (by decide) (by decide) rfl (by decide) h (fun h => ?_) (fun n5 h => ?_)
    · refine j_aload_n C 1 d_L_law_456 rfl rfl rfl ?_
      refine j_aload_n C 0 d_L_law_457 rfl rfl rfl ?_
      refine j_iload C 4 d_L_law_458 rfl rfl ?_
      refine j_iconst (v := 1) C d_L_law_460 rfl (by decide) ?_
      refine j_iadd C d_L_law_461 rfl ?_
      refine j_sld C hX hbl hbA d_L_law_462 rfl h (fun r74 h => ?_)
      refine j_aload_n C 0 d_L_law_463 rfl rfl rfl ?_
      refine j_iload C 4 d_L_law_464 rfl rfl ?_
      refine j_iconst (v := 2) C d_L_law_466 rfl (by decide) ?_
      refine j_iadd C d_L_law_467 rfl ?_
      refine j_sld C hX hbl hbA d_L_law_468 rfl h (fun r75 h => ?_)
      refine j_aload_n C 3 d_L_law_469 rfl rfl rfl ?_
      obtain ⟨k77, σ78, f79, h76, h⟩ := mb3_some h
      refine jl_callS C Y hR (As := [.ref (ad 0), .int r74, .int r75, .ref qo]) (ct_L_way (jl x) (jD x) (jT x) hT hTL Y.1 r74 r75 σ f h76) kf_L_way (by decide) tw_459 tw_460 (rest := []) rfl rfl (Nat.le_of_ble_eq_true rfl) (lf1 hkc hks) d_L_law_470 rfl (st1 := [.int k77]) rfl ?_
      refine j_istore (lv' := [(5, .int k77), (0, .ref b), (1, .ref (ad 0)), (2, .ref (bd 0)), (3, .ref qo), (4, .int v4)]) C d_L_law_473 rfl (by decide) rfl ?_
      refine j_aload_n C 3 d_L_law_475 rfl rfl rfl ?_
      refine j_aload_n C 1 d_L_law_476 rfl rfl rfl ?_
      refine j_iload C 5 d_L_law_477 rfl rfl ?_
      refine j_iconst (v := 1) C d_L_law_479 rfl (by decide) ?_
      refine j_iadd C d_L_law_480 rfl ?_
      refine j_sld C hX hbl hbA d_L_law_481 rfl h (fun r80 h => ?_)
      refine j_aload_n C 1 d_L_law_482 rfl rfl rfl ?_
      refine j_iload C 5 d_L_law_483 rfl rfl ?_
      refine j_iconst (v := 2) C d_L_law_485 rfl (by decide) ?_
      refine j_iadd C d_L_law_486 rfl ?_
      refine j_sld C hX hbl hbA d_L_law_487 rfl h (fun r81 h => ?_)
      obtain ⟨r83, μ84, h82, h⟩ := mb2_some h
      refine j_callV C hR (As := [.int r80, .int r81]) (ct_M_way (jl x) (jD x) (jT x) hT r80 r81 μ h82) kf_M_way (by decide) tw_710 tw_711 tw_712 18 rfl rfl (rest := []) rfl rfl (Nat.le_of_ble_eq_true rfl) (lf1 hkc hks) ⟨rfl, rfl⟩ d_L_law_488 rfl (st1 := [.int r83]) rfl ?_
      refine j_istore (lv' := [(6, .int r83), (5, .int k77), (0, .ref b), (1, .ref (ad 0)), (2, .ref (bd 0)), (3, .ref qo), (4, .int v4)]) C d_L_law_491 rfl (by decide) rfl ?_
      refine j_aload_n C 4 d_L_law_493 rfl rfl rfl ?_
      obtain ⟨r86, h85, h⟩ := mb1_some h
      refine j_callV C hR (As := []) (ct_M_thrown (jl x) (jD x) (jT x) hT μ84 h85) kf_M_thrown (by decide) tw_630 tw_631 tw_632 18 rfl rfl (rest := []) rfl rfl (Nat.le_of_ble_eq_true rfl) (lf1 hkc hks) ⟨rfl, rfl⟩ d_L_law_494 rfl (st1 := [.int r86]) rfl ?_
      refine j_iload C 1 d_L_law_497 rfl rfl ?_
      refine j_icmp_eq (tgt := 504) C d_L_law_499 (by decide) rfl h (fun h => ?_) (fun h => ?_)
      · refine j_iload C 1 d_L_law_504 rfl rfl ?_
        refine j_if_ne (tgt := 521) C d_L_law_506 (by decide) rfl h (fun h => ?_) (fun h => ?_)
        · refine j_goto (tgt := 889) C d_L_law_521 (by decide) ?_
          refine j_iinc (v' := (v4 + 5)) (lv' := [(4, .int (v4 + 5)), (6, .int r83), (5, .int k77), (0, .ref b), (1, .ref (ad 0)), (2, .ref (bd 0)), (3, .ref qo)]) C 6 d_L_law_889 rfl rfl rfl (by decide) rfl ?_
          refine j_goto (tgt := 23) C d_L_law_892 (by decide) ?_
          cases h
          refine j_sub [3, 4, 5, 6, 0] rfl (j_wide (by first | exact Nat.le_refl _ | exact Nat.le_succ _) (by first | exact Nat.le_refl _ | exact Nat.le_add_right _ 6) (kc1 _ _ _ _ rfl))
        · refine j_aload_n C 5 d_L_law_509 rfl rfl rfl ?_
          refine j_iconst (v := 0) C d_L_law_510 rfl (by decide) ?_
          refine j_lald C 34 1 rfl hTL d_L_law_511 rfl h (fun l87 h => ?_)
          refine j_iload C 0 d_L_law_512 rfl rfl ?_
          refine j_i2l C d_L_law_514 rfl ?_
          refine j_lcmp C d_L_law_515 rfl ?_
          refine j_if_eq (tgt := 521) C d_L_law_516 (by decide) rfl h (fun h => ?_) (fun h => ?_)
          · refine j_goto (tgt := 889) C d_L_law_521 (by decide) ?_
            refine j_iinc (v' := (v4 + 5)) (lv' := [(4, .int (v4 + 5)), (6, .int r83), (5, .int k77), (0, .ref b), (1, .ref (ad 0)), (2, .ref (bd 0)), (3, .ref qo)]) C 6 d_L_law_889 rfl rfl rfl (by decide) rfl ?_
            refine j_goto (tgt := 23) C d_L_law_892 (by decide) ?_
            cases h
            refine j_sub [3, 4, 5, 6, 0] rfl (j_wide (by first | exact Nat.le_refl _ | exact Nat.le_succ _) (by first | exact Nat.le_refl _ | exact Nat.le_add_right _ 6) (kc1 _ _ _ _ rfl))
          · cases h
            exact absurd rfl hno
      · cases h
        exact absurd rfl hno
    refine j_tsw (k := 6) (tgt := 524) C d_L_law_39 (by decide) (by decide) rfl (by decide) h (fun h => ?_) (fun n6 h => ?_)
    · refine j_aload_n C 1 d_L_law_524 rfl rfl rfl ?_
      refine j_aload_n C 0 d_L_law_525 rfl rfl rfl ?_
      refine j_iload C 4 d_L_law_526 rfl rfl ?_
      refine j_iconst (v := 1) C d_L_law_528 rfl (by decide) ?_
      refine j_iadd C d_L_law_529 rfl ?_
      refine j_sld C hX hbl hbA d_L_law_530 rfl h (fun r88 h => ?_)
      refine j_aload_n C 0 d_L_law_531 rfl rfl rfl ?_
      refine j_iload C 4 d_L_law_532 rfl rfl ?_
      refine j_iconst (v := 2) C d_L_law_534 rfl (by decide) ?_
      refine j_iadd C d_L_law_535 rfl ?_
      refine j_sld C hX hbl hbA d_L_law_536 rfl h (fun r89 h => ?_)
      refine j_aload_n C 3 d_L_law_537 rfl rfl rfl ?_
      obtain ⟨k91, σ92, f93, h90, h⟩ := mb3_some h
      refine jl_callS C Y hR (As := [.ref (ad 0), .int r88, .int r89, .ref qo]) (ct_L_walk (jl x) (jD x) (jT x) hT hTL Y.1 r88 r89 σ f h90) kf_L_walk (by decide) tw_491 tw_492 (rest := []) rfl rfl (Nat.le_of_ble_eq_true rfl) (lf1 hkc hks) d_L_law_538 rfl (st1 := [.int k91]) rfl ?_
      refine j_istore (lv' := [(5, .int k91), (0, .ref b), (1, .ref (ad 0)), (2, .ref (bd 0)), (3, .ref qo), (4, .int v4)]) C d_L_law_541 rfl (by decide) rfl ?_
      refine j_aload_n C 3 d_L_law_543 rfl rfl rfl ?_
      refine j_aload_n C 1 d_L_law_544 rfl rfl rfl ?_
      refine j_iload C 5 d_L_law_545 rfl rfl ?_
      refine j_iconst (v := 1) C d_L_law_547 rfl (by decide) ?_
      refine j_iadd C d_L_law_548 rfl ?_
      refine j_sld C hX hbl hbA d_L_law_549 rfl h (fun r94 h => ?_)
      refine j_aload_n C 1 d_L_law_550 rfl rfl rfl ?_
      refine j_iload C 5 d_L_law_551 rfl rfl ?_
      refine j_iconst (v := 2) C d_L_law_553 rfl (by decide) ?_
      refine j_iadd C d_L_law_554 rfl ?_
      refine j_sld C hX hbl hbA d_L_law_555 rfl h (fun r95 h => ?_)
      obtain ⟨r97, μ98, h96, h⟩ := mb2_some h
      refine j_callV C hR (As := [.int r94, .int r95]) (ct_M_walk (jl x) (jD x) (jT x) hT r94 r95 μ h96) kf_M_walk (by decide) tw_719 tw_720 tw_721 18 rfl rfl (rest := []) rfl rfl (Nat.le_of_ble_eq_true rfl) (lf1 hkc hks) ⟨rfl, rfl⟩ d_L_law_556 rfl (st1 := [.int r97]) rfl ?_
      refine j_istore (lv' := [(6, .int r97), (5, .int k91), (0, .ref b), (1, .ref (ad 0)), (2, .ref (bd 0)), (3, .ref qo), (4, .int v4)]) C d_L_law_559 rfl (by decide) rfl ?_
      refine j_aload_n C 4 d_L_law_561 rfl rfl rfl ?_
      obtain ⟨r100, h99, h⟩ := mb1_some h
      refine j_callV C hR (As := []) (ct_M_thrown (jl x) (jD x) (jT x) hT μ98 h99) kf_M_thrown (by decide) tw_630 tw_631 tw_632 18 rfl rfl (rest := []) rfl rfl (Nat.le_of_ble_eq_true rfl) (lf1 hkc hks) ⟨rfl, rfl⟩ d_L_law_562 rfl (st1 := [.int r100]) rfl ?_
      refine j_iload C 1 d_L_law_565 rfl rfl ?_
      refine j_icmp_eq (tgt := 572) C d_L_law_567 (by decide) rfl h (fun h => ?_) (fun h => ?_)
      · refine j_iload C 1 d_L_law_572 rfl rfl ?_
        refine j_if_ne (tgt := 589) C d_L_law_574 (by decide) rfl h (fun h => ?_) (fun h => ?_)
        · refine j_goto (tgt := 889) C d_L_law_589 (by decide) ?_
          refine j_iinc (v' := (v4 + 5)) (lv' := [(4, .int (v4 + 5)), (6, .int r97), (5, .int k91), (0, .ref b), (1, .ref (ad 0)), (2, .ref (bd 0)), (3, .ref qo)]) C 6 d_L_law_889 rfl rfl rfl (by decide) rfl ?_
          refine j_goto (tgt := 23) C d_L_law_892 (by decide) ?_
          cases h
          refine j_sub [3, 4, 5, 6, 0] rfl (j_wide (by first | exact Nat.le_refl _ | exact Nat.le_succ _) (by first | exact Nat.le_refl _ | exact Nat.le_add_right _ 6) (kc1 _ _ _ _ rfl))
        · refine j_aload_n C 5 d_L_law_577 rfl rfl rfl ?_
          refine j_iconst (v := 0) C d_L_law_578 rfl (by decide) ?_
          refine j_lald C 34 1 rfl hTL d_L_law_579 rfl h (fun l101 h => ?_)
          refine j_iload C 0 d_L_law_580 rfl rfl ?_
          refine j_i2l C d_L_law_582 rfl ?_
          refine j_lcmp C d_L_law_583 rfl ?_
          refine j_if_eq (tgt := 589) C d_L_law_584 (by decide) rfl h (fun h => ?_) (fun h => ?_)
          · refine j_goto (tgt := 889) C d_L_law_589 (by decide) ?_
            refine j_iinc (v' := (v4 + 5)) (lv' := [(4, .int (v4 + 5)), (6, .int r97), (5, .int k91), (0, .ref b), (1, .ref (ad 0)), (2, .ref (bd 0)), (3, .ref qo)]) C 6 d_L_law_889 rfl rfl rfl (by decide) rfl ?_
            refine j_goto (tgt := 23) C d_L_law_892 (by decide) ?_
            cases h
            refine j_sub [3, 4, 5, 6, 0] rfl (j_wide (by first | exact Nat.le_refl _ | exact Nat.le_succ _) (by first | exact Nat.le_refl _ | exact Nat.le_add_right _ 6) (kc1 _ _ _ _ rfl))
          · cases h
            exact absurd rfl hno
      · cases h
        exact absurd rfl hno
    refine j_tsw (k := 7) (tgt := 592) C d_L_law_39 (by decide) (by decide) rfl (by decide) h (fun h => ?_) (fun n7 h => ?_)
    · refine j_aload_n C 1 d_L_law_592 rfl rfl rfl ?_
      refine j_aload_n C 0 d_L_law_593 rfl rfl rfl ?_
      refine j_iload C 4 d_L_law_594 rfl rfl ?_
      refine j_iconst (v := 1) C d_L_law_596 rfl (by decide) ?_
      refine j_iadd C d_L_law_597 rfl ?_
      refine j_sld C hX hbl hbA d_L_law_598 rfl h (fun r102 h => ?_)
      refine j_aload_n C 0 d_L_law_599 rfl rfl rfl ?_
      refine j_iload C 4 d_L_law_600 rfl rfl ?_
      refine j_iconst (v := 2) C d_L_law_602 rfl (by decide) ?_
      refine j_iadd C d_L_law_603 rfl ?_
      refine j_sld C hX hbl hbA d_L_law_604 rfl h (fun r103 h => ?_)
      refine j_aload_n C 3 d_L_law_605 rfl rfl rfl ?_
      obtain ⟨k105, σ106, f107, h104, h⟩ := mb3_some h
      refine jl_callS C Y hR (As := [.ref (ad 0), .int r102, .int r103, .ref qo]) (ct_L_money (jl x) (jD x) (jT x) hT hTL Y.1 r102 r103 σ f h104) kf_L_money (by decide) tw_510 tw_511 (rest := []) rfl rfl (Nat.le_of_ble_eq_true rfl) (lf1 hkc hks) d_L_law_606 rfl (st1 := [.int k105]) rfl ?_
      refine j_istore (lv' := [(5, .int k105), (0, .ref b), (1, .ref (ad 0)), (2, .ref (bd 0)), (3, .ref qo), (4, .int v4)]) C d_L_law_609 rfl (by decide) rfl ?_
      refine j_aload_n C 3 d_L_law_611 rfl rfl rfl ?_
      refine j_aload_n C 1 d_L_law_612 rfl rfl rfl ?_
      refine j_iload C 5 d_L_law_613 rfl rfl ?_
      refine j_iconst (v := 1) C d_L_law_615 rfl (by decide) ?_
      refine j_iadd C d_L_law_616 rfl ?_
      refine j_sld C hX hbl hbA d_L_law_617 rfl h (fun r108 h => ?_)
      refine j_aload_n C 1 d_L_law_618 rfl rfl rfl ?_
      refine j_iload C 5 d_L_law_619 rfl rfl ?_
      refine j_iconst (v := 2) C d_L_law_621 rfl (by decide) ?_
      refine j_iadd C d_L_law_622 rfl ?_
      refine j_sld C hX hbl hbA d_L_law_623 rfl h (fun r109 h => ?_)
      obtain ⟨r111, μ112, h110, h⟩ := mb2_some h
      refine j_callV C hR (As := [.int r108, .int r109]) (ct_M_money (jl x) (jD x) (jT x) hT r108 r109 μ h110) kf_M_money (by decide) tw_686 tw_687 tw_688 18 rfl rfl (rest := []) rfl rfl (Nat.le_of_ble_eq_true rfl) (lf1 hkc hks) ⟨rfl, rfl⟩ d_L_law_624 rfl (st1 := [.int r111]) rfl ?_
      refine j_istore (lv' := [(6, .int r111), (5, .int k105), (0, .ref b), (1, .ref (ad 0)), (2, .ref (bd 0)), (3, .ref qo), (4, .int v4)]) C d_L_law_627 rfl (by decide) rfl ?_
      refine j_aload_n C 4 d_L_law_629 rfl rfl rfl ?_
      obtain ⟨r114, h113, h⟩ := mb1_some h
      refine j_callV C hR (As := []) (ct_M_thrown (jl x) (jD x) (jT x) hT μ112 h113) kf_M_thrown (by decide) tw_630 tw_631 tw_632 18 rfl rfl (rest := []) rfl rfl (Nat.le_of_ble_eq_true rfl) (lf1 hkc hks) ⟨rfl, rfl⟩ d_L_law_630 rfl (st1 := [.int r114]) rfl ?_
      refine j_iload C 1 d_L_law_633 rfl rfl ?_
      refine j_icmp_eq (tgt := 640) C d_L_law_635 (by decide) rfl h (fun h => ?_) (fun h => ?_)
      · refine j_iload C 1 d_L_law_640 rfl rfl ?_
        refine j_if_ne (tgt := 657) C d_L_law_642 (by decide) rfl h (fun h => ?_) (fun h => ?_)
        · refine j_goto (tgt := 889) C d_L_law_657 (by decide) ?_
          refine j_iinc (v' := (v4 + 5)) (lv' := [(4, .int (v4 + 5)), (6, .int r111), (5, .int k105), (0, .ref b), (1, .ref (ad 0)), (2, .ref (bd 0)), (3, .ref qo)]) C 6 d_L_law_889 rfl rfl rfl (by decide) rfl ?_
          refine j_goto (tgt := 23) C d_L_law_892 (by decide) ?_
          cases h
          refine j_sub [3, 4, 5, 6, 0] rfl (j_wide (by first | exact Nat.le_refl _ | exact Nat.le_succ _) (by first | exact Nat.le_refl _ | exact Nat.le_add_right _ 6) (kc1 _ _ _ _ rfl))
        · refine j_aload_n C 5 d_L_law_645 rfl rfl rfl ?_
          refine j_iconst (v := 0) C d_L_law_646 rfl (by decide) ?_
          refine j_lald C 34 1 rfl hTL d_L_law_647 rfl h (fun l115 h => ?_)
          refine j_iload C 0 d_L_law_648 rfl rfl ?_
          refine j_i2l C d_L_law_650 rfl ?_
          refine j_lcmp C d_L_law_651 rfl ?_
          refine j_if_eq (tgt := 657) C d_L_law_652 (by decide) rfl h (fun h => ?_) (fun h => ?_)
          · refine j_goto (tgt := 889) C d_L_law_657 (by decide) ?_
            refine j_iinc (v' := (v4 + 5)) (lv' := [(4, .int (v4 + 5)), (6, .int r111), (5, .int k105), (0, .ref b), (1, .ref (ad 0)), (2, .ref (bd 0)), (3, .ref qo)]) C 6 d_L_law_889 rfl rfl rfl (by decide) rfl ?_
            refine j_goto (tgt := 23) C d_L_law_892 (by decide) ?_
            cases h
            refine j_sub [3, 4, 5, 6, 0] rfl (j_wide (by first | exact Nat.le_refl _ | exact Nat.le_succ _) (by first | exact Nat.le_refl _ | exact Nat.le_add_right _ 6) (kc1 _ _ _ _ rfl))
          · cases h
            exact absurd rfl hno
      · cases h
        exact absurd rfl hno
    refine j_tsw (k := 8) (tgt := 660) C d_L_law_39 (by decide) (by decide) rfl (by decide) h (fun h => ?_) (fun n8 h => ?_)
    · refine j_aload_n C 1 d_L_law_660 rfl rfl rfl ?_
      refine j_aload_n C 0 d_L_law_661 rfl rfl rfl ?_
      refine j_iload C 4 d_L_law_662 rfl rfl ?_
      refine j_iconst (v := 1) C d_L_law_664 rfl (by decide) ?_
      refine j_iadd C d_L_law_665 rfl ?_
      refine j_sld C hX hbl hbA d_L_law_666 rfl h (fun r116 h => ?_)
      refine j_aload_n C 3 d_L_law_667 rfl rfl rfl ?_
      obtain ⟨k118, σ119, f120, h117, h⟩ := mb3_some h
      refine jl_callS C Y hR (As := [.ref (ad 0), .int r116, .ref qo]) (ct_L_needs (jl x) (jD x) (jT x) hT hTL Y.1 r116 σ f h117) kf_L_needs (by decide) tw_518 tw_519 (rest := []) rfl rfl (Nat.le_of_ble_eq_true rfl) (lf1 hkc hks) d_L_law_668 rfl (st1 := [.int k118]) rfl ?_
      refine j_istore (lv' := [(5, .int k118), (0, .ref b), (1, .ref (ad 0)), (2, .ref (bd 0)), (3, .ref qo), (4, .int v4)]) C d_L_law_671 rfl (by decide) rfl ?_
      refine j_aload_n C 3 d_L_law_673 rfl rfl rfl ?_
      refine j_aload_n C 1 d_L_law_674 rfl rfl rfl ?_
      refine j_iload C 5 d_L_law_675 rfl rfl ?_
      refine j_iconst (v := 1) C d_L_law_677 rfl (by decide) ?_
      refine j_iadd C d_L_law_678 rfl ?_
      refine j_sld C hX hbl hbA d_L_law_679 rfl h (fun r121 h => ?_)
      obtain ⟨r123, μ124, h122, h⟩ := mb2_some h
      refine j_callV C hR (As := [.int r121]) (ct_M_needs (jl x) (jD x) (jT x) hT r121 μ h122) kf_M_needs (by decide) tw_727 tw_728 tw_729 18 rfl rfl (rest := []) rfl rfl (Nat.le_of_ble_eq_true rfl) (lf1 hkc hks) ⟨rfl, rfl⟩ d_L_law_680 rfl (st1 := [.int r123]) rfl ?_
      refine j_istore (lv' := [(6, .int r123), (5, .int k118), (0, .ref b), (1, .ref (ad 0)), (2, .ref (bd 0)), (3, .ref qo), (4, .int v4)]) C d_L_law_683 rfl (by decide) rfl ?_
      refine j_aload_n C 4 d_L_law_685 rfl rfl rfl ?_
      obtain ⟨r126, h125, h⟩ := mb1_some h
      refine j_callV C hR (As := []) (ct_M_thrown (jl x) (jD x) (jT x) hT μ124 h125) kf_M_thrown (by decide) tw_630 tw_631 tw_632 18 rfl rfl (rest := []) rfl rfl (Nat.le_of_ble_eq_true rfl) (lf1 hkc hks) ⟨rfl, rfl⟩ d_L_law_686 rfl (st1 := [.int r126]) rfl ?_
      refine j_iload C 1 d_L_law_689 rfl rfl ?_
      refine j_icmp_eq (tgt := 696) C d_L_law_691 (by decide) rfl h (fun h => ?_) (fun h => ?_)
      · refine j_iload C 1 d_L_law_696 rfl rfl ?_
        refine j_if_ne (tgt := 713) C d_L_law_698 (by decide) rfl h (fun h => ?_) (fun h => ?_)
        · refine j_goto (tgt := 889) C d_L_law_713 (by decide) ?_
          refine j_iinc (v' := (v4 + 5)) (lv' := [(4, .int (v4 + 5)), (6, .int r123), (5, .int k118), (0, .ref b), (1, .ref (ad 0)), (2, .ref (bd 0)), (3, .ref qo)]) C 6 d_L_law_889 rfl rfl rfl (by decide) rfl ?_
          refine j_goto (tgt := 23) C d_L_law_892 (by decide) ?_
          cases h
          refine j_sub [3, 4, 5, 6, 0] rfl (j_wide (by first | exact Nat.le_refl _ | exact Nat.le_succ _) (by first | exact Nat.le_refl _ | exact Nat.le_add_right _ 6) (kc1 _ _ _ _ rfl))
        · refine j_aload_n C 5 d_L_law_701 rfl rfl rfl ?_
          refine j_iconst (v := 0) C d_L_law_702 rfl (by decide) ?_
          refine j_lald C 34 1 rfl hTL d_L_law_703 rfl h (fun l127 h => ?_)
          refine j_iload C 0 d_L_law_704 rfl rfl ?_
          refine j_i2l C d_L_law_706 rfl ?_
          refine j_lcmp C d_L_law_707 rfl ?_
          refine j_if_eq (tgt := 713) C d_L_law_708 (by decide) rfl h (fun h => ?_) (fun h => ?_)
          · refine j_goto (tgt := 889) C d_L_law_713 (by decide) ?_
            refine j_iinc (v' := (v4 + 5)) (lv' := [(4, .int (v4 + 5)), (6, .int r123), (5, .int k118), (0, .ref b), (1, .ref (ad 0)), (2, .ref (bd 0)), (3, .ref qo)]) C 6 d_L_law_889 rfl rfl rfl (by decide) rfl ?_
            refine j_goto (tgt := 23) C d_L_law_892 (by decide) ?_
            cases h
            refine j_sub [3, 4, 5, 6, 0] rfl (j_wide (by first | exact Nat.le_refl _ | exact Nat.le_succ _) (by first | exact Nat.le_refl _ | exact Nat.le_add_right _ 6) (kc1 _ _ _ _ rfl))
          · cases h
            exact absurd rfl hno
      · cases h
        exact absurd rfl hno
    refine j_tsw (k := 9) (tgt := 716) C d_L_law_39 (by decide) (by decide) rfl (by decide) h (fun h => ?_) (fun n9 h => ?_)
    · refine j_aload_n C 1 d_L_law_716 rfl rfl rfl ?_
      refine j_aload_n C 0 d_L_law_717 rfl rfl rfl ?_
      refine j_iload C 4 d_L_law_718 rfl rfl ?_
      refine j_iconst (v := 1) C d_L_law_720 rfl (by decide) ?_
      refine j_iadd C d_L_law_721 rfl ?_
      refine j_sld C hX hbl hbA d_L_law_722 rfl h (fun r128 h => ?_)
      refine j_aload_n C 3 d_L_law_723 rfl rfl rfl ?_
      obtain ⟨k130, σ131, f132, h129, h⟩ := mb3_some h
      refine jl_callS C Y hR (As := [.ref (ad 0), .int r128, .ref qo]) (ct_L_explained (jl x) (jD x) (jT x) hT hTL Y.1 r128 σ f h129) kf_L_explained (by decide) tw_530 tw_531 (rest := []) rfl rfl (Nat.le_of_ble_eq_true rfl) (lf1 hkc hks) d_L_law_724 rfl (st1 := [.int k130]) rfl ?_
      refine j_istore (lv' := [(5, .int k130), (0, .ref b), (1, .ref (ad 0)), (2, .ref (bd 0)), (3, .ref qo), (4, .int v4)]) C d_L_law_727 rfl (by decide) rfl ?_
      refine j_aload_n C 3 d_L_law_729 rfl rfl rfl ?_
      refine j_aload_n C 1 d_L_law_730 rfl rfl rfl ?_
      refine j_iload C 5 d_L_law_731 rfl rfl ?_
      refine j_iconst (v := 1) C d_L_law_733 rfl (by decide) ?_
      refine j_iadd C d_L_law_734 rfl ?_
      refine j_sld C hX hbl hbA d_L_law_735 rfl h (fun r133 h => ?_)
      obtain ⟨r135, μ136, h134, h⟩ := mb2_some h
      refine j_callV C hR (As := [.int r133]) (ct_M_explained (jl x) (jD x) (jT x) hT r133 μ h134) kf_M_explained (by decide) tw_739 tw_740 tw_741 18 rfl rfl (rest := []) rfl rfl (Nat.le_of_ble_eq_true rfl) (lf1 hkc hks) ⟨rfl, rfl⟩ d_L_law_736 rfl (st1 := [.int r135]) rfl ?_
      refine j_istore (lv' := [(6, .int r135), (5, .int k130), (0, .ref b), (1, .ref (ad 0)), (2, .ref (bd 0)), (3, .ref qo), (4, .int v4)]) C d_L_law_739 rfl (by decide) rfl ?_
      refine j_aload_n C 4 d_L_law_741 rfl rfl rfl ?_
      obtain ⟨r138, h137, h⟩ := mb1_some h
      refine j_callV C hR (As := []) (ct_M_thrown (jl x) (jD x) (jT x) hT μ136 h137) kf_M_thrown (by decide) tw_630 tw_631 tw_632 18 rfl rfl (rest := []) rfl rfl (Nat.le_of_ble_eq_true rfl) (lf1 hkc hks) ⟨rfl, rfl⟩ d_L_law_742 rfl (st1 := [.int r138]) rfl ?_
      refine j_iload C 1 d_L_law_745 rfl rfl ?_
      refine j_icmp_eq (tgt := 752) C d_L_law_747 (by decide) rfl h (fun h => ?_) (fun h => ?_)
      · refine j_iload C 1 d_L_law_752 rfl rfl ?_
        refine j_if_ne (tgt := 769) C d_L_law_754 (by decide) rfl h (fun h => ?_) (fun h => ?_)
        · refine j_goto (tgt := 889) C d_L_law_769 (by decide) ?_
          refine j_iinc (v' := (v4 + 5)) (lv' := [(4, .int (v4 + 5)), (6, .int r135), (5, .int k130), (0, .ref b), (1, .ref (ad 0)), (2, .ref (bd 0)), (3, .ref qo)]) C 6 d_L_law_889 rfl rfl rfl (by decide) rfl ?_
          refine j_goto (tgt := 23) C d_L_law_892 (by decide) ?_
          cases h
          refine j_sub [3, 4, 5, 6, 0] rfl (j_wide (by first | exact Nat.le_refl _ | exact Nat.le_succ _) (by first | exact Nat.le_refl _ | exact Nat.le_add_right _ 6) (kc1 _ _ _ _ rfl))
        · refine j_aload_n C 5 d_L_law_757 rfl rfl rfl ?_
          refine j_iconst (v := 0) C d_L_law_758 rfl (by decide) ?_
          refine j_lald C 34 1 rfl hTL d_L_law_759 rfl h (fun l139 h => ?_)
          refine j_iload C 0 d_L_law_760 rfl rfl ?_
          refine j_i2l C d_L_law_762 rfl ?_
          refine j_lcmp C d_L_law_763 rfl ?_
          refine j_if_eq (tgt := 769) C d_L_law_764 (by decide) rfl h (fun h => ?_) (fun h => ?_)
          · refine j_goto (tgt := 889) C d_L_law_769 (by decide) ?_
            refine j_iinc (v' := (v4 + 5)) (lv' := [(4, .int (v4 + 5)), (6, .int r135), (5, .int k130), (0, .ref b), (1, .ref (ad 0)), (2, .ref (bd 0)), (3, .ref qo)]) C 6 d_L_law_889 rfl rfl rfl (by decide) rfl ?_
            refine j_goto (tgt := 23) C d_L_law_892 (by decide) ?_
            cases h
            refine j_sub [3, 4, 5, 6, 0] rfl (j_wide (by first | exact Nat.le_refl _ | exact Nat.le_succ _) (by first | exact Nat.le_refl _ | exact Nat.le_add_right _ 6) (kc1 _ _ _ _ rfl))
          · cases h
            exact absurd rfl hno
      · cases h
        exact absurd rfl hno
    refine j_tsw (k := 10) (tgt := 772) C d_L_law_39 (by decide) (by decide) rfl (by decide) h (fun h => ?_) (fun n10 h => ?_)
    · refine j_aload_n C 1 d_L_law_772 rfl rfl rfl ?_
      refine j_aload_n C 0 d_L_law_773 rfl rfl rfl ?_
      refine j_iload C 4 d_L_law_774 rfl rfl ?_
      refine j_iconst (v := 1) C d_L_law_776 rfl (by decide) ?_
      refine j_iadd C d_L_law_777 rfl ?_
      refine j_sld C hX hbl hbA d_L_law_778 rfl h (fun r140 h => ?_)
      refine j_aload_n C 0 d_L_law_779 rfl rfl rfl ?_
      refine j_iload C 4 d_L_law_780 rfl rfl ?_
      refine j_iconst (v := 2) C d_L_law_782 rfl (by decide) ?_
      refine j_iadd C d_L_law_783 rfl ?_
      refine j_sld C hX hbl hbA d_L_law_784 rfl h (fun r141 h => ?_)
      refine j_aload_n C 3 d_L_law_785 rfl rfl rfl ?_
      obtain ⟨k143, σ144, f145, h142, h⟩ := mb3_some h
      refine jl_callS C Y hR (As := [.ref (ad 0), .int r140, .int r141, .ref qo]) (ct_L_told (jl x) (jD x) (jT x) hT hTL Y.1 r140 r141 σ f h142) kf_L_told (by decide) tw_537 tw_538 (rest := []) rfl rfl (Nat.le_of_ble_eq_true rfl) (lf1 hkc hks) d_L_law_786 rfl (st1 := [.int k143]) rfl ?_
      refine j_istore (lv' := [(5, .int k143), (0, .ref b), (1, .ref (ad 0)), (2, .ref (bd 0)), (3, .ref qo), (4, .int v4)]) C d_L_law_789 rfl (by decide) rfl ?_
      refine j_aload_n C 3 d_L_law_791 rfl rfl rfl ?_
      refine j_aload_n C 1 d_L_law_792 rfl rfl rfl ?_
      refine j_iload C 5 d_L_law_793 rfl rfl ?_
      refine j_iconst (v := 1) C d_L_law_795 rfl (by decide) ?_
      refine j_iadd C d_L_law_796 rfl ?_
      refine j_sld C hX hbl hbA d_L_law_797 rfl h (fun r146 h => ?_)
      refine j_aload_n C 1 d_L_law_798 rfl rfl rfl ?_
      refine j_iload C 5 d_L_law_799 rfl rfl ?_
      refine j_iconst (v := 2) C d_L_law_801 rfl (by decide) ?_
      refine j_iadd C d_L_law_802 rfl ?_
      refine j_sld C hX hbl hbA d_L_law_803 rfl h (fun r147 h => ?_)
      obtain ⟨r149, μ150, h148, h⟩ := mb2_some h
      refine j_callV C hR (As := [.int r146, .int r147]) (ct_M_told (jl x) (jD x) (jT x) hT r146 r147 μ h148) kf_M_told (by decide) tw_743 tw_744 tw_745 18 rfl rfl (rest := []) rfl rfl (Nat.le_of_ble_eq_true rfl) (lf1 hkc hks) ⟨rfl, rfl⟩ d_L_law_804 rfl (st1 := [.int r149]) rfl ?_
      refine j_istore (lv' := [(6, .int r149), (5, .int k143), (0, .ref b), (1, .ref (ad 0)), (2, .ref (bd 0)), (3, .ref qo), (4, .int v4)]) C d_L_law_807 rfl (by decide) rfl ?_
      refine j_aload_n C 4 d_L_law_809 rfl rfl rfl ?_
      obtain ⟨r152, h151, h⟩ := mb1_some h
      refine j_callV C hR (As := []) (ct_M_thrown (jl x) (jD x) (jT x) hT μ150 h151) kf_M_thrown (by decide) tw_630 tw_631 tw_632 18 rfl rfl (rest := []) rfl rfl (Nat.le_of_ble_eq_true rfl) (lf1 hkc hks) ⟨rfl, rfl⟩ d_L_law_810 rfl (st1 := [.int r152]) rfl ?_
      refine j_iload C 1 d_L_law_813 rfl rfl ?_
      refine j_icmp_eq (tgt := 820) C d_L_law_815 (by decide) rfl h (fun h => ?_) (fun h => ?_)
      · refine j_iload C 1 d_L_law_820 rfl rfl ?_
        refine j_if_ne (tgt := 837) C d_L_law_822 (by decide) rfl h (fun h => ?_) (fun h => ?_)
        · refine j_goto (tgt := 889) C d_L_law_837 (by decide) ?_
          refine j_iinc (v' := (v4 + 5)) (lv' := [(4, .int (v4 + 5)), (6, .int r149), (5, .int k143), (0, .ref b), (1, .ref (ad 0)), (2, .ref (bd 0)), (3, .ref qo)]) C 6 d_L_law_889 rfl rfl rfl (by decide) rfl ?_
          refine j_goto (tgt := 23) C d_L_law_892 (by decide) ?_
          cases h
          refine j_sub [3, 4, 5, 6, 0] rfl (j_wide (by first | exact Nat.le_refl _ | exact Nat.le_succ _) (by first | exact Nat.le_refl _ | exact Nat.le_add_right _ 6) (kc1 _ _ _ _ rfl))
        · refine j_aload_n C 5 d_L_law_825 rfl rfl rfl ?_
          refine j_iconst (v := 0) C d_L_law_826 rfl (by decide) ?_
          refine j_lald C 34 1 rfl hTL d_L_law_827 rfl h (fun l153 h => ?_)
          refine j_iload C 0 d_L_law_828 rfl rfl ?_
          refine j_i2l C d_L_law_830 rfl ?_
          refine j_lcmp C d_L_law_831 rfl ?_
          refine j_if_eq (tgt := 837) C d_L_law_832 (by decide) rfl h (fun h => ?_) (fun h => ?_)
          · refine j_goto (tgt := 889) C d_L_law_837 (by decide) ?_
            refine j_iinc (v' := (v4 + 5)) (lv' := [(4, .int (v4 + 5)), (6, .int r149), (5, .int k143), (0, .ref b), (1, .ref (ad 0)), (2, .ref (bd 0)), (3, .ref qo)]) C 6 d_L_law_889 rfl rfl rfl (by decide) rfl ?_
            refine j_goto (tgt := 23) C d_L_law_892 (by decide) ?_
            cases h
            refine j_sub [3, 4, 5, 6, 0] rfl (j_wide (by first | exact Nat.le_refl _ | exact Nat.le_succ _) (by first | exact Nat.le_refl _ | exact Nat.le_add_right _ 6) (kc1 _ _ _ _ rfl))
          · cases h
            exact absurd rfl hno
      · cases h
        exact absurd rfl hno
    refine j_tsw (k := 11) (tgt := 840) C d_L_law_39 (by decide) (by decide) rfl (by decide) h (fun h => ?_) (fun n11 h => ?_)
    · refine j_aload_n C 1 d_L_law_840 rfl rfl rfl ?_
      obtain ⟨k155, σ156, h154, h⟩ := mb2_some h
      refine jl_callS C Y hR (As := [.ref (ad 0)]) (ct_L_back (jl x) (jD x) (jT x) hT hTL Y.1 σ h154) kf_L_back (by decide) tw_545 tw_546 (rest := []) rfl rfl (Nat.le_of_ble_eq_true rfl) (lf1 hkc hks) d_L_law_841 rfl (st1 := [.int k155]) rfl ?_
      refine j_istore (lv' := [(5, .int k155), (0, .ref b), (1, .ref (ad 0)), (2, .ref (bd 0)), (3, .ref qo), (4, .int v4)]) C d_L_law_844 rfl (by decide) rfl ?_
      refine j_aload_n C 3 d_L_law_846 rfl rfl rfl ?_
      obtain ⟨μ158, h157, h⟩ := mb1_some h
      refine j_callV C hR (As := []) (ct_M_back (jl x) (jD x) (jT x) hT μ h157) kf_M_back (by decide) tw_674 tw_675 tw_676 18 rfl rfl (rest := []) rfl rfl (Nat.le_of_ble_eq_true rfl) (lf1 hkc hks) ⟨rfl, rfl⟩ d_L_law_847 rfl (st1 := []) rfl ?_
      refine j_aload_n C 3 d_L_law_850 rfl rfl rfl ?_
      obtain ⟨r160, h159, h⟩ := mb1_some h
      refine j_callV C hR (As := []) (ct_M_thrown (jl x) (jD x) (jT x) hT μ158 h159) kf_M_thrown (by decide) tw_630 tw_631 tw_632 18 rfl rfl (rest := []) rfl rfl (Nat.le_of_ble_eq_true rfl) (lf1 hkc hks) ⟨rfl, rfl⟩ d_L_law_851 rfl (st1 := [.int r160]) rfl ?_
      refine j_iload C 0 d_L_law_854 rfl rfl ?_
      refine j_icmp_eq (tgt := 861) C d_L_law_856 (by decide) rfl h (fun h => ?_) (fun h => ?_)
      · refine j_goto (tgt := 889) C d_L_law_861 (by decide) ?_
        refine j_iinc (v' := (v4 + 5)) (lv' := [(4, .int (v4 + 5)), (5, .int k155), (0, .ref b), (1, .ref (ad 0)), (2, .ref (bd 0)), (3, .ref qo)]) C 5 d_L_law_889 rfl rfl rfl (by decide) rfl ?_
        refine j_goto (tgt := 23) C d_L_law_892 (by decide) ?_
        cases h
        refine j_sub [2, 3, 4, 5, 0] rfl (j_wide (by first | exact Nat.le_refl _ | exact Nat.le_succ _) (by first | exact Nat.le_refl _ | exact Nat.le_add_right _ 6) (kc1 _ _ _ _ rfl))
      · cases h
        exact absurd rfl hno
    refine j_tsw (k := 12) (tgt := 864) C d_L_law_39 (by decide) (by decide) rfl (by decide) h (fun h => ?_) (fun n12 h => ?_)
    · refine j_aload_n C 1 d_L_law_864 rfl rfl rfl ?_
      refine j_aload_n C 0 d_L_law_865 rfl rfl rfl ?_
      refine j_iload C 4 d_L_law_866 rfl rfl ?_
      refine j_iconst (v := 1) C d_L_law_868 rfl (by decide) ?_
      refine j_iadd C d_L_law_869 rfl ?_
      refine j_sld C hX hbl hbA d_L_law_870 rfl h (fun r161 h => ?_)
      obtain ⟨r163, σ164, h162, h⟩ := mb2_some h
      refine j_callV C hR (As := [.int r161]) (ct_P_count (jl x) (jD x) (jT x) hT r161 σ h162) kf_P_count (by decide) tw_162 tw_163 tw_164 0 rfl rfl (rest := []) rfl rfl (Nat.le_of_ble_eq_true rfl) (lf0 hkc hks) ⟨rfl, rfl⟩ d_L_law_871 rfl (st1 := [.int r163]) rfl ?_
      refine j_aload_n C 2 d_L_law_874 rfl rfl rfl ?_
      refine j_aload_n C 0 d_L_law_875 rfl rfl rfl ?_
      refine j_iload C 4 d_L_law_876 rfl rfl ?_
      refine j_iconst (v := 1) C d_L_law_878 rfl (by decide) ?_
      refine j_iadd C d_L_law_879 rfl ?_
      refine j_sld C hX hbl hbA d_L_law_880 rfl h (fun r165 h => ?_)
      obtain ⟨r167, μ168, h166, h⟩ := mb2_some h
      refine j_callV C hR (As := [.int r165]) (ct_M_count (jl x) (jD x) (jT x) hT r165 μ h166) kf_M_count (by decide) tw_747 tw_748 tw_749 18 rfl rfl (rest := [.int r163]) rfl rfl (Nat.le_of_ble_eq_true rfl) (lf0 hkc hks) ⟨rfl, rfl⟩ d_L_law_881 rfl (st1 := [.int r167, .int r163]) rfl ?_
      refine j_icmp_eq (tgt := 889) C d_L_law_884 (by decide) rfl h (fun h => ?_) (fun h => ?_)
      · refine j_iinc (v' := (v4 + 5)) (lv' := [(4, .int (v4 + 5)), (0, .ref b), (1, .ref (ad 0)), (2, .ref (bd 0)), (3, .ref qo)]) C 4 d_L_law_889 rfl rfl rfl (by decide) rfl ?_
        refine j_goto (tgt := 23) C d_L_law_892 (by decide) ?_
        cases h
        refine j_sub [1, 2, 3, 4, 0] rfl (j_wide (by first | exact Nat.le_refl _ | exact Nat.le_succ _) (by first | exact Nat.le_refl _ | exact Nat.le_add_right _ 6) (kc1 _ _ _ _ rfl))
      · cases h
        exact absurd rfl hno
    refine j_tswD (tgt := 889) C d_L_law_39 (by have q0 := tiNe (z := 0) (by decide) n0; have q1 := tiNe (z := 1) (by decide) n1; have q2 := tiNe (z := 2) (by decide) n2; have q3 := tiNe (z := 3) (by decide) n3; have q4 := tiNe (z := 4) (by decide) n4; have q5 := tiNe (z := 5) (by decide) n5; have q6 := tiNe (z := 6) (by decide) n6; have q7 := tiNe (z := 7) (by decide) n7; have q8 := tiNe (z := 8) (by decide) n8; have q9 := tiNe (z := 9) (by decide) n9; have q10 := tiNe (z := 10) (by decide) n10; have q11 := tiNe (z := 11) (by decide) n11; have q12 := tiNe (z := 12) (by decide) n12; omega) (by decide) ?_
    refine j_iinc (v' := (v4 + 5)) (lv' := [(4, .int (v4 + 5)), (0, .ref b), (1, .ref (ad 0)), (2, .ref (bd 0)), (3, .ref qo)]) C 4 d_L_law_889 rfl rfl rfl (by decide) rfl ?_
    refine j_goto (tgt := 23) C d_L_law_892 (by decide) ?_
    cases h
    refine j_sub [1, 2, 3, 4, 0] rfl (j_wide (by first | exact Nat.le_refl _ | exact Nat.le_succ _) (by first | exact Nat.le_refl _ | exact Nat.le_add_right _ 6) (kc1 _ _ _ _ rfl))
theorem wl_law {x : JX} {ad bd : Nat → Nat} {cA cL : ClassId} {qo b L : Nat} {xs : Nat → Int32} (C : jC x code 7 "PlainWarehouseLaw") (hT : (jT x)[0]? = some (cA, .int)) (hTL : (jT x)[1]? = some (cL, .long)) (hR : jR x = room_1) (Y : jYL x) (hX : va_X b L xs (js x) (js x).heap) (hbl : b < (js x).heap.size) (hbA : ¬ jA x b) (hend : ∀ (kc ks : Nat) (v4 : Int32) (σ : SP) (μ : SM) (f : Nat → Int64), kc ≤ 601024 → ks ≤ 7293034 → jW x 7 kc ks 895 [(0, .ref b), (1, .ref (ad 0)), (2, .ref (bd 0)), (3, .ref qo), (4, .int v4)] [] ((wP ad cA σ) ++ ((wM bd cA μ) ++ [(qo, .inl (cL, 1, .inr (.inl f)))]))) : ∀ (n kc ks : Nat) (v4 : Int32) (σ : SP) (μ : SM) (f : Nat → Int64), lp (fun s : SL => b_law L xs s.1 s.2.1 s.2.2.1 s.2.2.2) n (v4, σ, μ, f) = some true → kc + n ≤ 601024 → ks + 6 * n ≤ 7293034 → jW x 7 kc ks 23 [(0, .ref b), (1, .ref (ad 0)), (2, .ref (bd 0)), (3, .ref qo), (4, .int v4)] [] ((wP ad cA σ) ++ ((wM bd cA μ) ++ [(qo, .inl (cL, 1, .inr (.inl f)))])) := by
  intro n
  induction n with
  | zero => intro kc ks v4 σ μ f h; cases h
  | succ n ih =>
    intro kc ks v4 σ μ f h hk hs
    unfold lp at h
    dsimp only at h
    cases hb : b_law L xs v4 σ μ f with
    | none => rw [hb] at h; cases h
    | some o =>
      rw [hb] at h
      refine wb_law C hT hTL hR Y hX hbl hbA (by omega) (by omega) v4 σ μ f hb ?_ ?_ ?_
      · intro e; subst e; cases h
      · intro u4 τ ν g e
        subst e
        exact ih (kc + 1) (ks + 6) u4 τ ν g h (by omega) (by omega)
      · intro e
        exact hend kc ks v4 σ μ f (by omega) (by omega)
