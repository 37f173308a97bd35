set_option maxRecDepth 100000 in
theorem tw_68 : Cond.methodLink "PlainWarehouse" (1 : Nat) ({ cls := "java/lang/Object", name := "<init>", desc := "()V" } : MethodName) ∈ WS := ws_in 68 rfl rfl
set_option maxRecDepth 100000 in
theorem tw_69 : Cond.instanceMethod ({ cls := "java/lang/Object", name := "<init>", desc := "()V" } : MethodName) ∈ WS := ws_in 69 rfl rfl
set_option maxRecDepth 100000 in
theorem tw_70 : Cond.code ({ cls := "java/lang/Object", name := "<init>", desc := "()V" } : MethodName) object_method_1_code (1 : Nat) (Option.none : Option FieldType) ∈ WS := ws_in 70 rfl rfl
set_option maxRecDepth 100000 in
theorem tw_71 : Cond.classLink "PlainWarehouse" (20 : Nat) "PlainWarehouse$House" ∈ WS := ws_in 71 rfl rfl
set_option maxRecDepth 100000 in
theorem tw_72 : Cond.instantiable "PlainWarehouse$House" (8 : Nat) ∈ WS := ws_in 72 rfl rfl
set_option maxRecDepth 100000 in
theorem tw_73 : Cond.methodLinkNest "PlainWarehouse" (22 : Nat) ({ cls := "PlainWarehouse$House", name := "<init>", desc := "()V" } : MethodName) "PlainWarehouse" ∈ NWS := nws_in 73 rfl rfl
set_option maxRecDepth 100000 in
theorem tw_74 : Cond.instanceMethod ({ cls := "PlainWarehouse$House", name := "<init>", desc := "()V" } : MethodName) ∈ WS := ws_in 74 rfl rfl
set_option maxRecDepth 100000 in
theorem tw_76 : Cond.methodLink "PlainWarehouse$House" (3 : Nat) ({ cls := "java/lang/Object", name := "<init>", desc := "()V" } : MethodName) ∈ WS := ws_in 76 rfl rfl
set_option maxRecDepth 100000 in
theorem tw_110 : Cond.arrayClass FieldType.int ∈ WS := ws_in 110 rfl rfl
set_option maxRecDepth 100000 in
theorem tw_111 : Cond.classLink "PlainWarehouse" (27 : Nat) "PlainWarehouse$Fillings" ∈ WS := ws_in 111 rfl rfl
set_option maxRecDepth 100000 in
theorem tw_112 : Cond.instantiable "PlainWarehouse$Fillings" (5 : Nat) ∈ WS := ws_in 112 rfl rfl
set_option maxRecDepth 100000 in
theorem tw_113 : Cond.methodLinkNest "PlainWarehouse" (29 : Nat) ({ cls := "PlainWarehouse$Fillings", name := "<init>", desc := "()V" } : MethodName) "PlainWarehouse" ∈ NWS := nws_in 113 rfl rfl
set_option maxRecDepth 100000 in
theorem tw_114 : Cond.instanceMethod ({ cls := "PlainWarehouse$Fillings", name := "<init>", desc := "()V" } : MethodName) ∈ WS := ws_in 114 rfl rfl
set_option maxRecDepth 100000 in
theorem tw_116 : Cond.methodLink "PlainWarehouse$Fillings" (3 : Nat) ({ cls := "java/lang/Object", name := "<init>", desc := "()V" } : MethodName) ∈ WS := ws_in 116 rfl rfl
set_option maxRecDepth 100000 in
theorem tw_133 : Cond.classLink "PlainWarehouse" (34 : Nat) "PlainWarehouse$Ways" ∈ WS := ws_in 133 rfl rfl
set_option maxRecDepth 100000 in
theorem tw_134 : Cond.instantiable "PlainWarehouse$Ways" (1 : Nat) ∈ WS := ws_in 134 rfl rfl
set_option maxRecDepth 100000 in
theorem tw_135 : Cond.methodLinkNest "PlainWarehouse" (36 : Nat) ({ cls := "PlainWarehouse$Ways", name := "<init>", desc := "()V" } : MethodName) "PlainWarehouse" ∈ NWS := nws_in 135 rfl rfl
set_option maxRecDepth 100000 in
theorem tw_136 : Cond.instanceMethod ({ cls := "PlainWarehouse$Ways", name := "<init>", desc := "()V" } : MethodName) ∈ WS := ws_in 136 rfl rfl
set_option maxRecDepth 100000 in
theorem tw_138 : Cond.methodLink "PlainWarehouse$Ways" (3 : Nat) ({ cls := "java/lang/Object", name := "<init>", desc := "()V" } : MethodName) ∈ WS := ws_in 138 rfl rfl
def rm_H_init : Room := { frames := 1, cells := 8, slots := 194, locals := 20 }
set_option maxHeartbeats 4000000 in
set_option maxRecDepth 100000 in
theorem ct_H_init (l : Launch) (D : va_G) (tys : List (ClassId × FieldType)) {cA : ClassId} (hT0 : tys[0]? = some (cA, .int)) (pre : va_W) (h : Nat) : jMc l y_H_init ws_H_init rm_H_init D tys [.ref h] (pre ++ [(h, .inr (1, [.null, .null, .null, .null, .null, .null, .null, .null]))]) (fun w1 => ∃ q1 q2 q3 q4 q5 q6 q7 q8 : Nat, w1 = pre ++ [(h, .inr (1, [.ref q1, .ref q2, .ref q3, .ref q4, .ref q5, .ref q6, .ref q7, .ref q8])), (q1, .inl (cA, 20, .inl (fun _ => 0))), (q2, .inl (cA, 20, .inl (fun _ => 0))), (q3, .inl (cA, 20, .inl (fun _ => 0))), (q4, .inl (cA, 10, .inl (fun _ => 0))), (q5, .inl (cA, 10, .inl (fun _ => 0))), (q6, .inl (cA, 10, .inl (fun _ => 0))), (q7, .inl (cA, 4, .inl (fun _ => 0))), (q8, .inl (cA, 100, .inl (fun _ => 0)))]) := by
  refine jc_of (lv := [(0, .ref h)]) (by decide +kernel) rfl (Nat.le_of_ble_eq_true rfl) rfl (fun x _ _ hT' hR C hr hin E => ?_)
  have hT : (jT x)[0]? = some (cA, .int) := by rw [hT']; exact hT0
  refine j_aload_n C 0 d_H_init_0 rfl rfl rfl ?_
  refine j_objInit C hR tw_76 tw_69 tw_70 (by decide) (Nat.le_of_ble_eq_true rfl) d_H_init_1 rfl ?_
  refine j_aload_n C 0 d_H_init_4 rfl rfl rfl ?_
  refine j_bipush (v := 20) C d_H_init_5 rfl (by decide) ?_
  refine j_newa C hR hT tw_110 (N := 20) (by decide) (by decide) (by decide) (by decide) (by decide) d_H_init_7 rfl (fun q1 => ?_)
  refine j_w (w' := pre ++ [(h, .inr (1, [.null, .null, .null, .null, .null, .null, .null, .null])), (q1, .inl (cA, 20, .inl (fun _ => 0)))]) (by rw [List.append_assoc]; rfl) ?_
  refine j_putF C hin in_H ty_H_ok nm_H (pre.length + 0) ((getA _ _ 0).trans rfl) rfl 0 (by decide) tw_77 rfl rfl rfl rfl rfl (Nat.le_of_ble_eq_true rfl) d_H_init_9 rfl (w' := pre ++ [(h, .inr (1, [.ref q1, .null, .null, .null, .null, .null, .null, .null])), (q1, .inl (cA, 20, .inl (fun _ => 0)))]) ((setA _ _ 0 _).trans rfl) ?_
  refine j_aload_n C 0 d_H_init_12 rfl rfl rfl ?_
  refine j_bipush (v := 20) C d_H_init_13 rfl (by decide) ?_
  refine j_newa C hR hT tw_110 (N := 20) (by decide) (by decide) (by decide) (by decide) (by decide) d_H_init_15 rfl (fun q2 => ?_)
  refine j_w (w' := pre ++ [(h, .inr (1, [.ref q1, .null, .null, .null, .null, .null, .null, .null])), (q1, .inl (cA, 20, .inl (fun _ => 0))), (q2, .inl (cA, 20, .inl (fun _ => 0)))]) (by rw [List.append_assoc]; rfl) ?_
  refine j_putF C hin in_H ty_H_ok nm_H (pre.length + 0) ((getA _ _ 0).trans rfl) rfl 1 (by decide) tw_79 rfl rfl rfl rfl rfl (Nat.le_of_ble_eq_true rfl) d_H_init_17 rfl (w' := pre ++ [(h, .inr (1, [.ref q1, .ref q2, .null, .null, .null, .null, .null, .null])), (q1, .inl (cA, 20, .inl (fun _ => 0))), (q2, .inl (cA, 20, .inl (fun _ => 0)))]) ((setA _ _ 0 _).trans rfl) ?_
  refine j_aload_n C 0 d_H_init_20 rfl rfl rfl ?_
  refine j_bipush (v := 20) C d_H_init_21 rfl (by decide) ?_
  refine j_newa C hR hT tw_110 (N := 20) (by decide) (by decide) (by decide) (by decide) (by decide) d_H_init_23 rfl (fun q3 => ?_)
  refine j_w (w' := pre ++ [(h, .inr (1, [.ref q1, .ref q2, .null, .null, .null, .null, .null, .null])), (q1, .inl (cA, 20, .inl (fun _ => 0))), (q2, .inl (cA, 20, .inl (fun _ => 0))), (q3, .inl (cA, 20, .inl (fun _ => 0)))]) (by rw [List.append_assoc]; rfl) ?_
  refine j_putF C hin in_H ty_H_ok nm_H (pre.length + 0) ((getA _ _ 0).trans rfl) rfl 2 (by decide) tw_80 rfl rfl rfl rfl rfl (Nat.le_of_ble_eq_true rfl) d_H_init_25 rfl (w' := pre ++ [(h, .inr (1, [.ref q1, .ref q2, .ref q3, .null, .null, .null, .null, .null])), (q1, .inl (cA, 20, .inl (fun _ => 0))), (q2, .inl (cA, 20, .inl (fun _ => 0))), (q3, .inl (cA, 20, .inl (fun _ => 0)))]) ((setA _ _ 0 _).trans rfl) ?_
  refine j_aload_n C 0 d_H_init_28 rfl rfl rfl ?_
  refine j_bipush (v := 10) C d_H_init_29 rfl (by decide) ?_
  refine j_newa C hR hT tw_110 (N := 10) (by decide) (by decide) (by decide) (by decide) (by decide) d_H_init_31 rfl (fun q4 => ?_)
  refine j_w (w' := pre ++ [(h, .inr (1, [.ref q1, .ref q2, .ref q3, .null, .null, .null, .null, .null])), (q1, .inl (cA, 20, .inl (fun _ => 0))), (q2, .inl (cA, 20, .inl (fun _ => 0))), (q3, .inl (cA, 20, .inl (fun _ => 0))), (q4, .inl (cA, 10, .inl (fun _ => 0)))]) (by rw [List.append_assoc]; rfl) ?_
  refine j_putF C hin in_H ty_H_ok nm_H (pre.length + 0) ((getA _ _ 0).trans rfl) rfl 3 (by decide) tw_81 rfl rfl rfl rfl rfl (Nat.le_of_ble_eq_true rfl) d_H_init_33 rfl (w' := pre ++ [(h, .inr (1, [.ref q1, .ref q2, .ref q3, .ref q4, .null, .null, .null, .null])), (q1, .inl (cA, 20, .inl (fun _ => 0))), (q2, .inl (cA, 20, .inl (fun _ => 0))), (q3, .inl (cA, 20, .inl (fun _ => 0))), (q4, .inl (cA, 10, .inl (fun _ => 0)))]) ((setA _ _ 0 _).trans rfl) ?_
  refine j_aload_n C 0 d_H_init_36 rfl rfl rfl ?_
  refine j_bipush (v := 10) C d_H_init_37 rfl (by decide) ?_
  refine j_newa C hR hT tw_110 (N := 10) (by decide) (by decide) (by decide) (by decide) (by decide) d_H_init_39 rfl (fun q5 => ?_)
  refine j_w (w' := pre ++ [(h, .inr (1, [.ref q1, .ref q2, .ref q3, .ref q4, .null, .null, .null, .null])), (q1, .inl (cA, 20, .inl (fun _ => 0))), (q2, .inl (cA, 20, .inl (fun _ => 0))), (q3, .inl (cA, 20, .inl (fun _ => 0))), (q4, .inl (cA, 10, .inl (fun _ => 0))), (q5, .inl (cA, 10, .inl (fun _ => 0)))]) (by rw [List.append_assoc]; rfl) ?_
  refine j_putF C hin in_H ty_H_ok nm_H (pre.length + 0) ((getA _ _ 0).trans rfl) rfl 4 (by decide) tw_83 rfl rfl rfl rfl rfl (Nat.le_of_ble_eq_true rfl) d_H_init_41 rfl (w' := pre ++ [(h, .inr (1, [.ref q1, .ref q2, .ref q3, .ref q4, .ref q5, .null, .null, .null])), (q1, .inl (cA, 20, .inl (fun _ => 0))), (q2, .inl (cA, 20, .inl (fun _ => 0))), (q3, .inl (cA, 20, .inl (fun _ => 0))), (q4, .inl (cA, 10, .inl (fun _ => 0))), (q5, .inl (cA, 10, .inl (fun _ => 0)))]) ((setA _ _ 0 _).trans rfl) ?_
  refine j_aload_n C 0 d_H_init_44 rfl rfl rfl ?_
  refine j_bipush (v := 10) C d_H_init_45 rfl (by decide) ?_
  refine j_newa C hR hT tw_110 (N := 10) (by decide) (by decide) (by decide) (by decide) (by decide) d_H_init_47 rfl (fun q6 => ?_)
  refine j_w (w' := pre ++ [(h, .inr (1, [.ref q1, .ref q2, .ref q3, .ref q4, .ref q5, .null, .null, .null])), (q1, .inl (cA, 20, .inl (fun _ => 0))), (q2, .inl (cA, 20, .inl (fun _ => 0))), (q3, .inl (cA, 20, .inl (fun _ => 0))), (q4, .inl (cA, 10, .inl (fun _ => 0))), (q5, .inl (cA, 10, .inl (fun _ => 0))), (q6, .inl (cA, 10, .inl (fun _ => 0)))]) (by rw [List.append_assoc]; rfl) ?_
  refine j_putF C hin in_H ty_H_ok nm_H (pre.length + 0) ((getA _ _ 0).trans rfl) rfl 5 (by decide) tw_86 rfl rfl rfl rfl rfl (Nat.le_of_ble_eq_true rfl) d_H_init_49 rfl (w' := pre ++ [(h, .inr (1, [.ref q1, .ref q2, .ref q3, .ref q4, .ref q5, .ref q6, .null, .null])), (q1, .inl (cA, 20, .inl (fun _ => 0))), (q2, .inl (cA, 20, .inl (fun _ => 0))), (q3, .inl (cA, 20, .inl (fun _ => 0))), (q4, .inl (cA, 10, .inl (fun _ => 0))), (q5, .inl (cA, 10, .inl (fun _ => 0))), (q6, .inl (cA, 10, .inl (fun _ => 0)))]) ((setA _ _ 0 _).trans rfl) ?_
  refine j_aload_n C 0 d_H_init_52 rfl rfl rfl ?_
  refine j_iconst (v := 4) C d_H_init_53 rfl (by decide) ?_
  refine j_newa C hR hT tw_110 (N := 4) (by decide) (by decide) (by decide) (by decide) (by decide) d_H_init_54 rfl (fun q7 => ?_)
  refine j_w (w' := pre ++ [(h, .inr (1, [.ref q1, .ref q2, .ref q3, .ref q4, .ref q5, .ref q6, .null, .null])), (q1, .inl (cA, 20, .inl (fun _ => 0))), (q2, .inl (cA, 20, .inl (fun _ => 0))), (q3, .inl (cA, 20, .inl (fun _ => 0))), (q4, .inl (cA, 10, .inl (fun _ => 0))), (q5, .inl (cA, 10, .inl (fun _ => 0))), (q6, .inl (cA, 10, .inl (fun _ => 0))), (q7, .inl (cA, 4, .inl (fun _ => 0)))]) (by rw [List.append_assoc]; rfl) ?_
  refine j_putF C hin in_H ty_H_ok nm_H (pre.length + 0) ((getA _ _ 0).trans rfl) rfl 6 (by decide) tw_89 rfl rfl rfl rfl rfl (Nat.le_of_ble_eq_true rfl) d_H_init_56 rfl (w' := pre ++ [(h, .inr (1, [.ref q1, .ref q2, .ref q3, .ref q4, .ref q5, .ref q6, .ref q7, .null])), (q1, .inl (cA, 20, .inl (fun _ => 0))), (q2, .inl (cA, 20, .inl (fun _ => 0))), (q3, .inl (cA, 20, .inl (fun _ => 0))), (q4, .inl (cA, 10, .inl (fun _ => 0))), (q5, .inl (cA, 10, .inl (fun _ => 0))), (q6, .inl (cA, 10, .inl (fun _ => 0))), (q7, .inl (cA, 4, .inl (fun _ => 0)))]) ((setA _ _ 0 _).trans rfl) ?_
  refine j_aload_n C 0 d_H_init_59 rfl rfl rfl ?_
  refine j_bipush (v := 100) C d_H_init_60 rfl (by decide) ?_
  refine j_newa C hR hT tw_110 (N := 100) (by decide) (by decide) (by decide) (by decide) (by decide) d_H_init_62 rfl (fun q8 => ?_)
  refine j_w (w' := pre ++ [(h, .inr (1, [.ref q1, .ref q2, .ref q3, .ref q4, .ref q5, .ref q6, .ref q7, .null])), (q1, .inl (cA, 20, .inl (fun _ => 0))), (q2, .inl (cA, 20, .inl (fun _ => 0))), (q3, .inl (cA, 20, .inl (fun _ => 0))), (q4, .inl (cA, 10, .inl (fun _ => 0))), (q5, .inl (cA, 10, .inl (fun _ => 0))), (q6, .inl (cA, 10, .inl (fun _ => 0))), (q7, .inl (cA, 4, .inl (fun _ => 0))), (q8, .inl (cA, 100, .inl (fun _ => 0)))]) (by rw [List.append_assoc]; rfl) ?_
  refine j_putF C hin in_H ty_H_ok nm_H (pre.length + 0) ((getA _ _ 0).trans rfl) rfl 7 (by decide) tw_91 rfl rfl rfl rfl rfl (Nat.le_of_ble_eq_true rfl) d_H_init_64 rfl (w' := pre ++ [(h, .inr (1, [.ref q1, .ref q2, .ref q3, .ref q4, .ref q5, .ref q6, .ref q7, .ref q8])), (q1, .inl (cA, 20, .inl (fun _ => 0))), (q2, .inl (cA, 20, .inl (fun _ => 0))), (q3, .inl (cA, 20, .inl (fun _ => 0))), (q4, .inl (cA, 10, .inl (fun _ => 0))), (q5, .inl (cA, 10, .inl (fun _ => 0))), (q6, .inl (cA, 10, .inl (fun _ => 0))), (q7, .inl (cA, 4, .inl (fun _ => 0))), (q8, .inl (cA, 100, .inl (fun _ => 0)))]) ((setA _ _ 0 _).trans rfl) ?_
  exact jc_vret C E ⟨q1, q2, q3, q4, q5, q6, q7, q8, rfl⟩ hr d_H_init_67
def rm_F_init : Room := { frames := 1, cells := 4, slots := 24, locals := 20 }
set_option maxHeartbeats 4000000 in
set_option maxRecDepth 100000 in
theorem ct_F_init (l : Launch) (D : va_G) (tys : List (ClassId × FieldType)) {cA : ClassId} (hT0 : tys[0]? = some (cA, .int)) (pre : va_W) (h : Nat) : jMc l y_F_init ws_F_init rm_F_init D tys [.ref h] (pre ++ [(h, .inr (2, [.null, .null, .null, .null, .int 0]))]) (fun w1 => ∃ q1 q2 q3 q4 : Nat, w1 = pre ++ [(h, .inr (2, [.ref q1, .ref q2, .ref q3, .ref q4, .int 0])), (q1, .inl (cA, 6, .inl (fun _ => 0))), (q2, .inl (cA, 6, .inl (fun _ => 0))), (q3, .inl (cA, 6, .inl (fun _ => 0))), (q4, .inl (cA, 6, .inl (fun _ => 0)))]) := by
  refine jc_of (lv := [(0, .ref h)]) (by decide +kernel) rfl (Nat.le_of_ble_eq_true rfl) rfl (fun x _ _ hT' hR C hr hin E => ?_)
  have hT : (jT x)[0]? = some (cA, .int) := by rw [hT']; exact hT0
  refine j_aload_n C 0 d_F_init_0 rfl rfl rfl ?_
  refine j_objInit C hR tw_116 tw_69 tw_70 (by decide) (Nat.le_of_ble_eq_true rfl) d_F_init_1 rfl ?_
  refine j_aload_n C 0 d_F_init_4 rfl rfl rfl ?_
  refine j_bipush (v := 6) C d_F_init_5 rfl (by decide) ?_
  refine j_newa C hR hT tw_110 (N := 6) (by decide) (by decide) (by decide) (by decide) (by decide) d_F_init_7 rfl (fun q1 => ?_)
  refine j_w (w' := pre ++ [(h, .inr (2, [.null, .null, .null, .null, .int 0])), (q1, .inl (cA, 6, .inl (fun _ => 0)))]) (by rw [List.append_assoc]; rfl) ?_
  refine j_putF C hin in_F ty_F_ok nm_F (pre.length + 0) ((getA _ _ 0).trans rfl) rfl 0 (by decide) tw_117 rfl rfl rfl rfl rfl (Nat.le_of_ble_eq_true rfl) d_F_init_9 rfl (w' := pre ++ [(h, .inr (2, [.ref q1, .null, .null, .null, .int 0])), (q1, .inl (cA, 6, .inl (fun _ => 0)))]) ((setA _ _ 0 _).trans rfl) ?_
  refine j_aload_n C 0 d_F_init_12 rfl rfl rfl ?_
  refine j_bipush (v := 6) C d_F_init_13 rfl (by decide) ?_
  refine j_newa C hR hT tw_110 (N := 6) (by decide) (by decide) (by decide) (by decide) (by decide) d_F_init_15 rfl (fun q2 => ?_)
  refine j_w (w' := pre ++ [(h, .inr (2, [.ref q1, .null, .null, .null, .int 0])), (q1, .inl (cA, 6, .inl (fun _ => 0))), (q2, .inl (cA, 6, .inl (fun _ => 0)))]) (by rw [List.append_assoc]; rfl) ?_
  refine j_putF C hin in_F ty_F_ok nm_F (pre.length + 0) ((getA _ _ 0).trans rfl) rfl 1 (by decide) tw_118 rfl rfl rfl rfl rfl (Nat.le_of_ble_eq_true rfl) d_F_init_17 rfl (w' := pre ++ [(h, .inr (2, [.ref q1, .ref q2, .null, .null, .int 0])), (q1, .inl (cA, 6, .inl (fun _ => 0))), (q2, .inl (cA, 6, .inl (fun _ => 0)))]) ((setA _ _ 0 _).trans rfl) ?_
  refine j_aload_n C 0 d_F_init_20 rfl rfl rfl ?_
  refine j_bipush (v := 6) C d_F_init_21 rfl (by decide) ?_
  refine j_newa C hR hT tw_110 (N := 6) (by decide) (by decide) (by decide) (by decide) (by decide) d_F_init_23 rfl (fun q3 => ?_)
  refine j_w (w' := pre ++ [(h, .inr (2, [.ref q1, .ref q2, .null, .null, .int 0])), (q1, .inl (cA, 6, .inl (fun _ => 0))), (q2, .inl (cA, 6, .inl (fun _ => 0))), (q3, .inl (cA, 6, .inl (fun _ => 0)))]) (by rw [List.append_assoc]; rfl) ?_
  refine j_putF C hin in_F ty_F_ok nm_F (pre.length + 0) ((getA _ _ 0).trans rfl) rfl 2 (by decide) tw_119 rfl rfl rfl rfl rfl (Nat.le_of_ble_eq_true rfl) d_F_init_25 rfl (w' := pre ++ [(h, .inr (2, [.ref q1, .ref q2, .ref q3, .null, .int 0])), (q1, .inl (cA, 6, .inl (fun _ => 0))), (q2, .inl (cA, 6, .inl (fun _ => 0))), (q3, .inl (cA, 6, .inl (fun _ => 0)))]) ((setA _ _ 0 _).trans rfl) ?_
  refine j_aload_n C 0 d_F_init_28 rfl rfl rfl ?_
  refine j_bipush (v := 6) C d_F_init_29 rfl (by decide) ?_
  refine j_newa C hR hT tw_110 (N := 6) (by decide) (by decide) (by decide) (by decide) (by decide) d_F_init_31 rfl (fun q4 => ?_)
  refine j_w (w' := pre ++ [(h, .inr (2, [.ref q1, .ref q2, .ref q3, .null, .int 0])), (q1, .inl (cA, 6, .inl (fun _ => 0))), (q2, .inl (cA, 6, .inl (fun _ => 0))), (q3, .inl (cA, 6, .inl (fun _ => 0))), (q4, .inl (cA, 6, .inl (fun _ => 0)))]) (by rw [List.append_assoc]; rfl) ?_
  refine j_putF C hin in_F ty_F_ok nm_F (pre.length + 0) ((getA _ _ 0).trans rfl) rfl 3 (by decide) tw_120 rfl rfl rfl rfl rfl (Nat.le_of_ble_eq_true rfl) d_F_init_33 rfl (w' := pre ++ [(h, .inr (2, [.ref q1, .ref q2, .ref q3, .ref q4, .int 0])), (q1, .inl (cA, 6, .inl (fun _ => 0))), (q2, .inl (cA, 6, .inl (fun _ => 0))), (q3, .inl (cA, 6, .inl (fun _ => 0))), (q4, .inl (cA, 6, .inl (fun _ => 0)))]) ((setA _ _ 0 _).trans rfl) ?_
  refine j_aload_n C 0 d_F_init_36 rfl rfl rfl ?_
  refine j_iconst (v := 0) C d_F_init_37 rfl (by decide) ?_
  refine j_put (τ := Unit) (t0 := ()) (B := fun _ => some ()) (res := ()) C in_F ty_F_ok nm_F (pre.length + 0) ((getA _ _ 0).trans rfl) rfl 4 (by decide) tw_121 rfl rfl rfl (Nat.le_of_ble_eq_true rfl) (fun _ => pre ++ [(h, .inr (2, [.ref q1, .ref q2, .ref q3, .ref q4, .int 0])), (q1, .inl (cA, 6, .inl (fun _ => 0))), (q2, .inl (cA, 6, .inl (fun _ => 0))), (q3, .inl (cA, 6, .inl (fun _ => 0))), (q4, .inl (cA, 6, .inl (fun _ => 0)))]) d_F_init_38 rfl rfl ((setA _ _ 0 _).trans rfl) (fun _ _ => ?_)
  exact jc_vret C E ⟨q1, q2, q3, q4, rfl⟩ hr d_F_init_41
def rm_Y_init : Room := { frames := 1, cells := 1, slots := 100, locals := 20 }
set_option maxHeartbeats 4000000 in
set_option maxRecDepth 100000 in
theorem ct_Y_init (l : Launch) (D : va_G) (tys : List (ClassId × FieldType)) {cA : ClassId} (hT0 : tys[0]? = some (cA, .int)) (pre : va_W) (h : Nat) : jMc l y_Y_init ws_Y_init rm_Y_init D tys [.ref h] (pre ++ [(h, .inr (3, [.null]))]) (fun w1 => ∃ q1 : Nat, w1 = pre ++ [(h, .inr (3, [.ref q1])), (q1, .inl (cA, 100, .inl (fun _ => 0)))]) := by
  refine jc_of (lv := [(0, .ref h)]) (by decide +kernel) rfl (Nat.le_of_ble_eq_true rfl) rfl (fun x _ _ hT' hR C hr hin E => ?_)
  have hT : (jT x)[0]? = some (cA, .int) := by rw [hT']; exact hT0
  refine j_aload_n C 0 d_Y_init_0 rfl rfl rfl ?_
  refine j_objInit C hR tw_138 tw_69 tw_70 (by decide) (Nat.le_of_ble_eq_true rfl) d_Y_init_1 rfl ?_
  refine j_aload_n C 0 d_Y_init_4 rfl rfl rfl ?_
  refine j_bipush (v := 100) C d_Y_init_5 rfl (by decide) ?_
  refine j_newa C hR hT tw_110 (N := 100) (by decide) (by decide) (by decide) (by decide) (by decide) d_Y_init_7 rfl (fun q1 => ?_)
  refine j_w (w' := pre ++ [(h, .inr (3, [.null])), (q1, .inl (cA, 100, .inl (fun _ => 0)))]) (by rw [List.append_assoc]; rfl) ?_
  refine j_putF C hin in_Y ty_Y_ok nm_Y (pre.length + 0) ((getA _ _ 0).trans rfl) rfl 0 (by decide) tw_139 rfl rfl rfl rfl rfl (Nat.le_of_ble_eq_true rfl) d_Y_init_9 rfl (w' := pre ++ [(h, .inr (3, [.ref q1])), (q1, .inl (cA, 100, .inl (fun _ => 0)))]) ((setA _ _ 0 _).trans rfl) ?_
  exact jc_vret C E ⟨q1, rfl⟩ hr d_Y_init_12
def S0 : SP := (fun _ => 0, 0, 0, fun _ => 0, fun _ => 0, fun _ => 0, fun _ => 0, fun _ => 0, fun _ => 0, fun _ => 0, fun _ => 0, fun _ => 0, fun _ => 0, fun _ => 0, fun _ => 0, 0, fun _ => 0)
def rm_P_init : Room := { frames := 2, cells := 17, slots := 572, locals := 60 }
set_option maxHeartbeats 4000000 in
set_option maxRecDepth 100000 in
theorem ct_P_init (l : Launch) (D : va_G) (tys : List (ClassId × FieldType)) {cA : ClassId} (hT0 : tys[0]? = some (cA, .int)) (pre : va_W) (h : Nat) : jMc l y_P_init ws_P_init rm_P_init D tys [.ref h] (pre ++ [(h, .inr (0, [.null, .int 0, .int 0, .null, .null, .null]))]) (fun w1 => ∃ ad : Nat → Nat, ad 0 = h ∧ w1 = pre ++ wP ad cA S0) := by
  refine jc_of (lv := [(0, .ref h)]) (by decide +kernel) rfl (Nat.le_of_ble_eq_true rfl) rfl (fun x _ _ hT' hR C hr hin E => ?_)
  have hT : (jT x)[0]? = some (cA, .int) := by rw [hT']; exact hT0
  refine j_aload_n C 0 d_P_init_0 rfl rfl rfl ?_
  refine j_objInit C hR tw_68 tw_69 tw_70 (by decide) (Nat.le_of_ble_eq_true rfl) d_P_init_1 rfl ?_
  refine j_aload_n C 0 d_P_init_4 rfl rfl rfl ?_
  refine j_sipush (v := 240) C d_P_init_5 rfl (by decide) ?_
  refine j_newa C hR hT tw_110 (N := 240) (by decide) (by decide) (by decide) (by decide) (by decide) d_P_init_8 rfl (fun q1 => ?_)
  refine j_w (w' := pre ++ [(h, .inr (0, [.null, .int 0, .int 0, .null, .null, .null])), (q1, .inl (cA, 240, .inl (fun _ => 0)))]) (by rw [List.append_assoc]; rfl) ?_
  refine j_putF C hin in_P ty_P_ok nm_P (pre.length + 0) ((getA _ _ 0).trans rfl) rfl 0 (by decide) tw_143 rfl rfl rfl rfl rfl (Nat.le_of_ble_eq_true rfl) d_P_init_10 rfl (w' := pre ++ [(h, .inr (0, [.ref q1, .int 0, .int 0, .null, .null, .null])), (q1, .inl (cA, 240, .inl (fun _ => 0)))]) ((setA _ _ 0 _).trans rfl) ?_
  refine j_aload_n C 0 d_P_init_13 rfl rfl rfl ?_
  refine j_iconst (v := 0) C d_P_init_14 rfl (by decide) ?_
  refine j_put (τ := Unit) (t0 := ()) (B := fun _ => some ()) (res := ()) C in_P ty_P_ok nm_P (pre.length + 0) ((getA _ _ 0).trans rfl) rfl 1 (by decide) tw_144 rfl rfl rfl (Nat.le_of_ble_eq_true rfl) (fun _ => pre ++ [(h, .inr (0, [.ref q1, .int 0, .int 0, .null, .null, .null])), (q1, .inl (cA, 240, .inl (fun _ => 0)))]) d_P_init_15 rfl rfl ((setA _ _ 0 _).trans rfl) (fun _ _ => ?_)
  refine j_aload_n C 0 d_P_init_18 rfl rfl rfl ?_
  refine j_iconst (v := 0) C d_P_init_19 rfl (by decide) ?_
  refine j_put (τ := Unit) (t0 := ()) (B := fun _ => some ()) (res := ()) C in_P ty_P_ok nm_P (pre.length + 0) ((getA _ _ 0).trans rfl) rfl 2 (by decide) tw_145 rfl rfl rfl (Nat.le_of_ble_eq_true rfl) (fun _ => pre ++ [(h, .inr (0, [.ref q1, .int 0, .int 0, .null, .null, .null])), (q1, .inl (cA, 240, .inl (fun _ => 0)))]) d_P_init_20 rfl rfl ((setA _ _ 0 _).trans rfl) (fun _ _ => ?_)
  refine j_aload_n C 0 d_P_init_23 rfl rfl rfl ?_
  refine j_new C hR (ci := 1) (fs := [.null, .null, .null, .null, .null, .null, .null, .null]) in_H ty_H_ok tw_71 tw_72 tw_48 rfl (fun j hj => by rcases (show j = 0 ∨ j = 1 ∨ j = 2 ∨ j = 3 ∨ j = 4 ∨ j = 5 ∨ j = 6 ∨ j = 7 by omega) with rfl | rfl | rfl | rfl | rfl | rfl | rfl | rfl <;> rfl) (by decide) (by decide) d_P_init_24 rfl (fun q2 => ?_)
  refine j_dup C d_P_init_27 rfl rfl ?_
  refine j_callIN C hR (b := q2) (ct_H_init (jl x) (jD x) (jT x) hT (pre ++ [(h, .inr (0, [.ref q1, .int 0, .int 0, .null, .null, .null])), (q1, .inl (cA, 240, .inl (fun _ => 0)))]) q2) kf_H_init (by decide) tw_73 tw_74 rfl rfl (Nat.le_of_ble_eq_true rfl) (by decide) d_P_init_28 rfl (fun w1 hw1 => ?_)
  obtain ⟨q3, q4, q5, q6, q7, q8, q9, q10, rfl⟩ := hw1
  refine j_w (w' := pre ++ [(h, .inr (0, [.ref q1, .int 0, .int 0, .null, .null, .null])), (q1, .inl (cA, 240, .inl (fun _ => 0))), (q2, .inr (1, [.ref q3, .ref q4, .ref q5, .ref q6, .ref q7, .ref q8, .ref q9, .ref q10])), (q3, .inl (cA, 20, .inl (fun _ => 0))), (q4, .inl (cA, 20, .inl (fun _ => 0))), (q5, .inl (cA, 20, .inl (fun _ => 0))), (q6, .inl (cA, 10, .inl (fun _ => 0))), (q7, .inl (cA, 10, .inl (fun _ => 0))), (q8, .inl (cA, 10, .inl (fun _ => 0))), (q9, .inl (cA, 4, .inl (fun _ => 0))), (q10, .inl (cA, 100, .inl (fun _ => 0)))]) (by rw [List.append_assoc]; rfl) ?_
  refine j_putF C hin in_P ty_P_ok nm_P (pre.length + 0) ((getA _ _ 0).trans rfl) rfl 3 (by decide) tw_146 rfl rfl rfl rfl rfl (Nat.le_of_ble_eq_true rfl) d_P_init_31 rfl (w' := pre ++ [(h, .inr (0, [.ref q1, .int 0, .int 0, .ref q2, .null, .null])), (q1, .inl (cA, 240, .inl (fun _ => 0))), (q2, .inr (1, [.ref q3, .ref q4, .ref q5, .ref q6, .ref q7, .ref q8, .ref q9, .ref q10])), (q3, .inl (cA, 20, .inl (fun _ => 0))), (q4, .inl (cA, 20, .inl (fun _ => 0))), (q5, .inl (cA, 20, .inl (fun _ => 0))), (q6, .inl (cA, 10, .inl (fun _ => 0))), (q7, .inl (cA, 10, .inl (fun _ => 0))), (q8, .inl (cA, 10, .inl (fun _ => 0))), (q9, .inl (cA, 4, .inl (fun _ => 0))), (q10, .inl (cA, 100, .inl (fun _ => 0)))]) ((setA _ _ 0 _).trans rfl) ?_
  refine j_aload_n C 0 d_P_init_34 rfl rfl rfl ?_
  refine j_new C hR (ci := 2) (fs := [.null, .null, .null, .null, .int 0]) in_F ty_F_ok tw_111 tw_112 tw_49 rfl (fun j hj => by rcases (show j = 0 ∨ j = 1 ∨ j = 2 ∨ j = 3 ∨ j = 4 by omega) with rfl | rfl | rfl | rfl | rfl <;> rfl) (by decide) (by decide) d_P_init_35 rfl (fun q11 => ?_)
  refine j_dup C d_P_init_38 rfl rfl ?_
  refine j_callIN C hR (b := q11) (ct_F_init (jl x) (jD x) (jT x) hT (pre ++ [(h, .inr (0, [.ref q1, .int 0, .int 0, .ref q2, .null, .null])), (q1, .inl (cA, 240, .inl (fun _ => 0))), (q2, .inr (1, [.ref q3, .ref q4, .ref q5, .ref q6, .ref q7, .ref q8, .ref q9, .ref q10])), (q3, .inl (cA, 20, .inl (fun _ => 0))), (q4, .inl (cA, 20, .inl (fun _ => 0))), (q5, .inl (cA, 20, .inl (fun _ => 0))), (q6, .inl (cA, 10, .inl (fun _ => 0))), (q7, .inl (cA, 10, .inl (fun _ => 0))), (q8, .inl (cA, 10, .inl (fun _ => 0))), (q9, .inl (cA, 4, .inl (fun _ => 0))), (q10, .inl (cA, 100, .inl (fun _ => 0)))]) q11) kf_F_init (by decide) tw_113 tw_114 rfl rfl (Nat.le_of_ble_eq_true rfl) (by decide) d_P_init_39 rfl (fun w1 hw1 => ?_)
  obtain ⟨q12, q13, q14, q15, rfl⟩ := hw1
  refine j_w (w' := pre ++ [(h, .inr (0, [.ref q1, .int 0, .int 0, .ref q2, .null, .null])), (q1, .inl (cA, 240, .inl (fun _ => 0))), (q2, .inr (1, [.ref q3, .ref q4, .ref q5, .ref q6, .ref q7, .ref q8, .ref q9, .ref q10])), (q3, .inl (cA, 20, .inl (fun _ => 0))), (q4, .inl (cA, 20, .inl (fun _ => 0))), (q5, .inl (cA, 20, .inl (fun _ => 0))), (q6, .inl (cA, 10, .inl (fun _ => 0))), (q7, .inl (cA, 10, .inl (fun _ => 0))), (q8, .inl (cA, 10, .inl (fun _ => 0))), (q9, .inl (cA, 4, .inl (fun _ => 0))), (q10, .inl (cA, 100, .inl (fun _ => 0))), (q11, .inr (2, [.ref q12, .ref q13, .ref q14, .ref q15, .int 0])), (q12, .inl (cA, 6, .inl (fun _ => 0))), (q13, .inl (cA, 6, .inl (fun _ => 0))), (q14, .inl (cA, 6, .inl (fun _ => 0))), (q15, .inl (cA, 6, .inl (fun _ => 0)))]) (by rw [List.append_assoc]; rfl) ?_
  refine j_putF C hin in_P ty_P_ok nm_P (pre.length + 0) ((getA _ _ 0).trans rfl) rfl 4 (by decide) tw_147 rfl rfl rfl rfl rfl (Nat.le_of_ble_eq_true rfl) d_P_init_42 rfl (w' := pre ++ [(h, .inr (0, [.ref q1, .int 0, .int 0, .ref q2, .ref q11, .null])), (q1, .inl (cA, 240, .inl (fun _ => 0))), (q2, .inr (1, [.ref q3, .ref q4, .ref q5, .ref q6, .ref q7, .ref q8, .ref q9, .ref q10])), (q3, .inl (cA, 20, .inl (fun _ => 0))), (q4, .inl (cA, 20, .inl (fun _ => 0))), (q5, .inl (cA, 20, .inl (fun _ => 0))), (q6, .inl (cA, 10, .inl (fun _ => 0))), (q7, .inl (cA, 10, .inl (fun _ => 0))), (q8, .inl (cA, 10, .inl (fun _ => 0))), (q9, .inl (cA, 4, .inl (fun _ => 0))), (q10, .inl (cA, 100, .inl (fun _ => 0))), (q11, .inr (2, [.ref q12, .ref q13, .ref q14, .ref q15, .int 0])), (q12, .inl (cA, 6, .inl (fun _ => 0))), (q13, .inl (cA, 6, .inl (fun _ => 0))), (q14, .inl (cA, 6, .inl (fun _ => 0))), (q15, .inl (cA, 6, .inl (fun _ => 0)))]) ((setA _ _ 0 _).trans rfl) ?_
  refine j_aload_n C 0 d_P_init_45 rfl rfl rfl ?_
  refine j_new C hR (ci := 3) (fs := [.null]) in_Y ty_Y_ok tw_133 tw_134 tw_50 rfl (fun j hj => by rcases (show j = 0 by omega) with rfl <;> rfl) (by decide) (by decide) d_P_init_46 rfl (fun q16 => ?_)
  refine j_dup C d_P_init_49 rfl rfl ?_
  refine j_callIN C hR (b := q16) (ct_Y_init (jl x) (jD x) (jT x) hT (pre ++ [(h, .inr (0, [.ref q1, .int 0, .int 0, .ref q2, .ref q11, .null])), (q1, .inl (cA, 240, .inl (fun _ => 0))), (q2, .inr (1, [.ref q3, .ref q4, .ref q5, .ref q6, .ref q7, .ref q8, .ref q9, .ref q10])), (q3, .inl (cA, 20, .inl (fun _ => 0))), (q4, .inl (cA, 20, .inl (fun _ => 0))), (q5, .inl (cA, 20, .inl (fun _ => 0))), (q6, .inl (cA, 10, .inl (fun _ => 0))), (q7, .inl (cA, 10, .inl (fun _ => 0))), (q8, .inl (cA, 10, .inl (fun _ => 0))), (q9, .inl (cA, 4, .inl (fun _ => 0))), (q10, .inl (cA, 100, .inl (fun _ => 0))), (q11, .inr (2, [.ref q12, .ref q13, .ref q14, .ref q15, .int 0])), (q12, .inl (cA, 6, .inl (fun _ => 0))), (q13, .inl (cA, 6, .inl (fun _ => 0))), (q14, .inl (cA, 6, .inl (fun _ => 0))), (q15, .inl (cA, 6, .inl (fun _ => 0)))]) q16) kf_Y_init (by decide) tw_135 tw_136 rfl rfl (Nat.le_of_ble_eq_true rfl) (by decide) d_P_init_50 rfl (fun w1 hw1 => ?_)
  obtain ⟨q17, rfl⟩ := hw1
  refine j_w (w' := pre ++ [(h, .inr (0, [.ref q1, .int 0, .int 0, .ref q2, .ref q11, .null])), (q1, .inl (cA, 240, .inl (fun _ => 0))), (q2, .inr (1, [.ref q3, .ref q4, .ref q5, .ref q6, .ref q7, .ref q8, .ref q9, .ref q10])), (q3, .inl (cA, 20, .inl (fun _ => 0))), (q4, .inl (cA, 20, .inl (fun _ => 0))), (q5, .inl (cA, 20, .inl (fun _ => 0))), (q6, .inl (cA, 10, .inl (fun _ => 0))), (q7, .inl (cA, 10, .inl (fun _ => 0))), (q8, .inl (cA, 10, .inl (fun _ => 0))), (q9, .inl (cA, 4, .inl (fun _ => 0))), (q10, .inl (cA, 100, .inl (fun _ => 0))), (q11, .inr (2, [.ref q12, .ref q13, .ref q14, .ref q15, .int 0])), (q12, .inl (cA, 6, .inl (fun _ => 0))), (q13, .inl (cA, 6, .inl (fun _ => 0))), (q14, .inl (cA, 6, .inl (fun _ => 0))), (q15, .inl (cA, 6, .inl (fun _ => 0))), (q16, .inr (3, [.ref q17])), (q17, .inl (cA, 100, .inl (fun _ => 0)))]) (by rw [List.append_assoc]; rfl) ?_
  refine j_putF C hin in_P ty_P_ok nm_P (pre.length + 0) ((getA _ _ 0).trans rfl) rfl 5 (by decide) tw_148 rfl rfl rfl rfl rfl (Nat.le_of_ble_eq_true rfl) d_P_init_53 rfl (w' := pre ++ [(h, .inr (0, [.ref q1, .int 0, .int 0, .ref q2, .ref q11, .ref q16])), (q1, .inl (cA, 240, .inl (fun _ => 0))), (q2, .inr (1, [.ref q3, .ref q4, .ref q5, .ref q6, .ref q7, .ref q8, .ref q9, .ref q10])), (q3, .inl (cA, 20, .inl (fun _ => 0))), (q4, .inl (cA, 20, .inl (fun _ => 0))), (q5, .inl (cA, 20, .inl (fun _ => 0))), (q6, .inl (cA, 10, .inl (fun _ => 0))), (q7, .inl (cA, 10, .inl (fun _ => 0))), (q8, .inl (cA, 10, .inl (fun _ => 0))), (q9, .inl (cA, 4, .inl (fun _ => 0))), (q10, .inl (cA, 100, .inl (fun _ => 0))), (q11, .inr (2, [.ref q12, .ref q13, .ref q14, .ref q15, .int 0])), (q12, .inl (cA, 6, .inl (fun _ => 0))), (q13, .inl (cA, 6, .inl (fun _ => 0))), (q14, .inl (cA, 6, .inl (fun _ => 0))), (q15, .inl (cA, 6, .inl (fun _ => 0))), (q16, .inr (3, [.ref q17])), (q17, .inl (cA, 100, .inl (fun _ => 0)))]) ((setA _ _ 0 _).trans rfl) ?_
  exact jc_vret C E ⟨(fun k => [h, q1, q2, q3, q4, q5, q6, q7, q8, q9, q10, q11, q12, q13, q14, q15, q16, q17].getD k 0), rfl, rfl⟩ hr d_P_init_56
