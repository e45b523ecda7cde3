theorem ow_inr {big : List Cond} (ws : List Cond) (ps : List Nat) (hp : ws = ps.filterMap (fun i => big[i]?)) : ∀ w ∈ ws, w ∈ big := by
  intro w hw
  rw [hp] at hw
  obtain ⟨i, -, hi⟩ := List.mem_filterMap.mp hw
  exact List.mem_of_getElem? hi
theorem tp_1 : ∀ w ∈ tables_1_1, w ∈ lw_tbl := fun _ h => List.mem_append_right _ (List.mem_append_left _ h)
theorem tp_2 : ∀ w ∈ tables_1_2, w ∈ lw_tbl := fun _ h => List.mem_append_right _ (List.mem_append_right _ (List.mem_append_left _ h))
theorem tp_3 : ∀ w ∈ tables_1_3, w ∈ lw_tbl := fun _ h => List.mem_append_right _ (List.mem_append_right _ (List.mem_append_right _ (List.mem_append_left _ h)))
theorem tp_4 : ∀ w ∈ tables_1_4, w ∈ lw_tbl := fun _ h => List.mem_append_right _ (List.mem_append_right _ (List.mem_append_right _ (List.mem_append_right _ (List.mem_append_left _ h))))
theorem tp_5 : ∀ w ∈ tables_1_5, w ∈ lw_tbl := fun _ h => List.mem_append_right _ (List.mem_append_right _ (List.mem_append_right _ (List.mem_append_right _ (List.mem_append_right _ (List.mem_append_left _ h)))))
theorem tp_6 : ∀ w ∈ tables_1_6, w ∈ lw_tbl := fun _ h => List.mem_append_right _ (List.mem_append_right _ (List.mem_append_right _ (List.mem_append_right _ (List.mem_append_right _ (List.mem_append_right _ (List.mem_append_left _ h))))))
theorem tp_7 : ∀ w ∈ tables_1_7, w ∈ lw_tbl := fun _ h => List.mem_append_right _ (List.mem_append_right _ (List.mem_append_right _ (List.mem_append_right _ (List.mem_append_right _ (List.mem_append_right _ (List.mem_append_right _ (List.mem_append_left _ h)))))))
theorem tp_8 : ∀ w ∈ tables_1_8, w ∈ lw_tbl := fun _ h => List.mem_append_right _ (List.mem_append_right _ (List.mem_append_right _ (List.mem_append_right _ (List.mem_append_right _ (List.mem_append_right _ (List.mem_append_right _ (List.mem_append_right _ (List.mem_append_left _ h))))))))
theorem tp_9 : ∀ w ∈ tables_1_9, w ∈ lw_tbl := fun _ h => List.mem_append_right _ (List.mem_append_right _ (List.mem_append_right _ (List.mem_append_right _ (List.mem_append_right _ (List.mem_append_right _ (List.mem_append_right _ (List.mem_append_right _ (List.mem_append_right _ (List.mem_append_left _ h)))))))))
theorem tp_10 : ∀ w ∈ tables_1_10, w ∈ lw_tbl := fun _ h => List.mem_append_right _ (List.mem_append_right _ (List.mem_append_right _ (List.mem_append_right _ (List.mem_append_right _ (List.mem_append_right _ (List.mem_append_right _ (List.mem_append_right _ (List.mem_append_right _ (List.mem_append_right _ (List.mem_append_left _ h))))))))))
theorem tp_11 : ∀ w ∈ tables_1_11, w ∈ lw_tbl := fun _ h => List.mem_append_right _ (List.mem_append_right _ (List.mem_append_right _ (List.mem_append_right _ (List.mem_append_right _ (List.mem_append_right _ (List.mem_append_right _ (List.mem_append_right _ (List.mem_append_right _ (List.mem_append_right _ (List.mem_append_right _ (List.mem_append_left _ h)))))))))))
theorem tp_12 : ∀ w ∈ tables_1_12, w ∈ lw_tbl := fun _ h => List.mem_append_right _ (List.mem_append_right _ (List.mem_append_right _ (List.mem_append_right _ (List.mem_append_right _ (List.mem_append_right _ (List.mem_append_right _ (List.mem_append_right _ (List.mem_append_right _ (List.mem_append_right _ (List.mem_append_right _ (List.mem_append_right _ (List.mem_append_left _ h))))))))))))
theorem tp_13 : ∀ w ∈ tables_1_13, w ∈ lw_tbl := fun _ h => List.mem_append_right _ (List.mem_append_right _ (List.mem_append_right _ (List.mem_append_right _ (List.mem_append_right _ (List.mem_append_right _ (List.mem_append_right _ (List.mem_append_right _ (List.mem_append_right _ (List.mem_append_right _ (List.mem_append_right _ (List.mem_append_right _ (List.mem_append_right _ (h)))))))))))))
theorem tq_1 : ∀ q ∈ lw_privs_1, q ∈ lw_privs := fun _ h => List.mem_append_left _ h
theorem tq_2 : ∀ q ∈ lw_privs_2, q ∈ lw_privs := fun _ h => List.mem_append_right _ (List.mem_append_left _ h)
theorem tq_3 : ∀ q ∈ lw_privs_3, q ∈ lw_privs := fun _ h => List.mem_append_right _ (List.mem_append_right _ (List.mem_append_left _ h))
theorem tq_4 : ∀ q ∈ lw_privs_4, q ∈ lw_privs := fun _ h => List.mem_append_right _ (List.mem_append_right _ (List.mem_append_right _ (List.mem_append_left _ h)))
theorem tq_5 : ∀ q ∈ lw_privs_5, q ∈ lw_privs := fun _ h => List.mem_append_right _ (List.mem_append_right _ (List.mem_append_right _ (List.mem_append_right _ (List.mem_append_left _ h))))
theorem tq_6 : ∀ q ∈ lw_privs_6, q ∈ lw_privs := fun _ h => List.mem_append_right _ (List.mem_append_right _ (List.mem_append_right _ (List.mem_append_right _ (List.mem_append_right _ (List.mem_append_left _ h)))))
theorem tq_7 : ∀ q ∈ lw_privs_7, q ∈ lw_privs := fun _ h => List.mem_append_right _ (List.mem_append_right _ (List.mem_append_right _ (List.mem_append_right _ (List.mem_append_right _ (List.mem_append_right _ (List.mem_append_left _ h))))))
theorem tq_8 : ∀ q ∈ lw_privs_8, q ∈ lw_privs := fun _ h => List.mem_append_right _ (List.mem_append_right _ (List.mem_append_right _ (List.mem_append_right _ (List.mem_append_right _ (List.mem_append_right _ (List.mem_append_right _ (List.mem_append_left _ h)))))))
theorem tq_9 : ∀ q ∈ lw_privs_9, q ∈ lw_privs := fun _ h => List.mem_append_right _ (List.mem_append_right _ (List.mem_append_right _ (List.mem_append_right _ (List.mem_append_right _ (List.mem_append_right _ (List.mem_append_right _ (List.mem_append_right _ (List.mem_append_left _ h))))))))
theorem tq_10 : ∀ q ∈ lw_privs_10, q ∈ lw_privs := fun _ h => List.mem_append_right _ (List.mem_append_right _ (List.mem_append_right _ (List.mem_append_right _ (List.mem_append_right _ (List.mem_append_right _ (List.mem_append_right _ (List.mem_append_right _ (List.mem_append_right _ (List.mem_append_left _ h)))))))))
theorem tq_11 : ∀ q ∈ lw_privs_11, q ∈ lw_privs := fun _ h => List.mem_append_right _ (List.mem_append_right _ (List.mem_append_right _ (List.mem_append_right _ (List.mem_append_right _ (List.mem_append_right _ (List.mem_append_right _ (List.mem_append_right _ (List.mem_append_right _ (List.mem_append_right _ (h))))))))))
theorem tw_0 : (Cond.code yX11_init cX11_init 1 none) ∈ lw_tbl := tp_1 _ (List.mem_of_getElem? (i := 39) rfl)
theorem tw_1 : (Cond.instantiable RX9 6) ∈ lw_tbl := tp_1 _ (List.mem_of_getElem? (i := 228) rfl)
theorem tw_2 : (Cond.classLink RX11 48 RX9) ∈ lw_tbl := tp_1 _ (List.mem_of_getElem? (i := 227) rfl)
theorem tw_3 : (Cond.fieldLink RX11 44 "KnotHouse" "coder" "LKnotHouse$Coder;") ∈ lw_tbl := tp_3 _ (List.mem_of_getElem? (i := 83) rfl)
theorem tw_4 : (Cond.initialized RX2) ∈ lw_tbl := tp_1 _ (List.mem_of_getElem? (i := 5) rfl)
theorem tw_5 : (Cond.instantiable RX2 6) ∈ lw_tbl := tp_1 _ (List.mem_of_getElem? (i := 199) rfl)
theorem tw_6 : (Cond.classLink RX11 41 RX2) ∈ lw_tbl := tp_1 _ (List.mem_of_getElem? (i := 198) rfl)
theorem tw_7 : (Cond.fieldLink RX11 37 "KnotHouse" "faces" "LKnotHouse$Faces;") ∈ lw_tbl := tp_3 _ (List.mem_of_getElem? (i := 82) rfl)
theorem tw_8 : (Cond.initialized RX4) ∈ lw_tbl := tp_1 _ (List.mem_of_getElem? (i := 4) rfl)
theorem tw_9 : (Cond.instantiable RX4 8) ∈ lw_tbl := tp_1 _ (List.mem_of_getElem? (i := 166) rfl)
theorem tw_10 : (Cond.classLink RX11 34 RX4) ∈ lw_tbl := tp_1 _ (List.mem_of_getElem? (i := 165) rfl)
theorem tw_11 : (Cond.fieldLink RX11 31 "KnotHouse" "other" "LKnotHouse$Net;") ∈ lw_tbl := tp_3 _ (List.mem_of_getElem? (i := 81) rfl)
theorem tw_12 : (Cond.fieldLink RX11 27 "KnotHouse" "net" "LKnotHouse$Net;") ∈ lw_tbl := tp_3 _ (List.mem_of_getElem? (i := 80) rfl)
theorem tw_13 : (Cond.initialized RX7) ∈ lw_tbl := tp_1 _ (List.mem_of_getElem? (i := 3) rfl)
theorem tw_14 : (Cond.instantiable RX7 11) ∈ lw_tbl := tp_1 _ (List.mem_of_getElem? (i := 82) rfl)
theorem tw_15 : (Cond.classLink RX11 24 RX7) ∈ lw_tbl := tp_1 _ (List.mem_of_getElem? (i := 81) rfl)
theorem tw_16 : (Cond.fieldLink RX11 21 "KnotHouse" "found" "LKnotHouse$Codes;") ∈ lw_tbl := tp_3 _ (List.mem_of_getElem? (i := 79) rfl)
theorem tw_17 : (Cond.fieldLink RX11 18 "KnotHouse" "list" "LKnotHouse$Codes;") ∈ lw_tbl := tp_3 _ (List.mem_of_getElem? (i := 78) rfl)
theorem tw_18 : (Cond.fieldLink RX11 14 "KnotHouse" "diagrams" "LKnotHouse$Codes;") ∈ lw_tbl := tp_3 _ (List.mem_of_getElem? (i := 77) rfl)
theorem tw_19 : (Cond.initialized RX3) ∈ lw_tbl := tp_1 _ (List.mem_of_getElem? (i := 2) rfl)
theorem tw_20 : (Cond.instantiable RX3 5) ∈ lw_tbl := tp_1 _ (List.mem_of_getElem? (i := 44) rfl)
theorem tw_21 : (Cond.classLink RX11 7 RX3) ∈ lw_tbl := tp_1 _ (List.mem_of_getElem? (i := 43) rfl)
theorem tw_22 : (Cond.code objectInit ⟨#[0xb1]⟩ 1 none) ∈ lw_tbl := tp_1 _ (List.mem_of_getElem? (i := 42) rfl)
theorem tw_23 : (Cond.instanceMethod objectInit) ∈ lw_tbl := tp_1 _ (List.mem_of_getElem? (i := 41) rfl)
theorem tw_24 : (Cond.methodLink RX11 1 objectInit) ∈ lw_tbl := tp_1 _ (List.mem_of_getElem? (i := 40) rfl)
theorem in_wsX11_init_r1 : ∀ w ∈ wsX11_init_r1, w ∈ lw_tbl := by
  show ∀ w ∈ [Cond.methodLink RX11 1 objectInit, Cond.instanceMethod objectInit, Cond.code objectInit ⟨#[0xb1]⟩ 1 none, Cond.classLink RX11 7 RX3, Cond.instantiable RX3 5, Cond.initialized RX3, Cond.fieldLink RX11 14 "KnotHouse" "diagrams" "LKnotHouse$Codes;", Cond.fieldLink RX11 18 "KnotHouse" "list" "LKnotHouse$Codes;", Cond.fieldLink RX11 21 "KnotHouse" "found" "LKnotHouse$Codes;", Cond.classLink RX11 24 RX7, Cond.instantiable RX7 11, Cond.initialized RX7, Cond.fieldLink RX11 27 "KnotHouse" "net" "LKnotHouse$Net;", Cond.fieldLink RX11 31 "KnotHouse" "other" "LKnotHouse$Net;", Cond.classLink RX11 34 RX4, Cond.instantiable RX4 8, Cond.initialized RX4, Cond.fieldLink RX11 37 "KnotHouse" "faces" "LKnotHouse$Faces;", Cond.classLink RX11 41 RX2, Cond.instantiable RX2 6, Cond.initialized RX2, Cond.fieldLink RX11 44 "KnotHouse" "coder" "LKnotHouse$Coder;", Cond.classLink RX11 48 RX9, Cond.instantiable RX9 6], w ∈ lw_tbl
  exact (List.forall_mem_cons.mpr ⟨tw_24, (List.forall_mem_cons.mpr ⟨tw_23, (List.forall_mem_cons.mpr ⟨tw_22, (List.forall_mem_cons.mpr ⟨tw_21, (List.forall_mem_cons.mpr ⟨tw_20, (List.forall_mem_cons.mpr ⟨tw_19, (List.forall_mem_cons.mpr ⟨tw_18, (List.forall_mem_cons.mpr ⟨tw_17, (List.forall_mem_cons.mpr ⟨tw_16, (List.forall_mem_cons.mpr ⟨tw_15, (List.forall_mem_cons.mpr ⟨tw_14, (List.forall_mem_cons.mpr ⟨tw_13, (List.forall_mem_cons.mpr ⟨tw_12, (List.forall_mem_cons.mpr ⟨tw_11, (List.forall_mem_cons.mpr ⟨tw_10, (List.forall_mem_cons.mpr ⟨tw_9, (List.forall_mem_cons.mpr ⟨tw_8, (List.forall_mem_cons.mpr ⟨tw_7, (List.forall_mem_cons.mpr ⟨tw_6, (List.forall_mem_cons.mpr ⟨tw_5, (List.forall_mem_cons.mpr ⟨tw_4, (List.forall_mem_cons.mpr ⟨tw_3, (List.forall_mem_cons.mpr ⟨tw_2, (List.forall_mem_cons.mpr ⟨tw_1, (fun _ h => absurd h List.not_mem_nil)⟩)⟩)⟩)⟩)⟩)⟩)⟩)⟩)⟩)⟩)⟩)⟩)⟩)⟩)⟩)⟩)⟩)⟩)⟩)⟩)⟩)⟩)⟩)⟩)
theorem tw_25 : (Cond.classLink RX11 94 RX5) ∈ lw_tbl := tp_3 _ (List.mem_of_getElem? (i := 3) rfl)
theorem tw_26 : (Cond.fieldLink RX11 91 "KnotHouse" "strands" "[I") ∈ lw_tbl := tp_3 _ (List.mem_of_getElem? (i := 91) rfl)
theorem tw_27 : (Cond.fieldLink RX11 87 "KnotHouse" "lengths" "[I") ∈ lw_tbl := tp_3 _ (List.mem_of_getElem? (i := 90) rfl)
theorem tw_28 : (Cond.arrayClass .int) ∈ lw_tbl := tp_1 _ (List.mem_of_getElem? (i := 80) rfl)
theorem tw_29 : (Cond.fieldLink RX11 83 "KnotHouse" "letters" "[B") ∈ lw_tbl := tp_3 _ (List.mem_of_getElem? (i := 89) rfl)
theorem tw_30 : (Cond.arrayClass .byte) ∈ lw_tbl := tp_1 _ (List.mem_of_getElem? (i := 79) rfl)
theorem tw_31 : (Cond.fieldLink RX11 79 "KnotHouse" "chains" "LKnotHouse$Chains;") ∈ lw_tbl := tp_3 _ (List.mem_of_getElem? (i := 88) rfl)
theorem tw_32 : (Cond.initialized RX1) ∈ lw_tbl := tp_1 _ (List.mem_of_getElem? (i := 11) rfl)
theorem tw_33 : (Cond.instantiable RX1 20) ∈ lw_tbl := tp_2 _ (List.mem_of_getElem? (i := 168) rfl)
theorem tw_34 : (Cond.classLink RX11 76 RX1) ∈ lw_tbl := tp_2 _ (List.mem_of_getElem? (i := 167) rfl)
theorem tw_35 : (Cond.fieldLink RX11 72 "KnotHouse" "arcs" "LKnotHouse$Arcs;") ∈ lw_tbl := tp_3 _ (List.mem_of_getElem? (i := 87) rfl)
theorem tw_36 : (Cond.initialized RX0) ∈ lw_tbl := tp_1 _ (List.mem_of_getElem? (i := 9) rfl)
theorem tw_37 : (Cond.instantiable RX0 16) ∈ lw_tbl := tp_2 _ (List.mem_of_getElem? (i := 97) rfl)
theorem tw_38 : (Cond.classLink RX11 69 RX0) ∈ lw_tbl := tp_2 _ (List.mem_of_getElem? (i := 96) rfl)
theorem tw_39 : (Cond.fieldLink RX11 65 "KnotHouse" "polynomials" "LKnotHouse$Polynomials;") ∈ lw_tbl := tp_3 _ (List.mem_of_getElem? (i := 86) rfl)
theorem tw_40 : (Cond.initialized RX8) ∈ lw_tbl := tp_1 _ (List.mem_of_getElem? (i := 8) rfl)
theorem tw_41 : (Cond.instantiable RX8 9) ∈ lw_tbl := tp_2 _ (List.mem_of_getElem? (i := 56) rfl)
theorem tw_42 : (Cond.classLink RX11 62 RX8) ∈ lw_tbl := tp_2 _ (List.mem_of_getElem? (i := 55) rfl)
theorem tw_43 : (Cond.fieldLink RX11 58 "KnotHouse" "mover" "LKnotHouse$Mover;") ∈ lw_tbl := tp_3 _ (List.mem_of_getElem? (i := 85) rfl)
theorem tw_44 : (Cond.initialized RX6) ∈ lw_tbl := tp_1 _ (List.mem_of_getElem? (i := 7) rfl)
theorem tw_45 : (Cond.instantiable RX6 8) ∈ lw_tbl := tp_2 _ (List.mem_of_getElem? (i := 14) rfl)
theorem tw_46 : (Cond.classLink RX11 55 RX6) ∈ lw_tbl := tp_2 _ (List.mem_of_getElem? (i := 13) rfl)
theorem tw_47 : (Cond.fieldLink RX11 51 "KnotHouse" "reader" "LKnotHouse$Reader;") ∈ lw_tbl := tp_3 _ (List.mem_of_getElem? (i := 84) rfl)
theorem tw_48 : (Cond.initialized RX9) ∈ lw_tbl := tp_1 _ (List.mem_of_getElem? (i := 6) rfl)
theorem in_wsX11_init_r2 : ∀ w ∈ wsX11_init_r2, w ∈ lw_tbl := by
  show ∀ w ∈ [Cond.initialized RX9, Cond.fieldLink RX11 51 "KnotHouse" "reader" "LKnotHouse$Reader;", Cond.classLink RX11 55 RX6, Cond.instantiable RX6 8, Cond.initialized RX6, Cond.fieldLink RX11 58 "KnotHouse" "mover" "LKnotHouse$Mover;", Cond.classLink RX11 62 RX8, Cond.instantiable RX8 9, Cond.initialized RX8, Cond.fieldLink RX11 65 "KnotHouse" "polynomials" "LKnotHouse$Polynomials;", Cond.classLink RX11 69 RX0, Cond.instantiable RX0 16, Cond.initialized RX0, Cond.fieldLink RX11 72 "KnotHouse" "arcs" "LKnotHouse$Arcs;", Cond.classLink RX11 76 RX1, Cond.instantiable RX1 20, Cond.initialized RX1, Cond.fieldLink RX11 79 "KnotHouse" "chains" "LKnotHouse$Chains;", Cond.arrayClass .byte, Cond.fieldLink RX11 83 "KnotHouse" "letters" "[B", Cond.arrayClass .int, Cond.fieldLink RX11 87 "KnotHouse" "lengths" "[I", Cond.fieldLink RX11 91 "KnotHouse" "strands" "[I", Cond.classLink RX11 94 RX5], w ∈ lw_tbl
  exact (List.forall_mem_cons.mpr ⟨tw_48, (List.forall_mem_cons.mpr ⟨tw_47, (List.forall_mem_cons.mpr ⟨tw_46, (List.forall_mem_cons.mpr ⟨tw_45, (List.forall_mem_cons.mpr ⟨tw_44, (List.forall_mem_cons.mpr ⟨tw_43, (List.forall_mem_cons.mpr ⟨tw_42, (List.forall_mem_cons.mpr ⟨tw_41, (List.forall_mem_cons.mpr ⟨tw_40, (List.forall_mem_cons.mpr ⟨tw_39, (List.forall_mem_cons.mpr ⟨tw_38, (List.forall_mem_cons.mpr ⟨tw_37, (List.forall_mem_cons.mpr ⟨tw_36, (List.forall_mem_cons.mpr ⟨tw_35, (List.forall_mem_cons.mpr ⟨tw_34, (List.forall_mem_cons.mpr ⟨tw_33, (List.forall_mem_cons.mpr ⟨tw_32, (List.forall_mem_cons.mpr ⟨tw_31, (List.forall_mem_cons.mpr ⟨tw_30, (List.forall_mem_cons.mpr ⟨tw_29, (List.forall_mem_cons.mpr ⟨tw_28, (List.forall_mem_cons.mpr ⟨tw_27, (List.forall_mem_cons.mpr ⟨tw_26, (List.forall_mem_cons.mpr ⟨tw_25, (fun _ h => absurd h List.not_mem_nil)⟩)⟩)⟩)⟩)⟩)⟩)⟩)⟩)⟩)⟩)⟩)⟩)⟩)⟩)⟩)⟩)⟩)⟩)⟩)⟩)⟩)⟩)⟩)⟩)
theorem tw_49 : (Cond.fieldLink RX7 21 "KnotHouse$Net" "order" "[I") ∈ lw_tbl := tp_1 _ (List.mem_of_getElem? (i := 108) rfl)
theorem tw_50 : (Cond.fieldLink RX7 18 "KnotHouse$Net" "sign" "[I") ∈ lw_tbl := tp_1 _ (List.mem_of_getElem? (i := 99) rfl)
theorem tw_51 : (Cond.fieldLink RX7 15 "KnotHouse$Net" "prev" "[I") ∈ lw_tbl := tp_1 _ (List.mem_of_getElem? (i := 94) rfl)
theorem tw_52 : (Cond.fieldLink RX7 9 "KnotHouse$Net" "next" "[I") ∈ lw_tbl := tp_1 _ (List.mem_of_getElem? (i := 87) rfl)
theorem tw_53 : (Cond.methodLink RX7 3 objectInit) ∈ lw_tbl := tp_1 _ (List.mem_of_getElem? (i := 86) rfl)
theorem tw_54 : (Cond.code yX7_init cX7_init 1 none) ∈ lw_tbl := tp_1 _ (List.mem_of_getElem? (i := 85) rfl)
theorem tw_55 : (Cond.instanceMethod yX7_init) ∈ lw_tbl := tp_1 _ (List.mem_of_getElem? (i := 84) rfl)
theorem tw_56 : (Cond.fieldLink RX3 21 "KnotHouse$Codes" "order" "[I") ∈ lw_tbl := tp_1 _ (List.mem_of_getElem? (i := 61) rfl)
theorem tw_57 : (Cond.fieldLink RX3 18 "KnotHouse$Codes" "crossings" "[B") ∈ lw_tbl := tp_1 _ (List.mem_of_getElem? (i := 57) rfl)
theorem tw_58 : (Cond.fieldLink RX3 15 "KnotHouse$Codes" "lengths" "[B") ∈ lw_tbl := tp_1 _ (List.mem_of_getElem? (i := 52) rfl)
theorem tw_59 : (Cond.fieldLink RX3 9 "KnotHouse$Codes" "cells" "[B") ∈ lw_tbl := tp_1 _ (List.mem_of_getElem? (i := 49) rfl)
theorem tw_60 : (Cond.methodLink RX3 3 objectInit) ∈ lw_tbl := tp_1 _ (List.mem_of_getElem? (i := 48) rfl)
theorem tw_61 : (Cond.code yX3_init cX3_init 2 none) ∈ lw_tbl := tp_1 _ (List.mem_of_getElem? (i := 47) rfl)
theorem tw_62 : (Cond.instanceMethod yX3_init) ∈ lw_tbl := tp_1 _ (List.mem_of_getElem? (i := 46) rfl)
theorem tw_63 : (Cond.methodLink RX11 11 yX3_init) ∈ lw_tbl := tp_1 _ (List.mem_of_getElem? (i := 45) rfl)
theorem tw_64 : (Cond.fieldLink RX11 111 "KnotHouse" "otherSet" "LKnotHouse$Summit;") ∈ lw_tbl := tp_3 _ (List.mem_of_getElem? (i := 95) rfl)
theorem tw_65 : (Cond.fieldLink RX11 107 "KnotHouse" "summitSet" "LKnotHouse$Summit;") ∈ lw_tbl := tp_3 _ (List.mem_of_getElem? (i := 94) rfl)
theorem tw_66 : (Cond.initialized RX10) ∈ lw_tbl := tp_1 _ (List.mem_of_getElem? (i := 13) rfl)
theorem tw_67 : (Cond.instantiable RX10 11) ∈ lw_tbl := tp_3 _ (List.mem_of_getElem? (i := 36) rfl)
theorem tw_68 : (Cond.classLink RX11 104 RX10) ∈ lw_tbl := tp_3 _ (List.mem_of_getElem? (i := 35) rfl)
theorem tw_69 : (Cond.fieldLink RX11 101 "KnotHouse" "otherForm" "LKnotHouse$Form;") ∈ lw_tbl := tp_3 _ (List.mem_of_getElem? (i := 93) rfl)
theorem tw_70 : (Cond.fieldLink RX11 97 "KnotHouse" "form" "LKnotHouse$Form;") ∈ lw_tbl := tp_3 _ (List.mem_of_getElem? (i := 92) rfl)
theorem tw_71 : (Cond.initialized RX5) ∈ lw_tbl := tp_1 _ (List.mem_of_getElem? (i := 10) rfl)
theorem tw_72 : (Cond.instantiable RX5 6) ∈ lw_tbl := tp_3 _ (List.mem_of_getElem? (i := 4) rfl)
theorem in_wsX11_init_r3 : ∀ w ∈ wsX11_init_r3, w ∈ lw_tbl := by
  show ∀ w ∈ [Cond.instantiable RX5 6, Cond.initialized RX5, Cond.fieldLink RX11 97 "KnotHouse" "form" "LKnotHouse$Form;", Cond.fieldLink RX11 101 "KnotHouse" "otherForm" "LKnotHouse$Form;", Cond.classLink RX11 104 RX10, Cond.instantiable RX10 11, Cond.initialized RX10, Cond.fieldLink RX11 107 "KnotHouse" "summitSet" "LKnotHouse$Summit;", Cond.fieldLink RX11 111 "KnotHouse" "otherSet" "LKnotHouse$Summit;", Cond.methodLink RX11 11 yX3_init, Cond.instanceMethod yX3_init, Cond.code yX3_init cX3_init 2 none, Cond.methodLink RX3 3 objectInit, Cond.fieldLink RX3 9 "KnotHouse$Codes" "cells" "[B", Cond.fieldLink RX3 15 "KnotHouse$Codes" "lengths" "[B", Cond.fieldLink RX3 18 "KnotHouse$Codes" "crossings" "[B", Cond.fieldLink RX3 21 "KnotHouse$Codes" "order" "[I", Cond.instanceMethod yX7_init, Cond.code yX7_init cX7_init 1 none, Cond.methodLink RX7 3 objectInit, Cond.fieldLink RX7 9 "KnotHouse$Net" "next" "[I", Cond.fieldLink RX7 15 "KnotHouse$Net" "prev" "[I", Cond.fieldLink RX7 18 "KnotHouse$Net" "sign" "[I", Cond.fieldLink RX7 21 "KnotHouse$Net" "order" "[I"], w ∈ lw_tbl
  exact (List.forall_mem_cons.mpr ⟨tw_72, (List.forall_mem_cons.mpr ⟨tw_71, (List.forall_mem_cons.mpr ⟨tw_70, (List.forall_mem_cons.mpr ⟨tw_69, (List.forall_mem_cons.mpr ⟨tw_68, (List.forall_mem_cons.mpr ⟨tw_67, (List.forall_mem_cons.mpr ⟨tw_66, (List.forall_mem_cons.mpr ⟨tw_65, (List.forall_mem_cons.mpr ⟨tw_64, (List.forall_mem_cons.mpr ⟨tw_63, (List.forall_mem_cons.mpr ⟨tw_62, (List.forall_mem_cons.mpr ⟨tw_61, (List.forall_mem_cons.mpr ⟨tw_60, (List.forall_mem_cons.mpr ⟨tw_59, (List.forall_mem_cons.mpr ⟨tw_58, (List.forall_mem_cons.mpr ⟨tw_57, (List.forall_mem_cons.mpr ⟨tw_56, (List.forall_mem_cons.mpr ⟨tw_55, (List.forall_mem_cons.mpr ⟨tw_54, (List.forall_mem_cons.mpr ⟨tw_53, (List.forall_mem_cons.mpr ⟨tw_52, (List.forall_mem_cons.mpr ⟨tw_51, (List.forall_mem_cons.mpr ⟨tw_50, (List.forall_mem_cons.mpr ⟨tw_49, (fun _ h => absurd h List.not_mem_nil)⟩)⟩)⟩)⟩)⟩)⟩)⟩)⟩)⟩)⟩)⟩)⟩)⟩)⟩)⟩)⟩)⟩)⟩)⟩)⟩)⟩)⟩)⟩)⟩)
theorem tw_73 : (Cond.fieldLink RX2 34 "KnotHouse$Coder" "named" "[I") ∈ lw_tbl := tp_1 _ (List.mem_of_getElem? (i := 213) rfl)
theorem tw_74 : (Cond.fieldLink RX2 30 "KnotHouse$Coder" "number" "[I") ∈ lw_tbl := tp_1 _ (List.mem_of_getElem? (i := 212) rfl)
theorem tw_75 : (Cond.fieldLink RX2 26 "KnotHouse$Coder" "trial" "[B") ∈ lw_tbl := tp_1 _ (List.mem_of_getElem? (i := 211) rfl)
theorem tw_76 : (Cond.fieldLink RX2 23 "KnotHouse$Coder" "sorted" "LKnotHouse$Codes;") ∈ lw_tbl := tp_1 _ (List.mem_of_getElem? (i := 210) rfl)
theorem tw_77 : (Cond.fieldLink RX2 20 "KnotHouse$Coder" "one" "LKnotHouse$Codes;") ∈ lw_tbl := tp_1 _ (List.mem_of_getElem? (i := 209) rfl)
theorem tw_78 : (Cond.fieldLink RX2 14 "KnotHouse$Coder" "out" "LKnotHouse$Codes;") ∈ lw_tbl := tp_1 _ (List.mem_of_getElem? (i := 206) rfl)
theorem tw_79 : (Cond.classLink RX2 9 RX3) ∈ lw_tbl := tp_1 _ (List.mem_of_getElem? (i := 204) rfl)
theorem tw_80 : (Cond.methodLink RX2 3 objectInit) ∈ lw_tbl := tp_1 _ (List.mem_of_getElem? (i := 203) rfl)
theorem tw_81 : (Cond.code yX2_init cX2_init 1 none) ∈ lw_tbl := tp_1 _ (List.mem_of_getElem? (i := 202) rfl)
theorem tw_82 : (Cond.instanceMethod yX2_init) ∈ lw_tbl := tp_1 _ (List.mem_of_getElem? (i := 201) rfl)
theorem tw_83 : (Cond.fieldLink RX4 31 "KnotHouse$Faces" "characteristic" "[J") ∈ lw_tbl := tp_1 _ (List.mem_of_getElem? (i := 179) rfl)
theorem tw_84 : (Cond.fieldLink RX4 28 "KnotHouse$Faces" "product" "[J") ∈ lw_tbl := tp_1 _ (List.mem_of_getElem? (i := 178) rfl)
theorem tw_85 : (Cond.fieldLink RX4 25 "KnotHouse$Faces" "power" "[J") ∈ lw_tbl := tp_1 _ (List.mem_of_getElem? (i := 177) rfl)
theorem tw_86 : (Cond.fieldLink RX4 21 "KnotHouse$Faces" "matrix" "[J") ∈ lw_tbl := tp_1 _ (List.mem_of_getElem? (i := 176) rfl)
theorem tw_87 : (Cond.arrayClass .long) ∈ lw_tbl := tp_1 _ (List.mem_of_getElem? (i := 197) rfl)
theorem tw_88 : (Cond.fieldLink RX4 18 "KnotHouse$Faces" "row" "[I") ∈ lw_tbl := tp_1 _ (List.mem_of_getElem? (i := 175) rfl)
theorem tw_89 : (Cond.fieldLink RX4 15 "KnotHouse$Faces" "colour" "[I") ∈ lw_tbl := tp_1 _ (List.mem_of_getElem? (i := 174) rfl)
theorem tw_90 : (Cond.fieldLink RX4 9 "KnotHouse$Faces" "face" "[I") ∈ lw_tbl := tp_1 _ (List.mem_of_getElem? (i := 171) rfl)
theorem tw_91 : (Cond.methodLink RX4 3 objectInit) ∈ lw_tbl := tp_1 _ (List.mem_of_getElem? (i := 170) rfl)
theorem tw_92 : (Cond.code yX4_init cX4_init 1 none) ∈ lw_tbl := tp_1 _ (List.mem_of_getElem? (i := 169) rfl)
theorem tw_93 : (Cond.instanceMethod yX4_init) ∈ lw_tbl := tp_1 _ (List.mem_of_getElem? (i := 168) rfl)
theorem tw_94 : (Cond.fieldLink RX7 30 "KnotHouse$Net" "queue" "[I") ∈ lw_tbl := tp_1 _ (List.mem_of_getElem? (i := 117) rfl)
theorem tw_95 : (Cond.fieldLink RX7 27 "KnotHouse$Net" "part" "[I") ∈ lw_tbl := tp_1 _ (List.mem_of_getElem? (i := 112) rfl)
theorem tw_96 : (Cond.fieldLink RX7 24 "KnotHouse$Net" "component" "[I") ∈ lw_tbl := tp_1 _ (List.mem_of_getElem? (i := 110) rfl)
theorem in_wsX11_init_r4 : ∀ w ∈ wsX11_init_r4, w ∈ lw_tbl := by
  show ∀ w ∈ [Cond.fieldLink RX7 24 "KnotHouse$Net" "component" "[I", Cond.fieldLink RX7 27 "KnotHouse$Net" "part" "[I", Cond.fieldLink RX7 30 "KnotHouse$Net" "queue" "[I", Cond.instanceMethod yX4_init, Cond.code yX4_init cX4_init 1 none, Cond.methodLink RX4 3 objectInit, Cond.fieldLink RX4 9 "KnotHouse$Faces" "face" "[I", Cond.fieldLink RX4 15 "KnotHouse$Faces" "colour" "[I", Cond.fieldLink RX4 18 "KnotHouse$Faces" "row" "[I", Cond.arrayClass .long, Cond.fieldLink RX4 21 "KnotHouse$Faces" "matrix" "[J", Cond.fieldLink RX4 25 "KnotHouse$Faces" "power" "[J", Cond.fieldLink RX4 28 "KnotHouse$Faces" "product" "[J", Cond.fieldLink RX4 31 "KnotHouse$Faces" "characteristic" "[J", Cond.instanceMethod yX2_init, Cond.code yX2_init cX2_init 1 none, Cond.methodLink RX2 3 objectInit, Cond.classLink RX2 9 RX3, Cond.fieldLink RX2 14 "KnotHouse$Coder" "out" "LKnotHouse$Codes;", Cond.fieldLink RX2 20 "KnotHouse$Coder" "one" "LKnotHouse$Codes;", Cond.fieldLink RX2 23 "KnotHouse$Coder" "sorted" "LKnotHouse$Codes;", Cond.fieldLink RX2 26 "KnotHouse$Coder" "trial" "[B", Cond.fieldLink RX2 30 "KnotHouse$Coder" "number" "[I", Cond.fieldLink RX2 34 "KnotHouse$Coder" "named" "[I"], w ∈ lw_tbl
  exact (List.forall_mem_cons.mpr ⟨tw_96, (List.forall_mem_cons.mpr ⟨tw_95, (List.forall_mem_cons.mpr ⟨tw_94, (List.forall_mem_cons.mpr ⟨tw_93, (List.forall_mem_cons.mpr ⟨tw_92, (List.forall_mem_cons.mpr ⟨tw_91, (List.forall_mem_cons.mpr ⟨tw_90, (List.forall_mem_cons.mpr ⟨tw_89, (List.forall_mem_cons.mpr ⟨tw_88, (List.forall_mem_cons.mpr ⟨tw_87, (List.forall_mem_cons.mpr ⟨tw_86, (List.forall_mem_cons.mpr ⟨tw_85, (List.forall_mem_cons.mpr ⟨tw_84, (List.forall_mem_cons.mpr ⟨tw_83, (List.forall_mem_cons.mpr ⟨tw_82, (List.forall_mem_cons.mpr ⟨tw_81, (List.forall_mem_cons.mpr ⟨tw_80, (List.forall_mem_cons.mpr ⟨tw_79, (List.forall_mem_cons.mpr ⟨tw_78, (List.forall_mem_cons.mpr ⟨tw_77, (List.forall_mem_cons.mpr ⟨tw_76, (List.forall_mem_cons.mpr ⟨tw_75, (List.forall_mem_cons.mpr ⟨tw_74, (List.forall_mem_cons.mpr ⟨tw_73, (fun _ h => absurd h List.not_mem_nil)⟩)⟩)⟩)⟩)⟩)⟩)⟩)⟩)⟩)⟩)⟩)⟩)⟩)⟩)⟩)⟩)⟩)⟩)⟩)⟩)⟩)⟩)⟩)⟩)
theorem tw_97 : (Cond.methodLink RX11 64 yX8_init) ∈ lw_tbl := tp_2 _ (List.mem_of_getElem? (i := 57) rfl)
theorem tw_98 : (Cond.methodLink RX6 11 yX3_init) ∈ lw_tbl := tp_2 _ (List.mem_of_getElem? (i := 20) rfl)
theorem tw_99 : (Cond.fieldLink RX6 49 "KnotHouse$Mover" "coder" "LKnotHouse$Coder;") ∈ lw_tbl := tp_2 _ (List.mem_of_getElem? (i := 37) rfl)
theorem tw_100 : (Cond.classLink RX6 46 RX2) ∈ lw_tbl := tp_2 _ (List.mem_of_getElem? (i := 25) rfl)
theorem tw_101 : (Cond.fieldLink RX6 43 "KnotHouse$Mover" "faces" "LKnotHouse$Faces;") ∈ lw_tbl := tp_2 _ (List.mem_of_getElem? (i := 36) rfl)
theorem tw_102 : (Cond.fieldLink RX6 39 "KnotHouse$Mover" "ground" "LKnotHouse$Faces;") ∈ lw_tbl := tp_2 _ (List.mem_of_getElem? (i := 35) rfl)
theorem tw_103 : (Cond.classLink RX6 36 RX4) ∈ lw_tbl := tp_2 _ (List.mem_of_getElem? (i := 23) rfl)
theorem tw_104 : (Cond.fieldLink RX6 33 "KnotHouse$Mover" "trial" "LKnotHouse$Net;") ∈ lw_tbl := tp_2 _ (List.mem_of_getElem? (i := 34) rfl)
theorem tw_105 : (Cond.fieldLink RX6 29 "KnotHouse$Mover" "net" "LKnotHouse$Net;") ∈ lw_tbl := tp_2 _ (List.mem_of_getElem? (i := 33) rfl)
theorem tw_106 : (Cond.classLink RX6 26 RX7) ∈ lw_tbl := tp_2 _ (List.mem_of_getElem? (i := 21) rfl)
theorem tw_107 : (Cond.fieldLink RX6 23 "KnotHouse$Mover" "nearOther" "LKnotHouse$Codes;") ∈ lw_tbl := tp_2 _ (List.mem_of_getElem? (i := 31) rfl)
theorem tw_108 : (Cond.fieldLink RX6 20 "KnotHouse$Mover" "near" "LKnotHouse$Codes;") ∈ lw_tbl := tp_2 _ (List.mem_of_getElem? (i := 29) rfl)
theorem tw_109 : (Cond.fieldLink RX6 14 "KnotHouse$Mover" "reached" "LKnotHouse$Codes;") ∈ lw_tbl := tp_2 _ (List.mem_of_getElem? (i := 27) rfl)
theorem tw_110 : (Cond.classLink RX6 9 RX3) ∈ lw_tbl := tp_2 _ (List.mem_of_getElem? (i := 19) rfl)
theorem tw_111 : (Cond.methodLink RX6 3 objectInit) ∈ lw_tbl := tp_2 _ (List.mem_of_getElem? (i := 18) rfl)
theorem tw_112 : (Cond.code yX6_init cX6_init 1 none) ∈ lw_tbl := tp_2 _ (List.mem_of_getElem? (i := 17) rfl)
theorem tw_113 : (Cond.instanceMethod yX6_init) ∈ lw_tbl := tp_2 _ (List.mem_of_getElem? (i := 16) rfl)
theorem tw_114 : (Cond.fieldLink RX9 19 "KnotHouse$Reader" "begins" "[I") ∈ lw_tbl := tp_1 _ (List.mem_of_getElem? (i := 237) rfl)
theorem tw_115 : (Cond.fieldLink RX9 15 "KnotHouse$Reader" "crossingOf" "[I") ∈ lw_tbl := tp_1 _ (List.mem_of_getElem? (i := 236) rfl)
theorem tw_116 : (Cond.fieldLink RX9 9 "KnotHouse$Reader" "tape" "[B") ∈ lw_tbl := tp_1 _ (List.mem_of_getElem? (i := 235) rfl)
theorem tw_117 : (Cond.methodLink RX9 3 objectInit) ∈ lw_tbl := tp_1 _ (List.mem_of_getElem? (i := 232) rfl)
theorem tw_118 : (Cond.code yX9_init cX9_init 1 none) ∈ lw_tbl := tp_1 _ (List.mem_of_getElem? (i := 231) rfl)
theorem tw_119 : (Cond.instanceMethod yX9_init) ∈ lw_tbl := tp_1 _ (List.mem_of_getElem? (i := 230) rfl)
theorem tw_120 : (Cond.methodLink RX2 11 yX3_init) ∈ lw_tbl := tp_1 _ (List.mem_of_getElem? (i := 205) rfl)
theorem in_wsX11_init_r5 : ∀ w ∈ wsX11_init_r5, w ∈ lw_tbl := by
  show ∀ w ∈ [Cond.methodLink RX2 11 yX3_init, Cond.instanceMethod yX9_init, Cond.code yX9_init cX9_init 1 none, Cond.methodLink RX9 3 objectInit, Cond.fieldLink RX9 9 "KnotHouse$Reader" "tape" "[B", Cond.fieldLink RX9 15 "KnotHouse$Reader" "crossingOf" "[I", Cond.fieldLink RX9 19 "KnotHouse$Reader" "begins" "[I", Cond.instanceMethod yX6_init, Cond.code yX6_init cX6_init 1 none, Cond.methodLink RX6 3 objectInit, Cond.classLink RX6 9 RX3, Cond.fieldLink RX6 14 "KnotHouse$Mover" "reached" "LKnotHouse$Codes;", Cond.fieldLink RX6 20 "KnotHouse$Mover" "near" "LKnotHouse$Codes;", Cond.fieldLink RX6 23 "KnotHouse$Mover" "nearOther" "LKnotHouse$Codes;", Cond.classLink RX6 26 RX7, Cond.fieldLink RX6 29 "KnotHouse$Mover" "net" "LKnotHouse$Net;", Cond.fieldLink RX6 33 "KnotHouse$Mover" "trial" "LKnotHouse$Net;", Cond.classLink RX6 36 RX4, Cond.fieldLink RX6 39 "KnotHouse$Mover" "ground" "LKnotHouse$Faces;", Cond.fieldLink RX6 43 "KnotHouse$Mover" "faces" "LKnotHouse$Faces;", Cond.classLink RX6 46 RX2, Cond.fieldLink RX6 49 "KnotHouse$Mover" "coder" "LKnotHouse$Coder;", Cond.methodLink RX6 11 yX3_init, Cond.methodLink RX11 64 yX8_init], w ∈ lw_tbl
  exact (List.forall_mem_cons.mpr ⟨tw_120, (List.forall_mem_cons.mpr ⟨tw_119, (List.forall_mem_cons.mpr ⟨tw_118, (List.forall_mem_cons.mpr ⟨tw_117, (List.forall_mem_cons.mpr ⟨tw_116, (List.forall_mem_cons.mpr ⟨tw_115, (List.forall_mem_cons.mpr ⟨tw_114, (List.forall_mem_cons.mpr ⟨tw_113, (List.forall_mem_cons.mpr ⟨tw_112, (List.forall_mem_cons.mpr ⟨tw_111, (List.forall_mem_cons.mpr ⟨tw_110, (List.forall_mem_cons.mpr ⟨tw_109, (List.forall_mem_cons.mpr ⟨tw_108, (List.forall_mem_cons.mpr ⟨tw_107, (List.forall_mem_cons.mpr ⟨tw_106, (List.forall_mem_cons.mpr ⟨tw_105, (List.forall_mem_cons.mpr ⟨tw_104, (List.forall_mem_cons.mpr ⟨tw_103, (List.forall_mem_cons.mpr ⟨tw_102, (List.forall_mem_cons.mpr ⟨tw_101, (List.forall_mem_cons.mpr ⟨tw_100, (List.forall_mem_cons.mpr ⟨tw_99, (List.forall_mem_cons.mpr ⟨tw_98, (List.forall_mem_cons.mpr ⟨tw_97, (fun _ h => absurd h List.not_mem_nil)⟩)⟩)⟩)⟩)⟩)⟩)⟩)⟩)⟩)⟩)⟩)⟩)⟩)⟩)⟩)⟩)⟩)⟩)⟩)⟩)⟩)⟩)⟩)⟩)
theorem tw_121 : (Cond.fieldLink RX0 24 "KnotHouse$Arcs" "conjugates" "[B") ∈ lw_tbl := tp_2 _ (List.mem_of_getElem? (i := 122) rfl)
theorem tw_122 : (Cond.fieldLink RX0 20 "KnotHouse$Arcs" "divisors" "[J") ∈ lw_tbl := tp_2 _ (List.mem_of_getElem? (i := 120) rfl)
theorem tw_123 : (Cond.fieldLink RX0 17 "KnotHouse$Arcs" "matrix" "[[J") ∈ lw_tbl := tp_2 _ (List.mem_of_getElem? (i := 119) rfl)
theorem tw_124 : (Cond.classLink RX0 15 "[[J") ∈ lw_tbl := tp_2 _ (List.mem_of_getElem? (i := 102) rfl)
theorem tw_125 : (Cond.fieldLink RX0 9 "KnotHouse$Arcs" "arc" "[I") ∈ lw_tbl := tp_2 _ (List.mem_of_getElem? (i := 117) rfl)
theorem tw_126 : (Cond.methodLink RX0 3 objectInit) ∈ lw_tbl := tp_2 _ (List.mem_of_getElem? (i := 101) rfl)
theorem tw_127 : (Cond.code yX0_init cX0_init 7 none) ∈ lw_tbl := tp_2 _ (List.mem_of_getElem? (i := 100) rfl)
theorem tw_128 : (Cond.instanceMethod yX0_init) ∈ lw_tbl := tp_2 _ (List.mem_of_getElem? (i := 99) rfl)
theorem tw_129 : (Cond.methodLink RX11 71 yX0_init) ∈ lw_tbl := tp_2 _ (List.mem_of_getElem? (i := 98) rfl)
theorem tw_130 : (Cond.methodLink RX8 11 yX3_init) ∈ lw_tbl := tp_2 _ (List.mem_of_getElem? (i := 62) rfl)
theorem tw_131 : (Cond.fieldLink RX8 45 "KnotHouse$Polynomials" "net" "LKnotHouse$Net;") ∈ lw_tbl := tp_2 _ (List.mem_of_getElem? (i := 75) rfl)
theorem tw_132 : (Cond.fieldLink RX8 41 "KnotHouse$Polynomials" "partner" "[I") ∈ lw_tbl := tp_2 _ (List.mem_of_getElem? (i := 74) rfl)
theorem tw_133 : (Cond.fieldLink RX8 38 "KnotHouse$Polynomials" "states" "[I") ∈ lw_tbl := tp_2 _ (List.mem_of_getElem? (i := 73) rfl)
theorem tw_134 : (Cond.fieldLink RX8 35 "KnotHouse$Polynomials" "choose" "[[I") ∈ lw_tbl := tp_2 _ (List.mem_of_getElem? (i := 72) rfl)
theorem tw_135 : (Cond.classLink RX8 33 "[[I") ∈ lw_tbl := tp_2 _ (List.mem_of_getElem? (i := 65) rfl)
theorem tw_136 : (Cond.fieldLink RX8 30 "KnotHouse$Polynomials" "inTwo" "[I") ∈ lw_tbl := tp_2 _ (List.mem_of_getElem? (i := 71) rfl)
theorem tw_137 : (Cond.fieldLink RX8 26 "KnotHouse$Polynomials" "inOne" "[I") ∈ lw_tbl := tp_2 _ (List.mem_of_getElem? (i := 70) rfl)
theorem tw_138 : (Cond.fieldLink RX8 22 "KnotHouse$Polynomials" "levels" "[LKnotHouse$Net;") ∈ lw_tbl := tp_2 _ (List.mem_of_getElem? (i := 69) rfl)
theorem tw_139 : (Cond.classLink RX8 20 RX7) ∈ lw_tbl := tp_2 _ (List.mem_of_getElem? (i := 63) rfl)
theorem tw_140 : (Cond.fieldLink RX8 14 "KnotHouse$Polynomials" "known" "LKnotHouse$Codes;") ∈ lw_tbl := tp_2 _ (List.mem_of_getElem? (i := 68) rfl)
theorem tw_141 : (Cond.classLink RX8 9 RX3) ∈ lw_tbl := tp_2 _ (List.mem_of_getElem? (i := 61) rfl)
theorem tw_142 : (Cond.methodLink RX8 3 objectInit) ∈ lw_tbl := tp_2 _ (List.mem_of_getElem? (i := 60) rfl)
theorem tw_143 : (Cond.code yX8_init cX8_init 3 none) ∈ lw_tbl := tp_2 _ (List.mem_of_getElem? (i := 59) rfl)
theorem tw_144 : (Cond.instanceMethod yX8_init) ∈ lw_tbl := tp_2 _ (List.mem_of_getElem? (i := 58) rfl)
theorem in_wsX11_init_r6 : ∀ w ∈ wsX11_init_r6, w ∈ lw_tbl := by
  show ∀ w ∈ [Cond.instanceMethod yX8_init, Cond.code yX8_init cX8_init 3 none, Cond.methodLink RX8 3 objectInit, Cond.classLink RX8 9 RX3, Cond.fieldLink RX8 14 "KnotHouse$Polynomials" "known" "LKnotHouse$Codes;", Cond.classLink RX8 20 RX7, Cond.fieldLink RX8 22 "KnotHouse$Polynomials" "levels" "[LKnotHouse$Net;", Cond.fieldLink RX8 26 "KnotHouse$Polynomials" "inOne" "[I", Cond.fieldLink RX8 30 "KnotHouse$Polynomials" "inTwo" "[I", Cond.classLink RX8 33 "[[I", Cond.fieldLink RX8 35 "KnotHouse$Polynomials" "choose" "[[I", Cond.fieldLink RX8 38 "KnotHouse$Polynomials" "states" "[I", Cond.fieldLink RX8 41 "KnotHouse$Polynomials" "partner" "[I", Cond.fieldLink RX8 45 "KnotHouse$Polynomials" "net" "LKnotHouse$Net;", Cond.methodLink RX8 11 yX3_init, Cond.methodLink RX11 71 yX0_init, Cond.instanceMethod yX0_init, Cond.code yX0_init cX0_init 7 none, Cond.methodLink RX0 3 objectInit, Cond.fieldLink RX0 9 "KnotHouse$Arcs" "arc" "[I", Cond.classLink RX0 15 "[[J", Cond.fieldLink RX0 17 "KnotHouse$Arcs" "matrix" "[[J", Cond.fieldLink RX0 20 "KnotHouse$Arcs" "divisors" "[J", Cond.fieldLink RX0 24 "KnotHouse$Arcs" "conjugates" "[B"], w ∈ lw_tbl
  exact (List.forall_mem_cons.mpr ⟨tw_144, (List.forall_mem_cons.mpr ⟨tw_143, (List.forall_mem_cons.mpr ⟨tw_142, (List.forall_mem_cons.mpr ⟨tw_141, (List.forall_mem_cons.mpr ⟨tw_140, (List.forall_mem_cons.mpr ⟨tw_139, (List.forall_mem_cons.mpr ⟨tw_138, (List.forall_mem_cons.mpr ⟨tw_137, (List.forall_mem_cons.mpr ⟨tw_136, (List.forall_mem_cons.mpr ⟨tw_135, (List.forall_mem_cons.mpr ⟨tw_134, (List.forall_mem_cons.mpr ⟨tw_133, (List.forall_mem_cons.mpr ⟨tw_132, (List.forall_mem_cons.mpr ⟨tw_131, (List.forall_mem_cons.mpr ⟨tw_130, (List.forall_mem_cons.mpr ⟨tw_129, (List.forall_mem_cons.mpr ⟨tw_128, (List.forall_mem_cons.mpr ⟨tw_127, (List.forall_mem_cons.mpr ⟨tw_126, (List.forall_mem_cons.mpr ⟨tw_125, (List.forall_mem_cons.mpr ⟨tw_124, (List.forall_mem_cons.mpr ⟨tw_123, (List.forall_mem_cons.mpr ⟨tw_122, (List.forall_mem_cons.mpr ⟨tw_121, (fun _ h => absurd h List.not_mem_nil)⟩)⟩)⟩)⟩)⟩)⟩)⟩)⟩)⟩)⟩)⟩)⟩)⟩)⟩)⟩)⟩)⟩)⟩)⟩)⟩)⟩)⟩)⟩)⟩)
theorem tw_145 : (Cond.instanceMethod yX1_init) ∈ lw_tbl := tp_2 _ (List.mem_of_getElem? (i := 170) rfl)
theorem tw_146 : (Cond.methodLink RX11 78 yX1_init) ∈ lw_tbl := tp_2 _ (List.mem_of_getElem? (i := 169) rfl)
theorem tw_147 : (Cond.methodLink RX5 15 yX5_image) ∈ lw_tbl := tp_2 _ (List.mem_of_getElem? (i := 116) rfl)
theorem tw_148 : (Cond.code yX5_invert cX5_invert 4 (some .int)) ∈ lw_tbl := tp_2 _ (List.mem_of_getElem? (i := 115) rfl)
theorem tw_149 : (Cond.static yX5_invert) ∈ lw_tbl := tp_2 _ (List.mem_of_getElem? (i := 114) rfl)
theorem tw_150 : (Cond.methodLink RX0 67 yX5_invert) ∈ lw_tbl := tp_2 _ (List.mem_of_getElem? (i := 113) rfl)
theorem tw_151 : (Cond.code yX0_indexOf cX0_indexOf 3 (some .int)) ∈ lw_tbl := tp_2 _ (List.mem_of_getElem? (i := 112) rfl)
theorem tw_152 : (Cond.static yX0_indexOf) ∈ lw_tbl := tp_2 _ (List.mem_of_getElem? (i := 111) rfl)
theorem tw_153 : (Cond.methodLink RX0 63 yX0_indexOf) ∈ lw_tbl := tp_2 _ (List.mem_of_getElem? (i := 110) rfl)
theorem tw_154 : (Cond.code yX5_image cX5_image 2 (some .int)) ∈ lw_tbl := tp_2 _ (List.mem_of_getElem? (i := 109) rfl)
theorem tw_155 : (Cond.static yX5_image) ∈ lw_tbl := tp_2 _ (List.mem_of_getElem? (i := 108) rfl)
theorem tw_156 : (Cond.methodLink RX0 57 yX5_image) ∈ lw_tbl := tp_2 _ (List.mem_of_getElem? (i := 107) rfl)
theorem tw_157 : (Cond.code yX0_listPermutations cX0_listPermutations 7 none) ∈ lw_tbl := tp_2 _ (List.mem_of_getElem? (i := 106) rfl)
theorem tw_158 : (Cond.static yX0_listPermutations) ∈ lw_tbl := tp_2 _ (List.mem_of_getElem? (i := 105) rfl)
theorem tw_159 : (Cond.methodLink RX0 53 yX0_listPermutations) ∈ lw_tbl := tp_2 _ (List.mem_of_getElem? (i := 104) rfl)
theorem tw_160 : (Cond.fieldLink RX0 49 "KnotHouse$Arcs" "stepInverse" "[Z") ∈ lw_tbl := tp_2 _ (List.mem_of_getElem? (i := 131) rfl)
theorem tw_161 : (Cond.arrayClass .boolean) ∈ lw_tbl := tp_2 _ (List.mem_of_getElem? (i := 166) rfl)
theorem tw_162 : (Cond.fieldLink RX0 46 "KnotHouse$Arcs" "stepFrom" "[I") ∈ lw_tbl := tp_2 _ (List.mem_of_getElem? (i := 130) rfl)
theorem tw_163 : (Cond.fieldLink RX0 43 "KnotHouse$Arcs" "stepBy" "[I") ∈ lw_tbl := tp_2 _ (List.mem_of_getElem? (i := 129) rfl)
theorem tw_164 : (Cond.fieldLink RX0 40 "KnotHouse$Arcs" "stepTo" "[I") ∈ lw_tbl := tp_2 _ (List.mem_of_getElem? (i := 128) rfl)
theorem tw_165 : (Cond.fieldLink RX0 37 "KnotHouse$Arcs" "stepKind" "[I") ∈ lw_tbl := tp_2 _ (List.mem_of_getElem? (i := 127) rfl)
theorem tw_166 : (Cond.fieldLink RX0 34 "KnotHouse$Arcs" "value" "[I") ∈ lw_tbl := tp_2 _ (List.mem_of_getElem? (i := 125) rfl)
theorem tw_167 : (Cond.fieldLink RX0 31 "KnotHouse$Arcs" "classSize" "[I") ∈ lw_tbl := tp_2 _ (List.mem_of_getElem? (i := 124) rfl)
theorem tw_168 : (Cond.fieldLink RX0 28 "KnotHouse$Arcs" "inverses" "[B") ∈ lw_tbl := tp_2 _ (List.mem_of_getElem? (i := 123) rfl)
theorem in_wsX11_init_r7 : ∀ w ∈ wsX11_init_r7, w ∈ lw_tbl := by
  show ∀ w ∈ [Cond.fieldLink RX0 28 "KnotHouse$Arcs" "inverses" "[B", Cond.fieldLink RX0 31 "KnotHouse$Arcs" "classSize" "[I", Cond.fieldLink RX0 34 "KnotHouse$Arcs" "value" "[I", Cond.fieldLink RX0 37 "KnotHouse$Arcs" "stepKind" "[I", Cond.fieldLink RX0 40 "KnotHouse$Arcs" "stepTo" "[I", Cond.fieldLink RX0 43 "KnotHouse$Arcs" "stepBy" "[I", Cond.fieldLink RX0 46 "KnotHouse$Arcs" "stepFrom" "[I", Cond.arrayClass .boolean, Cond.fieldLink RX0 49 "KnotHouse$Arcs" "stepInverse" "[Z", Cond.methodLink RX0 53 yX0_listPermutations, Cond.static yX0_listPermutations, Cond.code yX0_listPermutations cX0_listPermutations 7 none, Cond.methodLink RX0 57 yX5_image, Cond.static yX5_image, Cond.code yX5_image cX5_image 2 (some .int), Cond.methodLink RX0 63 yX0_indexOf, Cond.static yX0_indexOf, Cond.code yX0_indexOf cX0_indexOf 3 (some .int), Cond.methodLink RX0 67 yX5_invert, Cond.static yX5_invert, Cond.code yX5_invert cX5_invert 4 (some .int), Cond.methodLink RX5 15 yX5_image, Cond.methodLink RX11 78 yX1_init, Cond.instanceMethod yX1_init], w ∈ lw_tbl
  exact (List.forall_mem_cons.mpr ⟨tw_168, (List.forall_mem_cons.mpr ⟨tw_167, (List.forall_mem_cons.mpr ⟨tw_166, (List.forall_mem_cons.mpr ⟨tw_165, (List.forall_mem_cons.mpr ⟨tw_164, (List.forall_mem_cons.mpr ⟨tw_163, (List.forall_mem_cons.mpr ⟨tw_162, (List.forall_mem_cons.mpr ⟨tw_161, (List.forall_mem_cons.mpr ⟨tw_160, (List.forall_mem_cons.mpr ⟨tw_159, (List.forall_mem_cons.mpr ⟨tw_158, (List.forall_mem_cons.mpr ⟨tw_157, (List.forall_mem_cons.mpr ⟨tw_156, (List.forall_mem_cons.mpr ⟨tw_155, (List.forall_mem_cons.mpr ⟨tw_154, (List.forall_mem_cons.mpr ⟨tw_153, (List.forall_mem_cons.mpr ⟨tw_152, (List.forall_mem_cons.mpr ⟨tw_151, (List.forall_mem_cons.mpr ⟨tw_150, (List.forall_mem_cons.mpr ⟨tw_149, (List.forall_mem_cons.mpr ⟨tw_148, (List.forall_mem_cons.mpr ⟨tw_147, (List.forall_mem_cons.mpr ⟨tw_146, (List.forall_mem_cons.mpr ⟨tw_145, (fun _ h => absurd h List.not_mem_nil)⟩)⟩)⟩)⟩)⟩)⟩)⟩)⟩)⟩)⟩)⟩)⟩)⟩)⟩)⟩)⟩)⟩)⟩)⟩)⟩)⟩)⟩)⟩)⟩)
theorem tw_169 : (Cond.code yJ6_bitCount_0f7a4 cJ6_bitCount_0f7a4 1 (some .int)) ∈ lw_tbl := tp_2 _ (List.mem_of_getElem? (i := 178) rfl)
theorem tw_170 : (Cond.initialized RJ6) ∈ lw_tbl := tp_1 _ (List.mem_of_getElem? (i := 12) rfl)
theorem tw_171 : (Cond.static yJ6_bitCount_0f7a4) ∈ lw_tbl := tp_2 _ (List.mem_of_getElem? (i := 177) rfl)
theorem tw_172 : (Cond.methodLink RX1 67 yJ6_bitCount_0f7a4) ∈ lw_tbl := tp_2 _ (List.mem_of_getElem? (i := 176) rfl)
theorem tw_173 : (Cond.fieldLink RX1 64 "KnotHouse$Chains" "ranks" "[I") ∈ lw_tbl := tp_2 _ (List.mem_of_getElem? (i := 199) rfl)
theorem tw_174 : (Cond.fieldLink RX1 61 "KnotHouse$Chains" "values" "[I") ∈ lw_tbl := tp_2 _ (List.mem_of_getElem? (i := 197) rfl)
theorem tw_175 : (Cond.fieldLink RX1 58 "KnotHouse$Chains" "columns" "[I") ∈ lw_tbl := tp_2 _ (List.mem_of_getElem? (i := 196) rfl)
theorem tw_176 : (Cond.fieldLink RX1 55 "KnotHouse$Chains" "cleared" "[I") ∈ lw_tbl := tp_2 _ (List.mem_of_getElem? (i := 195) rfl)
theorem tw_177 : (Cond.fieldLink RX1 52 "KnotHouse$Chains" "rowTo" "[I") ∈ lw_tbl := tp_2 _ (List.mem_of_getElem? (i := 194) rfl)
theorem tw_178 : (Cond.fieldLink RX1 49 "KnotHouse$Chains" "rowFrom" "[I") ∈ lw_tbl := tp_2 _ (List.mem_of_getElem? (i := 193) rfl)
theorem tw_179 : (Cond.fieldLink RX1 46 "KnotHouse$Chains" "work" "[I") ∈ lw_tbl := tp_2 _ (List.mem_of_getElem? (i := 192) rfl)
theorem tw_180 : (Cond.fieldLink RX1 43 "KnotHouse$Chains" "sizes" "[I") ∈ lw_tbl := tp_2 _ (List.mem_of_getElem? (i := 190) rfl)
theorem tw_181 : (Cond.fieldLink RX1 40 "KnotHouse$Chains" "begins" "[I") ∈ lw_tbl := tp_2 _ (List.mem_of_getElem? (i := 189) rfl)
theorem tw_182 : (Cond.fieldLink RX1 37 "KnotHouse$Chains" "plus" "[I") ∈ lw_tbl := tp_2 _ (List.mem_of_getElem? (i := 188) rfl)
theorem tw_183 : (Cond.fieldLink RX1 34 "KnotHouse$Chains" "choose" "[[I") ∈ lw_tbl := tp_2 _ (List.mem_of_getElem? (i := 187) rfl)
theorem tw_184 : (Cond.classLink RX1 32 "[[I") ∈ lw_tbl := tp_2 _ (List.mem_of_getElem? (i := 175) rfl)
theorem tw_185 : (Cond.fieldLink RX1 29 "KnotHouse$Chains" "placeOf" "[I") ∈ lw_tbl := tp_2 _ (List.mem_of_getElem? (i := 186) rfl)
theorem tw_186 : (Cond.fieldLink RX1 26 "KnotHouse$Chains" "gapOf" "[B") ∈ lw_tbl := tp_2 _ (List.mem_of_getElem? (i := 185) rfl)
theorem tw_187 : (Cond.fieldLink RX1 22 "KnotHouse$Chains" "loops" "[I") ∈ lw_tbl := tp_2 _ (List.mem_of_getElem? (i := 184) rfl)
theorem tw_188 : (Cond.fieldLink RX1 18 "KnotHouse$Chains" "loopOf" "[B") ∈ lw_tbl := tp_2 _ (List.mem_of_getElem? (i := 183) rfl)
theorem tw_189 : (Cond.fieldLink RX1 12 "KnotHouse$Chains" "net" "LKnotHouse$Net;") ∈ lw_tbl := tp_2 _ (List.mem_of_getElem? (i := 182) rfl)
theorem tw_190 : (Cond.classLink RX1 9 RX7) ∈ lw_tbl := tp_2 _ (List.mem_of_getElem? (i := 173) rfl)
theorem tw_191 : (Cond.methodLink RX1 3 objectInit) ∈ lw_tbl := tp_2 _ (List.mem_of_getElem? (i := 172) rfl)
theorem tw_192 : (Cond.code yX1_init cX1_init 3 none) ∈ lw_tbl := tp_2 _ (List.mem_of_getElem? (i := 171) rfl)
theorem in_wsX11_init_r8 : ∀ w ∈ wsX11_init_r8, w ∈ lw_tbl := by
  show ∀ w ∈ [Cond.code yX1_init cX1_init 3 none, Cond.methodLink RX1 3 objectInit, Cond.classLink RX1 9 RX7, Cond.fieldLink RX1 12 "KnotHouse$Chains" "net" "LKnotHouse$Net;", Cond.fieldLink RX1 18 "KnotHouse$Chains" "loopOf" "[B", Cond.fieldLink RX1 22 "KnotHouse$Chains" "loops" "[I", Cond.fieldLink RX1 26 "KnotHouse$Chains" "gapOf" "[B", Cond.fieldLink RX1 29 "KnotHouse$Chains" "placeOf" "[I", Cond.classLink RX1 32 "[[I", Cond.fieldLink RX1 34 "KnotHouse$Chains" "choose" "[[I", Cond.fieldLink RX1 37 "KnotHouse$Chains" "plus" "[I", Cond.fieldLink RX1 40 "KnotHouse$Chains" "begins" "[I", Cond.fieldLink RX1 43 "KnotHouse$Chains" "sizes" "[I", Cond.fieldLink RX1 46 "KnotHouse$Chains" "work" "[I", Cond.fieldLink RX1 49 "KnotHouse$Chains" "rowFrom" "[I", Cond.fieldLink RX1 52 "KnotHouse$Chains" "rowTo" "[I", Cond.fieldLink RX1 55 "KnotHouse$Chains" "cleared" "[I", Cond.fieldLink RX1 58 "KnotHouse$Chains" "columns" "[I", Cond.fieldLink RX1 61 "KnotHouse$Chains" "values" "[I", Cond.fieldLink RX1 64 "KnotHouse$Chains" "ranks" "[I", Cond.methodLink RX1 67 yJ6_bitCount_0f7a4, Cond.static yJ6_bitCount_0f7a4, Cond.initialized RJ6, Cond.code yJ6_bitCount_0f7a4 cJ6_bitCount_0f7a4 1 (some .int)], w ∈ lw_tbl
  exact (List.forall_mem_cons.mpr ⟨tw_192, (List.forall_mem_cons.mpr ⟨tw_191, (List.forall_mem_cons.mpr ⟨tw_190, (List.forall_mem_cons.mpr ⟨tw_189, (List.forall_mem_cons.mpr ⟨tw_188, (List.forall_mem_cons.mpr ⟨tw_187, (List.forall_mem_cons.mpr ⟨tw_186, (List.forall_mem_cons.mpr ⟨tw_185, (List.forall_mem_cons.mpr ⟨tw_184, (List.forall_mem_cons.mpr ⟨tw_183, (List.forall_mem_cons.mpr ⟨tw_182, (List.forall_mem_cons.mpr ⟨tw_181, (List.forall_mem_cons.mpr ⟨tw_180, (List.forall_mem_cons.mpr ⟨tw_179, (List.forall_mem_cons.mpr ⟨tw_178, (List.forall_mem_cons.mpr ⟨tw_177, (List.forall_mem_cons.mpr ⟨tw_176, (List.forall_mem_cons.mpr ⟨tw_175, (List.forall_mem_cons.mpr ⟨tw_174, (List.forall_mem_cons.mpr ⟨tw_173, (List.forall_mem_cons.mpr ⟨tw_172, (List.forall_mem_cons.mpr ⟨tw_171, (List.forall_mem_cons.mpr ⟨tw_170, (List.forall_mem_cons.mpr ⟨tw_169, (fun _ h => absurd h List.not_mem_nil)⟩)⟩)⟩)⟩)⟩)⟩)⟩)⟩)⟩)⟩)⟩)⟩)⟩)⟩)⟩)⟩)⟩)⟩)⟩)⟩)⟩)⟩)⟩)⟩)
theorem tw_193 : (Cond.fieldLink RX10 31 "KnotHouse$Summit" "stayed" "[I") ∈ lw_tbl := tp_3 _ (List.mem_of_getElem? (i := 52) rfl)
theorem tw_194 : (Cond.fieldLink RX10 28 "KnotHouse$Summit" "changes" "[I") ∈ lw_tbl := tp_3 _ (List.mem_of_getElem? (i := 51) rfl)
theorem tw_195 : (Cond.fieldLink RX10 25 "KnotHouse$Summit" "simples" "[I") ∈ lw_tbl := tp_3 _ (List.mem_of_getElem? (i := 50) rfl)
theorem tw_196 : (Cond.fieldLink RX10 21 "KnotHouse$Summit" "work" "LKnotHouse$Form;") ∈ lw_tbl := tp_3 _ (List.mem_of_getElem? (i := 49) rfl)
theorem tw_197 : (Cond.classLink RX10 18 RX5) ∈ lw_tbl := tp_3 _ (List.mem_of_getElem? (i := 41) rfl)
theorem tw_198 : (Cond.fieldLink RX10 15 "KnotHouse$Summit" "order" "[I") ∈ lw_tbl := tp_3 _ (List.mem_of_getElem? (i := 48) rfl)
theorem tw_199 : (Cond.fieldLink RX10 11 "KnotHouse$Summit" "rows" "[I") ∈ lw_tbl := tp_3 _ (List.mem_of_getElem? (i := 47) rfl)
theorem tw_200 : (Cond.methodLink RX10 3 objectInit) ∈ lw_tbl := tp_3 _ (List.mem_of_getElem? (i := 40) rfl)
theorem tw_201 : (Cond.code yX10_init cX10_init 1 none) ∈ lw_tbl := tp_3 _ (List.mem_of_getElem? (i := 39) rfl)
theorem tw_202 : (Cond.instanceMethod yX10_init) ∈ lw_tbl := tp_3 _ (List.mem_of_getElem? (i := 38) rfl)
theorem tw_203 : (Cond.fieldLink RX5 11 "KnotHouse$Form" "factors" "[I") ∈ lw_tbl := tp_3 _ (List.mem_of_getElem? (i := 17) rfl)
theorem tw_204 : (Cond.methodLink RX5 3 objectInit) ∈ lw_tbl := tp_3 _ (List.mem_of_getElem? (i := 8) rfl)
theorem tw_205 : (Cond.code yX5_init cX5_init 1 none) ∈ lw_tbl := tp_3 _ (List.mem_of_getElem? (i := 7) rfl)
theorem tw_206 : (Cond.instanceMethod yX5_init) ∈ lw_tbl := tp_3 _ (List.mem_of_getElem? (i := 6) rfl)
theorem tw_207 : (Cond.constant RJ6 267 (252645135)) ∈ lw_tbl := tp_2 _ (List.mem_of_getElem? (i := 181) rfl)
theorem tw_208 : (Cond.constant RJ6 266 (858993459)) ∈ lw_tbl := tp_2 _ (List.mem_of_getElem? (i := 180) rfl)
theorem tw_209 : (Cond.constant RJ6 265 (1431655765)) ∈ lw_tbl := tp_2 _ (List.mem_of_getElem? (i := 179) rfl)
theorem in_wsX11_init_r9 : ∀ w ∈ wsX11_init_r9, w ∈ lw_tbl := by
  show ∀ w ∈ [Cond.constant RJ6 265 (1431655765), Cond.constant RJ6 266 (858993459), Cond.constant RJ6 267 (252645135), Cond.instanceMethod yX5_init, Cond.code yX5_init cX5_init 1 none, Cond.methodLink RX5 3 objectInit, Cond.fieldLink RX5 11 "KnotHouse$Form" "factors" "[I", Cond.instanceMethod yX10_init, Cond.code yX10_init cX10_init 1 none, Cond.methodLink RX10 3 objectInit, Cond.fieldLink RX10 11 "KnotHouse$Summit" "rows" "[I", Cond.fieldLink RX10 15 "KnotHouse$Summit" "order" "[I", Cond.classLink RX10 18 RX5, Cond.fieldLink RX10 21 "KnotHouse$Summit" "work" "LKnotHouse$Form;", Cond.fieldLink RX10 25 "KnotHouse$Summit" "simples" "[I", Cond.fieldLink RX10 28 "KnotHouse$Summit" "changes" "[I", Cond.fieldLink RX10 31 "KnotHouse$Summit" "stayed" "[I"], w ∈ lw_tbl
  exact (List.forall_mem_cons.mpr ⟨tw_209, (List.forall_mem_cons.mpr ⟨tw_208, (List.forall_mem_cons.mpr ⟨tw_207, (List.forall_mem_cons.mpr ⟨tw_206, (List.forall_mem_cons.mpr ⟨tw_205, (List.forall_mem_cons.mpr ⟨tw_204, (List.forall_mem_cons.mpr ⟨tw_203, (List.forall_mem_cons.mpr ⟨tw_202, (List.forall_mem_cons.mpr ⟨tw_201, (List.forall_mem_cons.mpr ⟨tw_200, (List.forall_mem_cons.mpr ⟨tw_199, (List.forall_mem_cons.mpr ⟨tw_198, (List.forall_mem_cons.mpr ⟨tw_197, (List.forall_mem_cons.mpr ⟨tw_196, (List.forall_mem_cons.mpr ⟨tw_195, (List.forall_mem_cons.mpr ⟨tw_194, (List.forall_mem_cons.mpr ⟨tw_193, (fun _ h => absurd h List.not_mem_nil)⟩)⟩)⟩)⟩)⟩)⟩)⟩)⟩)⟩)⟩)⟩)⟩)⟩)⟩)⟩)⟩)⟩)
theorem in_wsX30 : ∀ w ∈ wsX30, w ∈ lw_tbl := fun w h => List.mem_append_right _ (ow_inr wsX30 [68, 70, 72, 74, 76] (by decide +kernel) w h)
theorem in_wsX110 : ∀ w ∈ wsX110, w ∈ lw_tbl := fun w h => List.mem_append_right _ (ow_inr wsX110 [576, 578, 580, 582, 584, 586, 588, 590, 592, 594, 596, 598, 600, 602, 604, 606, 608, 610, 612] (by decide +kernel) w h)
theorem in_wsX70 : ∀ w ∈ wsX70, w ∈ lw_tbl := fun w h => List.mem_append_right _ (ow_inr wsX70 [142, 144, 146, 148, 150, 152, 154, 156, 158, 160, 162] (by decide +kernel) w h)
theorem in_wsX40 : ∀ w ∈ wsX40, w ∈ lw_tbl := fun w h => List.mem_append_right _ (ow_inr wsX40 [180, 182, 184, 186, 188, 190, 192, 194] (by decide +kernel) w h)
theorem in_wsX20 : ∀ w ∈ wsX20, w ∈ lw_tbl := fun w h => List.mem_append_right _ (ow_inr wsX20 [214, 216, 218, 220, 222, 224] (by decide +kernel) w h)
theorem in_wsX90 : ∀ w ∈ wsX90, w ∈ lw_tbl := fun w h => List.mem_append_right _ (ow_inr wsX90 [240, 242, 244, 246, 248, 250] (by decide +kernel) w h)
theorem in_wsX60 : ∀ w ∈ wsX60, w ∈ lw_tbl := fun w h => List.mem_append_right _ (ow_inr wsX60 [278, 280, 282, 284, 286, 288, 290, 292] (by decide +kernel) w h)
theorem in_wsX80 : ∀ w ∈ wsX80, w ∈ lw_tbl := fun w h => List.mem_append_right _ (ow_inr wsX80 [317, 319, 321, 323, 325, 327, 329, 331, 333] (by decide +kernel) w h)
theorem in_wsX00 : ∀ w ∈ wsX00, w ∈ lw_tbl := fun w h => List.mem_append_right _ (ow_inr wsX00 [373, 375, 377, 379, 381, 383, 385, 387, 389, 391, 393, 395, 397, 399, 401, 403] (by decide +kernel) w h)
theorem in_wsX10 : ∀ w ∈ wsX10, w ∈ lw_tbl := fun w h => List.mem_append_right _ (ow_inr wsX10 [442, 444, 446, 448, 450, 452, 454, 456, 458, 460, 462, 464, 466, 468, 470, 472, 474, 476, 478, 480] (by decide +kernel) w h)
theorem in_wsX50 : ∀ w ∈ wsX50, w ∈ lw_tbl := fun w h => List.mem_append_right _ (ow_inr wsX50 [502, 504, 506, 508, 510, 512] (by decide +kernel) w h)
theorem in_wsX100 : ∀ w ∈ wsX100, w ∈ lw_tbl := fun w h => List.mem_append_right _ (ow_inr wsX100 [534, 536, 538, 540, 542, 544, 546, 548, 550, 552, 554] (by decide +kernel) w h)
theorem in_wsX11_init : ∀ w ∈ wsX11_init, w ∈ lw_tbl := by
  show ∀ w ∈ .code yX11_init cX11_init 1 none :: ((wsX11_init_r1 ++ (wsX11_init_r2 ++ (wsX11_init_r3 ++ (wsX11_init_r4 ++ (wsX11_init_r5 ++ (wsX11_init_r6 ++ (wsX11_init_r7 ++ (wsX11_init_r8 ++ wsX11_init_r9)))))))) ++ wsX30 ++ wsX110 ++ wsX70 ++ wsX40 ++ wsX20 ++ wsX90 ++ wsX60 ++ wsX80 ++ wsX00 ++ wsX10 ++ wsX50 ++ wsX100), w ∈ lw_tbl
  exact (List.forall_mem_cons.mpr ⟨tw_0, (List.forall_mem_append.mpr ⟨(List.forall_mem_append.mpr ⟨(List.forall_mem_append.mpr ⟨(List.forall_mem_append.mpr ⟨(List.forall_mem_append.mpr ⟨(List.forall_mem_append.mpr ⟨(List.forall_mem_append.mpr ⟨(List.forall_mem_append.mpr ⟨(List.forall_mem_append.mpr ⟨(List.forall_mem_append.mpr ⟨(List.forall_mem_append.mpr ⟨(List.forall_mem_append.mpr ⟨(List.forall_mem_append.mpr ⟨in_wsX11_init_r1, (List.forall_mem_append.mpr ⟨in_wsX11_init_r2, (List.forall_mem_append.mpr ⟨in_wsX11_init_r3, (List.forall_mem_append.mpr ⟨in_wsX11_init_r4, (List.forall_mem_append.mpr ⟨in_wsX11_init_r5, (List.forall_mem_append.mpr ⟨in_wsX11_init_r6, (List.forall_mem_append.mpr ⟨in_wsX11_init_r7, (List.forall_mem_append.mpr ⟨in_wsX11_init_r8, in_wsX11_init_r9⟩)⟩)⟩)⟩)⟩)⟩)⟩)⟩), in_wsX30⟩), in_wsX110⟩), in_wsX70⟩), in_wsX40⟩), in_wsX20⟩), in_wsX90⟩), in_wsX60⟩), in_wsX80⟩), in_wsX00⟩), in_wsX10⟩), in_wsX50⟩), in_wsX100⟩)⟩)
theorem tw_210 : (Cond.code yX13_init cX13_init 2 none) ∈ lw_tbl := tp_9 _ (List.mem_of_getElem? (i := 94) rfl)
theorem tw_211 : (Cond.instanceMethod yX12_init) ∈ lw_tbl := tp_9 _ (List.mem_of_getElem? (i := 99) rfl)
theorem tw_212 : (Cond.initialized RX12) ∈ lw_tbl := tp_1 _ (List.mem_of_getElem? (i := 15) rfl)
theorem tw_213 : (Cond.instantiable RX12 16) ∈ lw_tbl := tp_9 _ (List.mem_of_getElem? (i := 97) rfl)
theorem tw_214 : (Cond.classLink RX13 19 RX12) ∈ lw_tbl := tp_9 _ (List.mem_of_getElem? (i := 96) rfl)
theorem tw_215 : (Cond.constant RX13 316 (900000)) ∈ lw_tbl := tp_9 _ (List.mem_of_getElem? (i := 168) rfl)
theorem tw_216 : (Cond.constant RX13 136 (86400)) ∈ lw_tbl := tp_9 _ (List.mem_of_getElem? (i := 166) rfl)
theorem tw_217 : (Cond.methodLink RX13 101 objectInit) ∈ lw_tbl := tp_9 _ (List.mem_of_getElem? (i := 95) rfl)
theorem tw_218 : (Cond.fieldLink RX13 186 "KnotHouseModel" "conway" "[J") ∈ lw_tbl := tp_9 _ (List.mem_of_getElem? (i := 235) rfl)
theorem tw_219 : (Cond.fieldLink RX13 183 "KnotHouseModel" "wasMet" "[Z") ∈ lw_tbl := tp_9 _ (List.mem_of_getElem? (i := 234) rfl)
theorem tw_220 : (Cond.fieldLink RX13 179 "KnotHouseModel" "level" "[LKnotHouseModel$Net;") ∈ lw_tbl := tp_9 _ (List.mem_of_getElem? (i := 233) rfl)
theorem tw_221 : (Cond.fieldLink RX13 176 "KnotHouseModel" "ordered" "[I") ∈ lw_tbl := tp_9 _ (List.mem_of_getElem? (i := 232) rfl)
theorem tw_222 : (Cond.fieldLink RX13 173 "KnotHouseModel" "reached" "[Z") ∈ lw_tbl := tp_9 _ (List.mem_of_getElem? (i := 231) rfl)
theorem tw_223 : (Cond.fieldLink RX13 170 "KnotHouseModel" "waits" "[I") ∈ lw_tbl := tp_9 _ (List.mem_of_getElem? (i := 230) rfl)
theorem tw_224 : (Cond.fieldLink RX13 167 "KnotHouseModel" "summands" "[I") ∈ lw_tbl := tp_9 _ (List.mem_of_getElem? (i := 228) rfl)
theorem tw_225 : (Cond.fieldLink RX13 164 "KnotHouseModel" "corner" "[I") ∈ lw_tbl := tp_9 _ (List.mem_of_getElem? (i := 227) rfl)
theorem tw_226 : (Cond.fieldLink RX13 161 "KnotHouseModel" "side" "[I") ∈ lw_tbl := tp_9 _ (List.mem_of_getElem? (i := 226) rfl)
theorem tw_227 : (Cond.fieldLink RX13 158 "KnotHouseModel" "putUnder" "[I") ∈ lw_tbl := tp_9 _ (List.mem_of_getElem? (i := 225) rfl)
theorem tw_228 : (Cond.fieldLink RX13 155 "KnotHouseModel" "putCross" "[I") ∈ lw_tbl := tp_9 _ (List.mem_of_getElem? (i := 224) rfl)
theorem tw_229 : (Cond.fieldLink RX13 152 "KnotHouseModel" "target" "[I") ∈ lw_tbl := tp_9 _ (List.mem_of_getElem? (i := 221) rfl)
theorem tw_230 : (Cond.fieldLink RX13 149 "KnotHouseModel" "fresh" "[I") ∈ lw_tbl := tp_9 _ (List.mem_of_getElem? (i := 220) rfl)
theorem tw_231 : (Cond.fieldLink RX13 146 "KnotHouseModel" "seen" "[I") ∈ lw_tbl := tp_9 _ (List.mem_of_getElem? (i := 218) rfl)
theorem tw_232 : (Cond.fieldLink RX13 143 "KnotHouseModel" "near" "[I") ∈ lw_tbl := tp_9 _ (List.mem_of_getElem? (i := 216) rfl)
theorem tw_233 : (Cond.fieldLink RX13 140 "KnotHouseModel" "order" "[I") ∈ lw_tbl := tp_9 _ (List.mem_of_getElem? (i := 214) rfl)
theorem tw_234 : (Cond.fieldLink RX13 137 "KnotHouseModel" "list" "[I") ∈ lw_tbl := tp_9 _ (List.mem_of_getElem? (i := 213) rfl)
theorem tw_235 : (Cond.fieldLink RX13 133 "KnotHouseModel" "nameHas" "[I") ∈ lw_tbl := tp_9 _ (List.mem_of_getElem? (i := 212) rfl)
theorem tw_236 : (Cond.fieldLink RX13 130 "KnotHouseModel" "nameAt" "[I") ∈ lw_tbl := tp_9 _ (List.mem_of_getElem? (i := 211) rfl)
theorem tw_237 : (Cond.fieldLink RX13 127 "KnotHouseModel" "nameSign" "[I") ∈ lw_tbl := tp_9 _ (List.mem_of_getElem? (i := 210) rfl)
theorem tw_238 : (Cond.fieldLink RX13 124 "KnotHouseModel" "name" "[I") ∈ lw_tbl := tp_9 _ (List.mem_of_getElem? (i := 209) rfl)
theorem tw_239 : (Cond.fieldLink RX13 121 "KnotHouseModel" "made" "LKnotHouseModel$Net;") ∈ lw_tbl := tp_9 _ (List.mem_of_getElem? (i := 208) rfl)
theorem tw_240 : (Cond.fieldLink RX13 118 "KnotHouseModel" "other" "LKnotHouseModel$Net;") ∈ lw_tbl := tp_9 _ (List.mem_of_getElem? (i := 207) rfl)
theorem tw_241 : (Cond.fieldLink RX13 114 "KnotHouseModel" "cur" "LKnotHouseModel$Net;") ∈ lw_tbl := tp_9 _ (List.mem_of_getElem? (i := 206) rfl)
theorem tw_242 : (Cond.fieldLink RX13 110 "KnotHouseModel" "rows" "[I") ∈ lw_tbl := tp_9 _ (List.mem_of_getElem? (i := 205) rfl)
theorem tw_243 : (Cond.fieldLink RX13 106 "KnotHouseModel" "tape" "[B") ∈ lw_tbl := tp_9 _ (List.mem_of_getElem? (i := 203) rfl)
theorem tw_244 : (Cond.fieldLink RX13 88 "KnotHouseModel" "written" "[Z") ∈ lw_tbl := tp_9 _ (List.mem_of_getElem? (i := 202) rfl)
theorem tw_245 : (Cond.fieldLink RX13 85 "KnotHouseModel" "partVisits" "[I") ∈ lw_tbl := tp_9 _ (List.mem_of_getElem? (i := 201) rfl)
theorem tw_246 : (Cond.fieldLink RX13 54 "KnotHouseModel" "partRow" "[I") ∈ lw_tbl := tp_9 _ (List.mem_of_getElem? (i := 200) rfl)
theorem tw_247 : (Cond.fieldLink RX13 11 "KnotHouseModel" "gone" "[Z") ∈ lw_tbl := tp_9 _ (List.mem_of_getElem? (i := 199) rfl)
theorem tw_248 : (Cond.fieldLink RX13 26 "KnotHouseModel" "met" "[I") ∈ lw_tbl := tp_9 _ (List.mem_of_getElem? (i := 198) rfl)
theorem tw_249 : (Cond.fieldLink RX13 7 "KnotHouseModel" "number" "[I") ∈ lw_tbl := tp_9 _ (List.mem_of_getElem? (i := 197) rfl)
theorem tw_250 : (Cond.fieldLink RX13 29 "KnotHouseModel" "trial" "[I") ∈ lw_tbl := tp_9 _ (List.mem_of_getElem? (i := 195) rfl)
theorem in_wf_Minit_f0 : ∀ w ∈ wf_Minit_f0, w ∈ lw_tbl := by
  show ∀ w ∈ [.fieldLink RX13 29 "KnotHouseModel" "trial" "[I", .fieldLink RX13 7 "KnotHouseModel" "number" "[I", .fieldLink RX13 26 "KnotHouseModel" "met" "[I", .fieldLink RX13 11 "KnotHouseModel" "gone" "[Z", .fieldLink RX13 54 "KnotHouseModel" "partRow" "[I", .fieldLink RX13 85 "KnotHouseModel" "partVisits" "[I", .fieldLink RX13 88 "KnotHouseModel" "written" "[Z", .fieldLink RX13 106 "KnotHouseModel" "tape" "[B", .fieldLink RX13 110 "KnotHouseModel" "rows" "[I", .fieldLink RX13 114 "KnotHouseModel" "cur" "LKnotHouseModel$Net;", .fieldLink RX13 118 "KnotHouseModel" "other" "LKnotHouseModel$Net;", .fieldLink RX13 121 "KnotHouseModel" "made" "LKnotHouseModel$Net;", .fieldLink RX13 124 "KnotHouseModel" "name" "[I", .fieldLink RX13 127 "KnotHouseModel" "nameSign" "[I", .fieldLink RX13 130 "KnotHouseModel" "nameAt" "[I", .fieldLink RX13 133 "KnotHouseModel" "nameHas" "[I", .fieldLink RX13 137 "KnotHouseModel" "list" "[I", .fieldLink RX13 140 "KnotHouseModel" "order" "[I", .fieldLink RX13 143 "KnotHouseModel" "near" "[I", .fieldLink RX13 146 "KnotHouseModel" "seen" "[I", .fieldLink RX13 149 "KnotHouseModel" "fresh" "[I", .fieldLink RX13 152 "KnotHouseModel" "target" "[I", .fieldLink RX13 155 "KnotHouseModel" "putCross" "[I", .fieldLink RX13 158 "KnotHouseModel" "putUnder" "[I", .fieldLink RX13 161 "KnotHouseModel" "side" "[I", .fieldLink RX13 164 "KnotHouseModel" "corner" "[I", .fieldLink RX13 167 "KnotHouseModel" "summands" "[I", .fieldLink RX13 170 "KnotHouseModel" "waits" "[I", .fieldLink RX13 173 "KnotHouseModel" "reached" "[Z", .fieldLink RX13 176 "KnotHouseModel" "ordered" "[I", .fieldLink RX13 179 "KnotHouseModel" "level" "[LKnotHouseModel$Net;", .fieldLink RX13 183 "KnotHouseModel" "wasMet" "[Z", .fieldLink RX13 186 "KnotHouseModel" "conway" "[J"], w ∈ lw_tbl
  exact (List.forall_mem_cons.mpr ⟨tw_250, (List.forall_mem_cons.mpr ⟨tw_249, (List.forall_mem_cons.mpr ⟨tw_248, (List.forall_mem_cons.mpr ⟨tw_247, (List.forall_mem_cons.mpr ⟨tw_246, (List.forall_mem_cons.mpr ⟨tw_245, (List.forall_mem_cons.mpr ⟨tw_244, (List.forall_mem_cons.mpr ⟨tw_243, (List.forall_mem_cons.mpr ⟨tw_242, (List.forall_mem_cons.mpr ⟨tw_241, (List.forall_mem_cons.mpr ⟨tw_240, (List.forall_mem_cons.mpr ⟨tw_239, (List.forall_mem_cons.mpr ⟨tw_238, (List.forall_mem_cons.mpr ⟨tw_237, (List.forall_mem_cons.mpr ⟨tw_236, (List.forall_mem_cons.mpr ⟨tw_235, (List.forall_mem_cons.mpr ⟨tw_234, (List.forall_mem_cons.mpr ⟨tw_233, (List.forall_mem_cons.mpr ⟨tw_232, (List.forall_mem_cons.mpr ⟨tw_231, (List.forall_mem_cons.mpr ⟨tw_230, (List.forall_mem_cons.mpr ⟨tw_229, (List.forall_mem_cons.mpr ⟨tw_228, (List.forall_mem_cons.mpr ⟨tw_227, (List.forall_mem_cons.mpr ⟨tw_226, (List.forall_mem_cons.mpr ⟨tw_225, (List.forall_mem_cons.mpr ⟨tw_224, (List.forall_mem_cons.mpr ⟨tw_223, (List.forall_mem_cons.mpr ⟨tw_222, (List.forall_mem_cons.mpr ⟨tw_221, (List.forall_mem_cons.mpr ⟨tw_220, (List.forall_mem_cons.mpr ⟨tw_219, (List.forall_mem_cons.mpr ⟨tw_218, (fun _ h => absurd h List.not_mem_nil)⟩)⟩)⟩)⟩)⟩)⟩)⟩)⟩)⟩)⟩)⟩)⟩)⟩)⟩)⟩)⟩)⟩)⟩)⟩)⟩)⟩)⟩)⟩)⟩)⟩)⟩)⟩)⟩)⟩)⟩)⟩)⟩)⟩)
theorem tw_251 : (Cond.fieldLink RX13 286 "KnotHouseModel" "loopOf" "[B") ∈ lw_tbl := tp_10 _ (List.mem_of_getElem? (i := 34) rfl)
theorem tw_252 : (Cond.fieldLink RX13 283 "KnotHouseModel" "ofPart" "[Z") ∈ lw_tbl := tp_10 _ (List.mem_of_getElem? (i := 33) rfl)
theorem tw_253 : (Cond.fieldLink RX13 280 "KnotHouseModel" "trail" "[I") ∈ lw_tbl := tp_10 _ (List.mem_of_getElem? (i := 31) rfl)
theorem tw_254 : (Cond.fieldLink RX13 277 "KnotHouseModel" "given" "[I") ∈ lw_tbl := tp_10 _ (List.mem_of_getElem? (i := 30) rfl)
theorem tw_255 : (Cond.fieldLink RX13 274 "KnotHouseModel" "back" "[I") ∈ lw_tbl := tp_10 _ (List.mem_of_getElem? (i := 29) rfl)
theorem tw_256 : (Cond.fieldLink RX13 271 "KnotHouseModel" "down" "[I") ∈ lw_tbl := tp_10 _ (List.mem_of_getElem? (i := 28) rfl)
theorem tw_257 : (Cond.fieldLink RX13 268 "KnotHouseModel" "images" "[I") ∈ lw_tbl := tp_10 _ (List.mem_of_getElem? (i := 27) rfl)
theorem tw_258 : (Cond.fieldLink RX13 265 "KnotHouseModel" "things" "[I") ∈ lw_tbl := tp_10 _ (List.mem_of_getElem? (i := 26) rfl)
theorem tw_259 : (Cond.fieldLink RX13 262 "KnotHouseModel" "square" "[J") ∈ lw_tbl := tp_10 _ (List.mem_of_getElem? (i := 25) rfl)
theorem tw_260 : (Cond.fieldLink RX13 259 "KnotHouseModel" "leftCol" "[I") ∈ lw_tbl := tp_10 _ (List.mem_of_getElem? (i := 22) rfl)
theorem tw_261 : (Cond.fieldLink RX13 256 "KnotHouseModel" "leftRow" "[I") ∈ lw_tbl := tp_10 _ (List.mem_of_getElem? (i := 21) rfl)
theorem tw_262 : (Cond.fieldLink RX13 253 "KnotHouseModel" "cover" "[J") ∈ lw_tbl := tp_10 _ (List.mem_of_getElem? (i := 19) rfl)
theorem tw_263 : (Cond.fieldLink RX13 250 "KnotHouseModel" "coverRow" "[I") ∈ lw_tbl := tp_10 _ (List.mem_of_getElem? (i := 18) rfl)
theorem tw_264 : (Cond.fieldLink RX13 247 "KnotHouseModel" "grid" "[J") ∈ lw_tbl := tp_10 _ (List.mem_of_getElem? (i := 17) rfl)
theorem tw_265 : (Cond.fieldLink RX13 244 "KnotHouseModel" "from" "[I") ∈ lw_tbl := tp_10 _ (List.mem_of_getElem? (i := 16) rfl)
theorem tw_266 : (Cond.fieldLink RX13 241 "KnotHouseModel" "into" "[I") ∈ lw_tbl := tp_10 _ (List.mem_of_getElem? (i := 15) rfl)
theorem tw_267 : (Cond.fieldLink RX13 238 "KnotHouseModel" "over" "[I") ∈ lw_tbl := tp_10 _ (List.mem_of_getElem? (i := 14) rfl)
theorem tw_268 : (Cond.fieldLink RX13 235 "KnotHouseModel" "begun" "[I") ∈ lw_tbl := tp_10 _ (List.mem_of_getElem? (i := 13) rfl)
theorem tw_269 : (Cond.fieldLink RX13 232 "KnotHouseModel" "arc" "[I") ∈ lw_tbl := tp_10 _ (List.mem_of_getElem? (i := 12) rfl)
theorem tw_270 : (Cond.fieldLink RX13 229 "KnotHouseModel" "terms" "[J") ∈ lw_tbl := tp_10 _ (List.mem_of_getElem? (i := 10) rfl)
theorem tw_271 : (Cond.fieldLink RX13 226 "KnotHouseModel" "before" "[J") ∈ lw_tbl := tp_10 _ (List.mem_of_getElem? (i := 9) rfl)
theorem tw_272 : (Cond.fieldLink RX13 223 "KnotHouseModel" "product" "[J") ∈ lw_tbl := tp_10 _ (List.mem_of_getElem? (i := 8) rfl)
theorem tw_273 : (Cond.fieldLink RX13 220 "KnotHouseModel" "form" "[J") ∈ lw_tbl := tp_10 _ (List.mem_of_getElem? (i := 7) rfl)
theorem tw_274 : (Cond.fieldLink RX13 217 "KnotHouseModel" "white" "[I") ∈ lw_tbl := tp_10 _ (List.mem_of_getElem? (i := 6) rfl)
theorem tw_275 : (Cond.fieldLink RX13 214 "KnotHouseModel" "colour" "[I") ∈ lw_tbl := tp_10 _ (List.mem_of_getElem? (i := 5) rfl)
theorem tw_276 : (Cond.fieldLink RX13 211 "KnotHouseModel" "states" "[J") ∈ lw_tbl := tp_10 _ (List.mem_of_getElem? (i := 4) rfl)
theorem tw_277 : (Cond.fieldLink RX13 208 "KnotHouseModel" "jonesRow" "[I") ∈ lw_tbl := tp_10 _ (List.mem_of_getElem? (i := 3) rfl)
theorem tw_278 : (Cond.fieldLink RX13 205 "KnotHouseModel" "power" "[J") ∈ lw_tbl := tp_10 _ (List.mem_of_getElem? (i := 2) rfl)
theorem tw_279 : (Cond.fieldLink RX13 202 "KnotHouseModel" "jones" "[J") ∈ lw_tbl := tp_10 _ (List.mem_of_getElem? (i := 1) rfl)
theorem tw_280 : (Cond.fieldLink RX13 199 "KnotHouseModel" "group" "[I") ∈ lw_tbl := tp_10 _ (List.mem_of_getElem? (i := 0) rfl)
theorem tw_281 : (Cond.fieldLink RX13 196 "KnotHouseModel" "twiceRow" "[I") ∈ lw_tbl := tp_9 _ (List.mem_of_getElem? (i := 238) rfl)
theorem tw_282 : (Cond.fieldLink RX13 193 "KnotHouseModel" "twice" "[J") ∈ lw_tbl := tp_9 _ (List.mem_of_getElem? (i := 237) rfl)
theorem tw_283 : (Cond.fieldLink RX13 190 "KnotHouseModel" "conwayRow" "[I") ∈ lw_tbl := tp_9 _ (List.mem_of_getElem? (i := 236) rfl)
theorem in_wf_Minit_f1 : ∀ w ∈ wf_Minit_f1, w ∈ lw_tbl := by
  show ∀ w ∈ [.fieldLink RX13 190 "KnotHouseModel" "conwayRow" "[I", .fieldLink RX13 193 "KnotHouseModel" "twice" "[J", .fieldLink RX13 196 "KnotHouseModel" "twiceRow" "[I", .fieldLink RX13 199 "KnotHouseModel" "group" "[I", .fieldLink RX13 202 "KnotHouseModel" "jones" "[J", .fieldLink RX13 205 "KnotHouseModel" "power" "[J", .fieldLink RX13 208 "KnotHouseModel" "jonesRow" "[I", .fieldLink RX13 211 "KnotHouseModel" "states" "[J", .fieldLink RX13 214 "KnotHouseModel" "colour" "[I", .fieldLink RX13 217 "KnotHouseModel" "white" "[I", .fieldLink RX13 220 "KnotHouseModel" "form" "[J", .fieldLink RX13 223 "KnotHouseModel" "product" "[J", .fieldLink RX13 226 "KnotHouseModel" "before" "[J", .fieldLink RX13 229 "KnotHouseModel" "terms" "[J", .fieldLink RX13 232 "KnotHouseModel" "arc" "[I", .fieldLink RX13 235 "KnotHouseModel" "begun" "[I", .fieldLink RX13 238 "KnotHouseModel" "over" "[I", .fieldLink RX13 241 "KnotHouseModel" "into" "[I", .fieldLink RX13 244 "KnotHouseModel" "from" "[I", .fieldLink RX13 247 "KnotHouseModel" "grid" "[J", .fieldLink RX13 250 "KnotHouseModel" "coverRow" "[I", .fieldLink RX13 253 "KnotHouseModel" "cover" "[J", .fieldLink RX13 256 "KnotHouseModel" "leftRow" "[I", .fieldLink RX13 259 "KnotHouseModel" "leftCol" "[I", .fieldLink RX13 262 "KnotHouseModel" "square" "[J", .fieldLink RX13 265 "KnotHouseModel" "things" "[I", .fieldLink RX13 268 "KnotHouseModel" "images" "[I", .fieldLink RX13 271 "KnotHouseModel" "down" "[I", .fieldLink RX13 274 "KnotHouseModel" "back" "[I", .fieldLink RX13 277 "KnotHouseModel" "given" "[I", .fieldLink RX13 280 "KnotHouseModel" "trail" "[I", .fieldLink RX13 283 "KnotHouseModel" "ofPart" "[Z", .fieldLink RX13 286 "KnotHouseModel" "loopOf" "[B"], w ∈ lw_tbl
  exact (List.forall_mem_cons.mpr ⟨tw_283, (List.forall_mem_cons.mpr ⟨tw_282, (List.forall_mem_cons.mpr ⟨tw_281, (List.forall_mem_cons.mpr ⟨tw_280, (List.forall_mem_cons.mpr ⟨tw_279, (List.forall_mem_cons.mpr ⟨tw_278, (List.forall_mem_cons.mpr ⟨tw_277, (List.forall_mem_cons.mpr ⟨tw_276, (List.forall_mem_cons.mpr ⟨tw_275, (List.forall_mem_cons.mpr ⟨tw_274, (List.forall_mem_cons.mpr ⟨tw_273, (List.forall_mem_cons.mpr ⟨tw_272, (List.forall_mem_cons.mpr ⟨tw_271, (List.forall_mem_cons.mpr ⟨tw_270, (List.forall_mem_cons.mpr ⟨tw_269, (List.forall_mem_cons.mpr ⟨tw_268, (List.forall_mem_cons.mpr ⟨tw_267, (List.forall_mem_cons.mpr ⟨tw_266, (List.forall_mem_cons.mpr ⟨tw_265, (List.forall_mem_cons.mpr ⟨tw_264, (List.forall_mem_cons.mpr ⟨tw_263, (List.forall_mem_cons.mpr ⟨tw_262, (List.forall_mem_cons.mpr ⟨tw_261, (List.forall_mem_cons.mpr ⟨tw_260, (List.forall_mem_cons.mpr ⟨tw_259, (List.forall_mem_cons.mpr ⟨tw_258, (List.forall_mem_cons.mpr ⟨tw_257, (List.forall_mem_cons.mpr ⟨tw_256, (List.forall_mem_cons.mpr ⟨tw_255, (List.forall_mem_cons.mpr ⟨tw_254, (List.forall_mem_cons.mpr ⟨tw_253, (List.forall_mem_cons.mpr ⟨tw_252, (List.forall_mem_cons.mpr ⟨tw_251, (fun _ h => absurd h List.not_mem_nil)⟩)⟩)⟩)⟩)⟩)⟩)⟩)⟩)⟩)⟩)⟩)⟩)⟩)⟩)⟩)⟩)⟩)⟩)⟩)⟩)⟩)⟩)⟩)⟩)⟩)⟩)⟩)⟩)⟩)⟩)⟩)⟩)⟩)
theorem tw_284 : (Cond.fieldLink RX13 383 "KnotHouseModel" "closed" "[Z") ∈ lw_tbl := tp_10 _ (List.mem_of_getElem? (i := 73) rfl)
theorem tw_285 : (Cond.fieldLink RX13 380 "KnotHouseModel" "leads" "[I") ∈ lw_tbl := tp_10 _ (List.mem_of_getElem? (i := 72) rfl)
theorem tw_286 : (Cond.fieldLink RX13 377 "KnotHouseModel" "two" "[I") ∈ lw_tbl := tp_10 _ (List.mem_of_getElem? (i := 71) rfl)
theorem tw_287 : (Cond.fieldLink RX13 374 "KnotHouseModel" "one" "[I") ∈ lw_tbl := tp_10 _ (List.mem_of_getElem? (i := 70) rfl)
theorem tw_288 : (Cond.fieldLink RX13 371 "KnotHouseModel" "forms" "[I") ∈ lw_tbl := tp_10 _ (List.mem_of_getElem? (i := 68) rfl)
theorem tw_289 : (Cond.fieldLink RX13 368 "KnotHouseModel" "formS" "[I") ∈ lw_tbl := tp_10 _ (List.mem_of_getElem? (i := 67) rfl)
theorem tw_290 : (Cond.fieldLink RX13 365 "KnotHouseModel" "quotient" "[I") ∈ lw_tbl := tp_10 _ (List.mem_of_getElem? (i := 63) rfl)
theorem tw_291 : (Cond.fieldLink RX13 362 "KnotHouseModel" "word" "[I") ∈ lw_tbl := tp_10 _ (List.mem_of_getElem? (i := 61) rfl)
theorem tw_292 : (Cond.fieldLink RX13 359 "KnotHouseModel" "signed" "[I") ∈ lw_tbl := tp_10 _ (List.mem_of_getElem? (i := 60) rfl)
theorem tw_293 : (Cond.fieldLink RX13 356 "KnotHouseModel" "endRow" "[I") ∈ lw_tbl := tp_10 _ (List.mem_of_getElem? (i := 59) rfl)
theorem tw_294 : (Cond.fieldLink RX13 353 "KnotHouseModel" "leaves" "[I") ∈ lw_tbl := tp_10 _ (List.mem_of_getElem? (i := 58) rfl)
theorem tw_295 : (Cond.fieldLink RX13 350 "KnotHouseModel" "passes" "[I") ∈ lw_tbl := tp_10 _ (List.mem_of_getElem? (i := 57) rfl)
theorem tw_296 : (Cond.fieldLink RX13 347 "KnotHouseModel" "over2" "[I") ∈ lw_tbl := tp_10 _ (List.mem_of_getElem? (i := 56) rfl)
theorem tw_297 : (Cond.fieldLink RX13 344 "KnotHouseModel" "ahead" "[I") ∈ lw_tbl := tp_10 _ (List.mem_of_getElem? (i := 55) rfl)
theorem tw_298 : (Cond.fieldLink RX13 341 "KnotHouseModel" "more" "[I") ∈ lw_tbl := tp_10 _ (List.mem_of_getElem? (i := 54) rfl)
theorem tw_299 : (Cond.fieldLink RX13 338 "KnotHouseModel" "sizes" "[I") ∈ lw_tbl := tp_10 _ (List.mem_of_getElem? (i := 53) rfl)
theorem tw_300 : (Cond.fieldLink RX13 335 "KnotHouseModel" "letters" "[I") ∈ lw_tbl := tp_10 _ (List.mem_of_getElem? (i := 52) rfl)
theorem tw_301 : (Cond.fieldLink RX13 332 "KnotHouseModel" "ends" "[I") ∈ lw_tbl := tp_10 _ (List.mem_of_getElem? (i := 51) rfl)
theorem tw_302 : (Cond.fieldLink RX13 329 "KnotHouseModel" "simples" "[I") ∈ lw_tbl := tp_10 _ (List.mem_of_getElem? (i := 50) rfl)
theorem tw_303 : (Cond.fieldLink RX13 326 "KnotHouseModel" "strands" "[I") ∈ lw_tbl := tp_10 _ (List.mem_of_getElem? (i := 49) rfl)
theorem tw_304 : (Cond.fieldLink RX13 323 "KnotHouseModel" "lengths" "[I") ∈ lw_tbl := tp_10 _ (List.mem_of_getElem? (i := 48) rfl)
theorem tw_305 : (Cond.fieldLink RX13 320 "KnotHouseModel" "words" "[I") ∈ lw_tbl := tp_10 _ (List.mem_of_getElem? (i := 47) rfl)
theorem tw_306 : (Cond.fieldLink RX13 317 "KnotHouseModel" "pool" "[I") ∈ lw_tbl := tp_10 _ (List.mem_of_getElem? (i := 45) rfl)
theorem tw_307 : (Cond.fieldLink RX13 313 "KnotHouseModel" "rowEnd" "[I") ∈ lw_tbl := tp_10 _ (List.mem_of_getElem? (i := 44) rfl)
theorem tw_308 : (Cond.fieldLink RX13 310 "KnotHouseModel" "rowBegin" "[I") ∈ lw_tbl := tp_10 _ (List.mem_of_getElem? (i := 43) rfl)
theorem tw_309 : (Cond.fieldLink RX13 307 "KnotHouseModel" "work" "[I") ∈ lw_tbl := tp_10 _ (List.mem_of_getElem? (i := 42) rfl)
theorem tw_310 : (Cond.fieldLink RX13 304 "KnotHouseModel" "ranks" "[I") ∈ lw_tbl := tp_10 _ (List.mem_of_getElem? (i := 40) rfl)
theorem tw_311 : (Cond.fieldLink RX13 301 "KnotHouseModel" "steps" "[I") ∈ lw_tbl := tp_10 _ (List.mem_of_getElem? (i := 39) rfl)
theorem tw_312 : (Cond.fieldLink RX13 298 "KnotHouseModel" "many" "[I") ∈ lw_tbl := tp_10 _ (List.mem_of_getElem? (i := 38) rfl)
theorem tw_313 : (Cond.fieldLink RX13 295 "KnotHouseModel" "place" "[I") ∈ lw_tbl := tp_10 _ (List.mem_of_getElem? (i := 37) rfl)
theorem tw_314 : (Cond.fieldLink RX13 292 "KnotHouseModel" "base" "[I") ∈ lw_tbl := tp_10 _ (List.mem_of_getElem? (i := 36) rfl)
theorem tw_315 : (Cond.fieldLink RX13 289 "KnotHouseModel" "loopCount" "[I") ∈ lw_tbl := tp_10 _ (List.mem_of_getElem? (i := 35) rfl)
theorem in_wf_Minit_f2 : ∀ w ∈ wf_Minit_f2, w ∈ lw_tbl := by
  show ∀ w ∈ [.fieldLink RX13 289 "KnotHouseModel" "loopCount" "[I", .fieldLink RX13 292 "KnotHouseModel" "base" "[I", .fieldLink RX13 295 "KnotHouseModel" "place" "[I", .fieldLink RX13 298 "KnotHouseModel" "many" "[I", .fieldLink RX13 301 "KnotHouseModel" "steps" "[I", .fieldLink RX13 304 "KnotHouseModel" "ranks" "[I", .fieldLink RX13 307 "KnotHouseModel" "work" "[I", .fieldLink RX13 310 "KnotHouseModel" "rowBegin" "[I", .fieldLink RX13 313 "KnotHouseModel" "rowEnd" "[I", .fieldLink RX13 317 "KnotHouseModel" "pool" "[I", .fieldLink RX13 320 "KnotHouseModel" "words" "[I", .fieldLink RX13 323 "KnotHouseModel" "lengths" "[I", .fieldLink RX13 326 "KnotHouseModel" "strands" "[I", .fieldLink RX13 329 "KnotHouseModel" "simples" "[I", .fieldLink RX13 332 "KnotHouseModel" "ends" "[I", .fieldLink RX13 335 "KnotHouseModel" "letters" "[I", .fieldLink RX13 338 "KnotHouseModel" "sizes" "[I", .fieldLink RX13 341 "KnotHouseModel" "more" "[I", .fieldLink RX13 344 "KnotHouseModel" "ahead" "[I", .fieldLink RX13 347 "KnotHouseModel" "over2" "[I", .fieldLink RX13 350 "KnotHouseModel" "passes" "[I", .fieldLink RX13 353 "KnotHouseModel" "leaves" "[I", .fieldLink RX13 356 "KnotHouseModel" "endRow" "[I", .fieldLink RX13 359 "KnotHouseModel" "signed" "[I", .fieldLink RX13 362 "KnotHouseModel" "word" "[I", .fieldLink RX13 365 "KnotHouseModel" "quotient" "[I", .fieldLink RX13 368 "KnotHouseModel" "formS" "[I", .fieldLink RX13 371 "KnotHouseModel" "forms" "[I", .fieldLink RX13 374 "KnotHouseModel" "one" "[I", .fieldLink RX13 377 "KnotHouseModel" "two" "[I", .fieldLink RX13 380 "KnotHouseModel" "leads" "[I", .fieldLink RX13 383 "KnotHouseModel" "closed" "[Z"], w ∈ lw_tbl
  exact (List.forall_mem_cons.mpr ⟨tw_315, (List.forall_mem_cons.mpr ⟨tw_314, (List.forall_mem_cons.mpr ⟨tw_313, (List.forall_mem_cons.mpr ⟨tw_312, (List.forall_mem_cons.mpr ⟨tw_311, (List.forall_mem_cons.mpr ⟨tw_310, (List.forall_mem_cons.mpr ⟨tw_309, (List.forall_mem_cons.mpr ⟨tw_308, (List.forall_mem_cons.mpr ⟨tw_307, (List.forall_mem_cons.mpr ⟨tw_306, (List.forall_mem_cons.mpr ⟨tw_305, (List.forall_mem_cons.mpr ⟨tw_304, (List.forall_mem_cons.mpr ⟨tw_303, (List.forall_mem_cons.mpr ⟨tw_302, (List.forall_mem_cons.mpr ⟨tw_301, (List.forall_mem_cons.mpr ⟨tw_300, (List.forall_mem_cons.mpr ⟨tw_299, (List.forall_mem_cons.mpr ⟨tw_298, (List.forall_mem_cons.mpr ⟨tw_297, (List.forall_mem_cons.mpr ⟨tw_296, (List.forall_mem_cons.mpr ⟨tw_295, (List.forall_mem_cons.mpr ⟨tw_294, (List.forall_mem_cons.mpr ⟨tw_293, (List.forall_mem_cons.mpr ⟨tw_292, (List.forall_mem_cons.mpr ⟨tw_291, (List.forall_mem_cons.mpr ⟨tw_290, (List.forall_mem_cons.mpr ⟨tw_289, (List.forall_mem_cons.mpr ⟨tw_288, (List.forall_mem_cons.mpr ⟨tw_287, (List.forall_mem_cons.mpr ⟨tw_286, (List.forall_mem_cons.mpr ⟨tw_285, (List.forall_mem_cons.mpr ⟨tw_284, (fun _ h => absurd h List.not_mem_nil)⟩)⟩)⟩)⟩)⟩)⟩)⟩)⟩)⟩)⟩)⟩)⟩)⟩)⟩)⟩)⟩)⟩)⟩)⟩)⟩)⟩)⟩)⟩)⟩)⟩)⟩)⟩)⟩)⟩)⟩)⟩)⟩)
theorem in_wsX130 : ∀ w ∈ wsX130, w ∈ lw_tbl := fun w h => List.mem_append_right _ (ow_inr wsX130 [2234, 2236, 2238, 2240, 2242, 2244, 2246, 2248, 2250, 2252, 2254, 2256, 2258, 2260, 2262, 2264, 2266, 2268, 2270, 2272, 2274, 2276, 2278, 2280, 2282, 2284, 2286, 2288, 2290, 2292, 2294, 2296, 2298, 2300, 2302, 2304, 2306, 2308, 2310, 2312, 2314, 2316, 2318, 2320, 2322, 2324, 2326, 2328, 2330, 2332, 2334, 2336, 2338, 2340, 2342, 2344, 2346, 2348, 2350, 2352, 2354, 2356, 2358, 2360, 2362, 2364, 2366, 2368, 2370, 2372, 2374, 2376, 2378, 2380, 2382, 2384, 2386, 2388, 2390, 2392, 2394, 2396, 2398, 2400, 2402, 2404, 2406, 2408, 2410, 2412, 2414, 2416, 2418, 2420, 2422, 2424, 2426, 2428, 2430, 2432, 2434, 2436, 2438, 2440, 2442, 2444, 2446, 2448, 2450, 2452, 2454, 2456, 2458, 2460, 2462, 2464, 2466, 2468, 2470, 2472] (by decide +kernel) w h)
theorem in_wsX120 : ∀ w ∈ wsX120, w ∈ lw_tbl := fun w h => List.mem_append_right _ (ow_inr wsX120 [2053, 2055, 2057, 2059, 2061, 2063, 2065, 2067, 2069, 2071, 2073, 2075, 2077, 2079, 2081, 2083] (by decide +kernel) w h)
theorem tw_316 : (Cond.code yX12_init cX12_init 1 none) ∈ lw_tbl := tp_9 _ (List.mem_of_getElem? (i := 100) rfl)
theorem tw_317 : (Cond.fieldLink RX12 45 "KnotHouseModel$Net" "sides" "[I") ∈ lw_tbl := tp_9 _ (List.mem_of_getElem? (i := 129) rfl)
theorem tw_318 : (Cond.fieldLink RX12 42 "KnotHouseModel$Net" "face" "[I") ∈ lw_tbl := tp_9 _ (List.mem_of_getElem? (i := 127) rfl)
theorem tw_319 : (Cond.fieldLink RX12 39 "KnotHouseModel$Net" "part" "[I") ∈ lw_tbl := tp_9 _ (List.mem_of_getElem? (i := 123) rfl)
theorem tw_320 : (Cond.fieldLink RX12 36 "KnotHouseModel$Net" "first" "[I") ∈ lw_tbl := tp_9 _ (List.mem_of_getElem? (i := 122) rfl)
theorem tw_321 : (Cond.fieldLink RX12 33 "KnotHouseModel$Net" "prev" "[I") ∈ lw_tbl := tp_9 _ (List.mem_of_getElem? (i := 120) rfl)
theorem tw_322 : (Cond.fieldLink RX12 30 "KnotHouseModel$Net" "next" "[I") ∈ lw_tbl := tp_9 _ (List.mem_of_getElem? (i := 118) rfl)
theorem tw_323 : (Cond.fieldLink RX12 27 "KnotHouseModel$Net" "comp" "[I") ∈ lw_tbl := tp_9 _ (List.mem_of_getElem? (i := 116) rfl)
theorem tw_324 : (Cond.fieldLink RX12 24 "KnotHouseModel$Net" "mate" "[I") ∈ lw_tbl := tp_9 _ (List.mem_of_getElem? (i := 114) rfl)
theorem tw_325 : (Cond.fieldLink RX12 21 "KnotHouseModel$Net" "sign" "[I") ∈ lw_tbl := tp_9 _ (List.mem_of_getElem? (i := 112) rfl)
theorem tw_326 : (Cond.fieldLink RX12 18 "KnotHouseModel$Net" "under" "[I") ∈ lw_tbl := tp_9 _ (List.mem_of_getElem? (i := 110) rfl)
theorem tw_327 : (Cond.fieldLink RX12 15 "KnotHouseModel$Net" "cross" "[I") ∈ lw_tbl := tp_9 _ (List.mem_of_getElem? (i := 108) rfl)
theorem tw_328 : (Cond.fieldLink RX12 9 "KnotHouseModel$Net" "begin" "[I") ∈ lw_tbl := tp_9 _ (List.mem_of_getElem? (i := 106) rfl)
theorem tw_329 : (Cond.methodLink RX12 3 objectInit) ∈ lw_tbl := tp_9 _ (List.mem_of_getElem? (i := 101) rfl)
theorem in_wsX12_init : ∀ w ∈ wsX12_init, w ∈ lw_tbl := by
  show ∀ w ∈ .code yX12_init cX12_init 1 none :: ([.methodLink RX12 3 objectInit, .instanceMethod objectInit, .code objectInit ⟨#[0xb1]⟩ 1 none, .arrayClass .int, .fieldLink RX12 9 "KnotHouseModel$Net" "begin" "[I", .fieldLink RX12 15 "KnotHouseModel$Net" "cross" "[I", .fieldLink RX12 18 "KnotHouseModel$Net" "under" "[I", .fieldLink RX12 21 "KnotHouseModel$Net" "sign" "[I", .fieldLink RX12 24 "KnotHouseModel$Net" "mate" "[I", .fieldLink RX12 27 "KnotHouseModel$Net" "comp" "[I", .fieldLink RX12 30 "KnotHouseModel$Net" "next" "[I", .fieldLink RX12 33 "KnotHouseModel$Net" "prev" "[I", .fieldLink RX12 36 "KnotHouseModel$Net" "first" "[I", .fieldLink RX12 39 "KnotHouseModel$Net" "part" "[I", .fieldLink RX12 42 "KnotHouseModel$Net" "face" "[I", .fieldLink RX12 45 "KnotHouseModel$Net" "sides" "[I"] ++ wsX120), w ∈ lw_tbl
  exact (List.forall_mem_cons.mpr ⟨tw_316, (List.forall_mem_append.mpr ⟨(List.forall_mem_cons.mpr ⟨tw_329, (List.forall_mem_cons.mpr ⟨tw_23, (List.forall_mem_cons.mpr ⟨tw_22, (List.forall_mem_cons.mpr ⟨tw_28, (List.forall_mem_cons.mpr ⟨tw_328, (List.forall_mem_cons.mpr ⟨tw_327, (List.forall_mem_cons.mpr ⟨tw_326, (List.forall_mem_cons.mpr ⟨tw_325, (List.forall_mem_cons.mpr ⟨tw_324, (List.forall_mem_cons.mpr ⟨tw_323, (List.forall_mem_cons.mpr ⟨tw_322, (List.forall_mem_cons.mpr ⟨tw_321, (List.forall_mem_cons.mpr ⟨tw_320, (List.forall_mem_cons.mpr ⟨tw_319, (List.forall_mem_cons.mpr ⟨tw_318, (List.forall_mem_cons.mpr ⟨tw_317, (fun _ h => absurd h List.not_mem_nil)⟩)⟩)⟩)⟩)⟩)⟩)⟩)⟩)⟩)⟩)⟩)⟩)⟩)⟩)⟩)⟩), in_wsX120⟩)⟩)
theorem tw_330 : (Cond.methodLink RX13 386 yX13_makeSimples) ∈ lw_tbl := tp_9 _ (List.mem_of_getElem? (i := 169) rfl)
theorem tw_331 : (Cond.instanceMethod yX13_makeSimples) ∈ lw_tbl := tp_9 _ (List.mem_of_getElem? (i := 171) rfl)
theorem tw_332 : (Cond.selects RX13 yX13_makeSimples yX13_makeSimples) ∈ lw_tbl := List.mem_append_left _ (List.mem_map.mpr ⟨(yX13_makeSimples, 120), tq_6 _ (List.mem_of_getElem? (i := 7) rfl), rfl⟩)
theorem tw_333 : (Cond.initialized RX13) ∈ lw_tbl := tp_1 _ (List.mem_of_getElem? (i := 14) rfl)
theorem tw_334 : (Cond.code yX13_makeSimples cX13_makeSimples 10 none) ∈ lw_tbl := tp_9 _ (List.mem_of_getElem? (i := 172) rfl)
theorem tw_335 : (Cond.methodLink RX13 724 yX13_find) ∈ lw_tbl := tp_9 _ (List.mem_of_getElem? (i := 173) rfl)
theorem tw_336 : (Cond.instanceMethod yX13_find) ∈ lw_tbl := tp_9 _ (List.mem_of_getElem? (i := 175) rfl)
theorem tw_337 : (Cond.selects RX13 yX13_find yX13_find) ∈ lw_tbl := List.mem_append_left _ (List.mem_map.mpr ⟨(yX13_find, 120), tq_6 _ (List.mem_of_getElem? (i := 8) rfl), rfl⟩)
theorem tw_338 : (Cond.code yX13_find cX13_find 6 (some .int)) ∈ lw_tbl := tp_9 _ (List.mem_of_getElem? (i := 176) rfl)
theorem in_wf_Mfind : ∀ w ∈ wf_Mfind, w ∈ lw_tbl := by
  show ∀ w ∈ .code yX13_find cX13_find 6 (some .int) :: ([.fieldLink RX13 329 "KnotHouseModel" "simples" "[I", .fieldLink RX13 332 "KnotHouseModel" "ends" "[I"] ++ wsX130), w ∈ lw_tbl
  exact (List.forall_mem_cons.mpr ⟨tw_338, (List.forall_mem_append.mpr ⟨(List.forall_mem_cons.mpr ⟨tw_302, (List.forall_mem_cons.mpr ⟨tw_301, (fun _ h => absurd h List.not_mem_nil)⟩)⟩), in_wsX130⟩)⟩)
theorem tw_339 : (Cond.methodLink RX13 728 yX13_makeTurned) ∈ lw_tbl := tp_9 _ (List.mem_of_getElem? (i := 177) rfl)
theorem tw_340 : (Cond.instanceMethod yX13_makeTurned) ∈ lw_tbl := tp_9 _ (List.mem_of_getElem? (i := 179) rfl)
theorem tw_341 : (Cond.selects RX13 yX13_makeTurned yX13_makeTurned) ∈ lw_tbl := List.mem_append_left _ (List.mem_map.mpr ⟨(yX13_makeTurned, 120), tq_6 _ (List.mem_of_getElem? (i := 9) rfl), rfl⟩)
theorem tw_342 : (Cond.code yX13_makeTurned cX13_makeTurned 6 none) ∈ lw_tbl := tp_9 _ (List.mem_of_getElem? (i := 180) rfl)
theorem in_wf_MmakeTurned : ∀ w ∈ wf_MmakeTurned, w ∈ lw_tbl := by
  show ∀ w ∈ .code yX13_makeTurned cX13_makeTurned 6 none :: ([.fieldLink RX13 329 "KnotHouseModel" "simples" "[I", .fieldLink RX13 332 "KnotHouseModel" "ends" "[I", .fieldLink RX13 344 "KnotHouseModel" "ahead" "[I", .fieldLink RX13 347 "KnotHouseModel" "over2" "[I", .fieldLink RX13 356 "KnotHouseModel" "endRow" "[I"] ++ wsX130 ++ wsV RX13 724 RX13 yX13_find wf_Mfind), w ∈ lw_tbl
  exact (List.forall_mem_cons.mpr ⟨tw_342, (List.forall_mem_append.mpr ⟨(List.forall_mem_append.mpr ⟨(List.forall_mem_cons.mpr ⟨tw_302, (List.forall_mem_cons.mpr ⟨tw_301, (List.forall_mem_cons.mpr ⟨tw_297, (List.forall_mem_cons.mpr ⟨tw_296, (List.forall_mem_cons.mpr ⟨tw_293, (fun _ h => absurd h List.not_mem_nil)⟩)⟩)⟩)⟩)⟩), in_wsX130⟩), (List.forall_mem_append.mpr ⟨(List.forall_mem_cons.mpr ⟨tw_335, (List.forall_mem_cons.mpr ⟨tw_336, (List.forall_mem_cons.mpr ⟨tw_337, (List.forall_mem_cons.mpr ⟨tw_333, (fun _ h => absurd h List.not_mem_nil)⟩)⟩)⟩)⟩), in_wf_Mfind⟩)⟩)⟩)
theorem tw_343 : (Cond.methodLink RX13 731 yX13_turnRound) ∈ lw_tbl := tp_9 _ (List.mem_of_getElem? (i := 181) rfl)
theorem tw_344 : (Cond.instanceMethod yX13_turnRound) ∈ lw_tbl := tp_9 _ (List.mem_of_getElem? (i := 183) rfl)
theorem tw_345 : (Cond.selects RX13 yX13_turnRound yX13_turnRound) ∈ lw_tbl := List.mem_append_left _ (List.mem_map.mpr ⟨(yX13_turnRound, 120), tq_6 _ (List.mem_of_getElem? (i := 10) rfl), rfl⟩)
theorem tw_346 : (Cond.code yX13_turnRound cX13_turnRound 11 none) ∈ lw_tbl := tp_9 _ (List.mem_of_getElem? (i := 184) rfl)
theorem tw_347 : (Cond.code Lib.Math.abs.name Lib.Math.abs.code 1 (some .int)) ∈ lw_tbl := tp_3 _ (List.mem_of_getElem? (i := 197) rfl)
theorem tw_348 : (Cond.initialized "java/lang/Math") ∈ lw_tbl := tp_1 _ (List.mem_of_getElem? (i := 16) rfl)
theorem tw_349 : (Cond.static Lib.Math.abs.name) ∈ lw_tbl := tp_3 _ (List.mem_of_getElem? (i := 196) rfl)
theorem tw_350 : (Cond.methodLink RX13 734 Lib.Math.abs.name) ∈ lw_tbl := tp_9 _ (List.mem_of_getElem? (i := 185) rfl)
theorem in_wf_MturnRound : ∀ w ∈ wf_MturnRound, w ∈ lw_tbl := by
  show ∀ w ∈ .code yX13_turnRound cX13_turnRound 11 none :: ([.fieldLink RX13 338 "KnotHouseModel" "sizes" "[I", .fieldLink RX13 335 "KnotHouseModel" "letters" "[I", .fieldLink RX13 341 "KnotHouseModel" "more" "[I", .fieldLink RX13 350 "KnotHouseModel" "passes" "[I", .fieldLink RX13 353 "KnotHouseModel" "leaves" "[I", .fieldLink RX13 359 "KnotHouseModel" "signed" "[I", .methodLink RX13 734 Lib.Math.abs.name, .static Lib.Math.abs.name, .initialized "java/lang/Math", .code Lib.Math.abs.name Lib.Math.abs.code 1 (some .int)] ++ wsX130), w ∈ lw_tbl
  exact (List.forall_mem_cons.mpr ⟨tw_346, (List.forall_mem_append.mpr ⟨(List.forall_mem_cons.mpr ⟨tw_299, (List.forall_mem_cons.mpr ⟨tw_300, (List.forall_mem_cons.mpr ⟨tw_298, (List.forall_mem_cons.mpr ⟨tw_295, (List.forall_mem_cons.mpr ⟨tw_294, (List.forall_mem_cons.mpr ⟨tw_292, (List.forall_mem_cons.mpr ⟨tw_350, (List.forall_mem_cons.mpr ⟨tw_349, (List.forall_mem_cons.mpr ⟨tw_348, (List.forall_mem_cons.mpr ⟨tw_347, (fun _ h => absurd h List.not_mem_nil)⟩)⟩)⟩)⟩)⟩)⟩)⟩)⟩)⟩)⟩), in_wsX130⟩)⟩)
theorem in_wf_MmakeSimples : ∀ w ∈ wf_MmakeSimples, w ∈ lw_tbl := by
  show ∀ w ∈ .code yX13_makeSimples cX13_makeSimples 10 none :: ([.fieldLink RX13 329 "KnotHouseModel" "simples" "[I", .fieldLink RX13 332 "KnotHouseModel" "ends" "[I", .fieldLink RX13 335 "KnotHouseModel" "letters" "[I", .fieldLink RX13 338 "KnotHouseModel" "sizes" "[I", .fieldLink RX13 341 "KnotHouseModel" "more" "[I", .fieldLink RX13 356 "KnotHouseModel" "endRow" "[I"] ++ wsX130 ++ (wsV RX13 724 RX13 yX13_find wf_Mfind ++ (wsV RX13 728 RX13 yX13_makeTurned wf_MmakeTurned ++ wsV RX13 731 RX13 yX13_turnRound wf_MturnRound))), w ∈ lw_tbl
  exact (List.forall_mem_cons.mpr ⟨tw_334, (List.forall_mem_append.mpr ⟨(List.forall_mem_append.mpr ⟨(List.forall_mem_cons.mpr ⟨tw_302, (List.forall_mem_cons.mpr ⟨tw_301, (List.forall_mem_cons.mpr ⟨tw_300, (List.forall_mem_cons.mpr ⟨tw_299, (List.forall_mem_cons.mpr ⟨tw_298, (List.forall_mem_cons.mpr ⟨tw_293, (fun _ h => absurd h List.not_mem_nil)⟩)⟩)⟩)⟩)⟩)⟩), in_wsX130⟩), (List.forall_mem_append.mpr ⟨(List.forall_mem_append.mpr ⟨(List.forall_mem_cons.mpr ⟨tw_335, (List.forall_mem_cons.mpr ⟨tw_336, (List.forall_mem_cons.mpr ⟨tw_337, (List.forall_mem_cons.mpr ⟨tw_333, (fun _ h => absurd h List.not_mem_nil)⟩)⟩)⟩)⟩), in_wf_Mfind⟩), (List.forall_mem_append.mpr ⟨(List.forall_mem_append.mpr ⟨(List.forall_mem_cons.mpr ⟨tw_339, (List.forall_mem_cons.mpr ⟨tw_340, (List.forall_mem_cons.mpr ⟨tw_341, (List.forall_mem_cons.mpr ⟨tw_333, (fun _ h => absurd h List.not_mem_nil)⟩)⟩)⟩)⟩), in_wf_MmakeTurned⟩), (List.forall_mem_append.mpr ⟨(List.forall_mem_cons.mpr ⟨tw_343, (List.forall_mem_cons.mpr ⟨tw_344, (List.forall_mem_cons.mpr ⟨tw_345, (List.forall_mem_cons.mpr ⟨tw_333, (fun _ h => absurd h List.not_mem_nil)⟩)⟩)⟩)⟩), in_wf_MturnRound⟩)⟩)⟩)⟩)⟩)
theorem tw_351 : (Cond.methodLink RX13 389 yX13_makePermutations) ∈ lw_tbl := tp_9 _ (List.mem_of_getElem? (i := 186) rfl)
theorem tw_352 : (Cond.instanceMethod yX13_makePermutations) ∈ lw_tbl := tp_9 _ (List.mem_of_getElem? (i := 188) rfl)
theorem tw_353 : (Cond.selects RX13 yX13_makePermutations yX13_makePermutations) ∈ lw_tbl := List.mem_append_left _ (List.mem_map.mpr ⟨(yX13_makePermutations, 120), tq_6 _ (List.mem_of_getElem? (i := 11) rfl), rfl⟩)
theorem tw_354 : (Cond.code yX13_makePermutations cX13_makePermutations 9 none) ∈ lw_tbl := tp_9 _ (List.mem_of_getElem? (i := 189) rfl)
theorem tw_355 : (Cond.methodLink RX13 671 yX13_image) ∈ lw_tbl := tp_9 _ (List.mem_of_getElem? (i := 190) rfl)
theorem tw_356 : (Cond.instanceMethod yX13_image) ∈ lw_tbl := tp_9 _ (List.mem_of_getElem? (i := 192) rfl)
theorem tw_357 : (Cond.selects RX13 yX13_image yX13_image) ∈ lw_tbl := List.mem_append_left _ (List.mem_map.mpr ⟨(yX13_image, 120), tq_6 _ (List.mem_of_getElem? (i := 12) rfl), rfl⟩)
theorem tw_358 : (Cond.code yX13_image cX13_image 4 (some .int)) ∈ lw_tbl := tp_9 _ (List.mem_of_getElem? (i := 193) rfl)
theorem in_wf_Mimage : ∀ w ∈ wf_Mimage, w ∈ lw_tbl := by
  show ∀ w ∈ .code yX13_image cX13_image 4 (some .int) :: ([.fieldLink RX13 268 "KnotHouseModel" "images" "[I"] ++ wsX130), w ∈ lw_tbl
  exact (List.forall_mem_cons.mpr ⟨tw_358, (List.forall_mem_append.mpr ⟨(List.forall_mem_cons.mpr ⟨tw_257, (fun _ h => absurd h List.not_mem_nil)⟩), in_wsX130⟩)⟩)
theorem in_wf_MmakePermutations : ∀ w ∈ wf_MmakePermutations, w ∈ lw_tbl := by
  show ∀ w ∈ .code yX13_makePermutations cX13_makePermutations 9 none :: ([.fieldLink RX13 268 "KnotHouseModel" "images" "[I", .fieldLink RX13 271 "KnotHouseModel" "down" "[I", .fieldLink RX13 274 "KnotHouseModel" "back" "[I"] ++ wsX130 ++ wsV RX13 671 RX13 yX13_image wf_Mimage), w ∈ lw_tbl
  exact (List.forall_mem_cons.mpr ⟨tw_354, (List.forall_mem_append.mpr ⟨(List.forall_mem_append.mpr ⟨(List.forall_mem_cons.mpr ⟨tw_257, (List.forall_mem_cons.mpr ⟨tw_256, (List.forall_mem_cons.mpr ⟨tw_255, (fun _ h => absurd h List.not_mem_nil)⟩)⟩)⟩), in_wsX130⟩), (List.forall_mem_append.mpr ⟨(List.forall_mem_cons.mpr ⟨tw_355, (List.forall_mem_cons.mpr ⟨tw_356, (List.forall_mem_cons.mpr ⟨tw_357, (List.forall_mem_cons.mpr ⟨tw_333, (fun _ h => absurd h List.not_mem_nil)⟩)⟩)⟩)⟩), in_wf_Mimage⟩)⟩)⟩)
theorem in_wf_Minit : ∀ w ∈ wf_Minit, w ∈ lw_tbl := by
  show ∀ w ∈ .code yX13_init cX13_init 2 none :: (([.methodLink RX13 101 objectInit, .instanceMethod objectInit, .code objectInit ⟨#[0xb1]⟩ 1 none, .arrayClass .int, .arrayClass .byte, .arrayClass .long, .arrayClass .boolean, .constant RX13 136 (86400), .constant RX13 316 (900000), .classLink RX13 19 RX12, .instantiable RX12 16, .initialized RX12, .instanceMethod yX12_init] ++ (wf_Minit_f0 ++ (wf_Minit_f1 ++ wf_Minit_f2))) ++ wsX130 ++ (wsX120 ++ (wsX12_init ++ (wsV RX13 386 RX13 yX13_makeSimples wf_MmakeSimples ++ wsV RX13 389 RX13 yX13_makePermutations wf_MmakePermutations)))), w ∈ lw_tbl
  exact (List.forall_mem_cons.mpr ⟨tw_210, (List.forall_mem_append.mpr ⟨(List.forall_mem_append.mpr ⟨(List.forall_mem_append.mpr ⟨(List.forall_mem_cons.mpr ⟨tw_217, (List.forall_mem_cons.mpr ⟨tw_23, (List.forall_mem_cons.mpr ⟨tw_22, (List.forall_mem_cons.mpr ⟨tw_28, (List.forall_mem_cons.mpr ⟨tw_30, (List.forall_mem_cons.mpr ⟨tw_87, (List.forall_mem_cons.mpr ⟨tw_161, (List.forall_mem_cons.mpr ⟨tw_216, (List.forall_mem_cons.mpr ⟨tw_215, (List.forall_mem_cons.mpr ⟨tw_214, (List.forall_mem_cons.mpr ⟨tw_213, (List.forall_mem_cons.mpr ⟨tw_212, (List.forall_mem_cons.mpr ⟨tw_211, (fun _ h => absurd h List.not_mem_nil)⟩)⟩)⟩)⟩)⟩)⟩)⟩)⟩)⟩)⟩)⟩)⟩)⟩), (List.forall_mem_append.mpr ⟨in_wf_Minit_f0, (List.forall_mem_append.mpr ⟨in_wf_Minit_f1, in_wf_Minit_f2⟩)⟩)⟩), in_wsX130⟩), (List.forall_mem_append.mpr ⟨in_wsX120, (List.forall_mem_append.mpr ⟨in_wsX12_init, (List.forall_mem_append.mpr ⟨(List.forall_mem_append.mpr ⟨(List.forall_mem_cons.mpr ⟨tw_330, (List.forall_mem_cons.mpr ⟨tw_331, (List.forall_mem_cons.mpr ⟨tw_332, (List.forall_mem_cons.mpr ⟨tw_333, (fun _ h => absurd h List.not_mem_nil)⟩)⟩)⟩)⟩), in_wf_MmakeSimples⟩), (List.forall_mem_append.mpr ⟨(List.forall_mem_cons.mpr ⟨tw_351, (List.forall_mem_cons.mpr ⟨tw_352, (List.forall_mem_cons.mpr ⟨tw_353, (List.forall_mem_cons.mpr ⟨tw_333, (fun _ h => absurd h List.not_mem_nil)⟩)⟩)⟩)⟩), in_wf_MmakePermutations⟩)⟩)⟩)⟩)⟩)⟩)
theorem tw_359 : (Cond.methodLink RL 7 yX11_feed) ∈ lw_tbl := tp_3 _ (List.mem_of_getElem? (i := 235) rfl)
theorem tw_360 : (Cond.instanceMethod yX11_feed) ∈ lw_tbl := tp_3 _ (List.mem_of_getElem? (i := 236) rfl)
theorem tw_361 : (Cond.selects RX11 yX11_feed yX11_feed) ∈ lw_tbl := tp_3 _ (List.mem_of_getElem? (i := 237) rfl)
theorem tw_362 : (Cond.initialized RX11) ∈ lw_tbl := tp_1 _ (List.mem_of_getElem? (i := 1) rfl)
theorem tw_363 : (Cond.code yX11_feed cX11_feed 6 (some .int)) ∈ lw_tbl := tp_3 _ (List.mem_of_getElem? (i := 238) rfl)
theorem tw_364 : (Cond.fieldLink RX11 114 "KnotHouse$Reader" "length" "I") ∈ lw_tbl := tp_1 _ (List.mem_of_getElem? (i := 233) rfl)
theorem tw_365 : (Cond.methodLink RX11 125 yX9_take) ∈ lw_tbl := tp_4 _ (List.mem_of_getElem? (i := 68) rfl)
theorem tw_366 : (Cond.instanceMethod yX9_take) ∈ lw_tbl := tp_4 _ (List.mem_of_getElem? (i := 69) rfl)
theorem tw_367 : (Cond.selects RX9 yX9_take yX9_take) ∈ lw_tbl := tp_4 _ (List.mem_of_getElem? (i := 70) rfl)
theorem tw_368 : (Cond.code yX9_take cX9_take 3 none) ∈ lw_tbl := tp_4 _ (List.mem_of_getElem? (i := 71) rfl)
theorem tw_369 : (Cond.fieldLink RX9 22 "KnotHouse$Reader" "length" "I") ∈ lw_tbl := tp_1 _ (List.mem_of_getElem? (i := 234) rfl)
theorem in_wf_take : ∀ w ∈ wf_take, w ∈ lw_tbl := by
  show ∀ w ∈ .code yX9_take cX9_take 3 none :: ([.fieldLink RX9 22 "KnotHouse$Reader" "length" "I", .fieldLink RX9 9 "KnotHouse$Reader" "tape" "[B"] ++ wsX90), w ∈ lw_tbl
  exact (List.forall_mem_cons.mpr ⟨tw_368, (List.forall_mem_append.mpr ⟨(List.forall_mem_cons.mpr ⟨tw_369, (List.forall_mem_cons.mpr ⟨tw_116, (fun _ h => absurd h List.not_mem_nil)⟩)⟩), in_wsX90⟩)⟩)
theorem in_wf_feed : ∀ w ∈ wf_feed, w ∈ lw_tbl := by
  show ∀ w ∈ .code yX11_feed cX11_feed 6 (some .int) :: (([.fieldLink RX11 51 "KnotHouse" "reader" "LKnotHouse$Reader;", .fieldLink RX11 114 "KnotHouse$Reader" "length" "I"] ++ wsX110) ++ wsV RX11 125 RX9 yX9_take wf_take), w ∈ lw_tbl
  exact (List.forall_mem_cons.mpr ⟨tw_363, (List.forall_mem_append.mpr ⟨(List.forall_mem_append.mpr ⟨(List.forall_mem_cons.mpr ⟨tw_47, (List.forall_mem_cons.mpr ⟨tw_364, (fun _ h => absurd h List.not_mem_nil)⟩)⟩), in_wsX110⟩), (List.forall_mem_append.mpr ⟨(List.forall_mem_cons.mpr ⟨tw_365, (List.forall_mem_cons.mpr ⟨tw_366, (List.forall_mem_cons.mpr ⟨tw_367, (List.forall_mem_cons.mpr ⟨tw_48, (fun _ h => absurd h List.not_mem_nil)⟩)⟩)⟩)⟩), in_wf_take⟩)⟩)⟩)
theorem tw_370 : (Cond.methodLink RL 15 yX11_end) ∈ lw_tbl := tp_4 _ (List.mem_of_getElem? (i := 76) rfl)
theorem tw_371 : (Cond.instanceMethod yX11_end) ∈ lw_tbl := tp_4 _ (List.mem_of_getElem? (i := 77) rfl)
theorem tw_372 : (Cond.selects RX11 yX11_end yX11_end) ∈ lw_tbl := tp_4 _ (List.mem_of_getElem? (i := 78) rfl)
theorem tw_373 : (Cond.code yX11_end cX11_end 2 none) ∈ lw_tbl := tp_4 _ (List.mem_of_getElem? (i := 79) rfl)
theorem tw_374 : (Cond.classLink RX11 128 "java/lang/IllegalArgumentException") ∈ lw_tbl := tp_4 _ (List.mem_of_getElem? (i := 80) rfl)
theorem tw_375 : (Cond.initialized "java/lang/IllegalArgumentException") ∈ lw_tbl := tp_1 _ (List.mem_of_getElem? (i := 21) rfl)
theorem tv_0 : ∀ w ∈ (vx_atS RX11 132 "java/lang/IllegalArgumentException" ["java/lang/RuntimeException", "java/lang/Exception"]).filter goodWord, w ∈ lw_tbl := by decide +kernel
theorem in_wf_end : ∀ w ∈ wf_end, w ∈ lw_tbl := by
  show ∀ w ∈ .code yX11_end cX11_end 2 none :: ((.classLink RX11 128 "java/lang/IllegalArgumentException" :: .initialized "java/lang/IllegalArgumentException" :: .fieldLink RX11 51 "KnotHouse" "reader" "LKnotHouse$Reader;" :: .fieldLink RX11 114 "KnotHouse$Reader" "length" "I" :: (wsX110 ++ wsX90)) ++ (vx_atS RX11 132 "java/lang/IllegalArgumentException" ["java/lang/RuntimeException", "java/lang/Exception"]).filter goodWord), w ∈ lw_tbl
  exact (List.forall_mem_cons.mpr ⟨tw_373, (List.forall_mem_append.mpr ⟨(List.forall_mem_cons.mpr ⟨tw_374, (List.forall_mem_cons.mpr ⟨tw_375, (List.forall_mem_cons.mpr ⟨tw_47, (List.forall_mem_cons.mpr ⟨tw_364, (List.forall_mem_append.mpr ⟨in_wsX110, in_wsX90⟩)⟩)⟩)⟩)⟩), tv_0⟩)⟩)
theorem tw_376 : (Cond.methodLink RL 21 yX11_diagram) ∈ lw_tbl := tp_4 _ (List.mem_of_getElem? (i := 99) rfl)
theorem tw_377 : (Cond.instanceMethod yX11_diagram) ∈ lw_tbl := tp_4 _ (List.mem_of_getElem? (i := 100) rfl)
theorem tw_378 : (Cond.selects RX11 yX11_diagram yX11_diagram) ∈ lw_tbl := tp_4 _ (List.mem_of_getElem? (i := 101) rfl)
theorem tw_379 : (Cond.code yX11_diagram cX11_diagram 3 (some .int)) ∈ lw_tbl := tp_4 _ (List.mem_of_getElem? (i := 102) rfl)
theorem tw_380 : (Cond.methodLink RX11 133 yX11_freeDiagram) ∈ lw_tbl := tp_4 _ (List.mem_of_getElem? (i := 103) rfl)
theorem tw_381 : (Cond.instanceMethod yX11_freeDiagram) ∈ lw_tbl := tp_4 _ (List.mem_of_getElem? (i := 105) rfl)
theorem tw_382 : (Cond.selects RX11 yX11_freeDiagram yX11_freeDiagram) ∈ lw_tbl := List.mem_append_left _ (List.mem_map.mpr ⟨(yX11_freeDiagram, 19), tq_1 _ (List.mem_of_getElem? (i := 7) rfl), rfl⟩)
theorem tw_383 : (Cond.code yX11_freeDiagram cX11_freeDiagram 2 (some .int)) ∈ lw_tbl := tp_4 _ (List.mem_of_getElem? (i := 106) rfl)
theorem tw_384 : (Cond.fieldLink RX11 158 "KnotHouse$Codes" "lengths" "[B") ∈ lw_tbl := tp_1 _ (List.mem_of_getElem? (i := 56) rfl)
theorem in_wf_freeDiagram : ∀ w ∈ wf_freeDiagram, w ∈ lw_tbl := by
  show ∀ w ∈ .code yX11_freeDiagram cX11_freeDiagram 2 (some .int) :: ([.fieldLink RX11 14 "KnotHouse" "diagrams" "LKnotHouse$Codes;", .fieldLink RX11 158 "KnotHouse$Codes" "lengths" "[B"] ++ wsX110 ++ wsX30), w ∈ lw_tbl
  exact (List.forall_mem_cons.mpr ⟨tw_383, (List.forall_mem_append.mpr ⟨(List.forall_mem_append.mpr ⟨(List.forall_mem_cons.mpr ⟨tw_18, (List.forall_mem_cons.mpr ⟨tw_384, (fun _ h => absurd h List.not_mem_nil)⟩)⟩), in_wsX110⟩), in_wsX30⟩)⟩)
theorem tw_385 : (Cond.methodLink RX11 137 yX9_readDiagram) ∈ lw_tbl := tp_4 _ (List.mem_of_getElem? (i := 108) rfl)
theorem tw_386 : (Cond.instanceMethod yX9_readDiagram) ∈ lw_tbl := tp_4 _ (List.mem_of_getElem? (i := 109) rfl)
theorem tw_387 : (Cond.selects RX9 yX9_readDiagram yX9_readDiagram) ∈ lw_tbl := tp_4 _ (List.mem_of_getElem? (i := 110) rfl)
theorem tw_388 : (Cond.code yX9_readDiagram cX9_readDiagram 9 (some .int)) ∈ lw_tbl := tp_4 _ (List.mem_of_getElem? (i := 111) rfl)
theorem tw_389 : (Cond.fieldLink RX9 37 "KnotHouse$Reader" "at" "I") ∈ lw_tbl := tp_1 _ (List.mem_of_getElem? (i := 238) rfl)
theorem tw_390 : (Cond.methodLink RX9 26 yJ7_fill_53178) ∈ lw_tbl := tp_4 _ (List.mem_of_getElem? (i := 112) rfl)
theorem tw_391 : (Cond.static yJ7_fill_53178) ∈ lw_tbl := tp_4 _ (List.mem_of_getElem? (i := 113) rfl)
theorem tw_392 : (Cond.initialized "java/util/Arrays") ∈ lw_tbl := tp_1 _ (List.mem_of_getElem? (i := 22) rfl)
theorem tw_393 : (Cond.code yJ7_fill_53178 cJ7_fill_53178 4 none) ∈ lw_tbl := tp_4 _ (List.mem_of_getElem? (i := 114) rfl)
theorem in_wf_fill1 : ∀ w ∈ wf_fill1, w ∈ lw_tbl := by
  show ∀ w ∈ [.code yJ7_fill_53178 cJ7_fill_53178 4 none], w ∈ lw_tbl
  exact (List.forall_mem_cons.mpr ⟨tw_393, (fun _ h => absurd h List.not_mem_nil)⟩)
theorem tw_394 : (Cond.methodLink RX9 32 yX7_empty) ∈ lw_tbl := tp_4 _ (List.mem_of_getElem? (i := 115) rfl)
theorem tw_395 : (Cond.instanceMethod yX7_empty) ∈ lw_tbl := tp_4 _ (List.mem_of_getElem? (i := 116) rfl)
theorem tw_396 : (Cond.selects RX7 yX7_empty yX7_empty) ∈ lw_tbl := tp_4 _ (List.mem_of_getElem? (i := 117) rfl)
theorem tw_397 : (Cond.code yX7_empty cX7_empty 1 none) ∈ lw_tbl := tp_4 _ (List.mem_of_getElem? (i := 118) rfl)
theorem tw_398 : (Cond.fieldLink RX7 42 "KnotHouse$Net" "circles" "I") ∈ lw_tbl := tp_1 _ (List.mem_of_getElem? (i := 127) rfl)
theorem tw_399 : (Cond.fieldLink RX7 39 "KnotHouse$Net" "crossings" "I") ∈ lw_tbl := tp_1 _ (List.mem_of_getElem? (i := 118) rfl)
theorem in_wf_empty : ∀ w ∈ wf_empty, w ∈ lw_tbl := by
  show ∀ w ∈ .code yX7_empty cX7_empty 1 none :: ([.fieldLink RX7 39 "KnotHouse$Net" "crossings" "I", .fieldLink RX7 42 "KnotHouse$Net" "circles" "I"] ++ wsX70), w ∈ lw_tbl
  exact (List.forall_mem_cons.mpr ⟨tw_397, (List.forall_mem_append.mpr ⟨(List.forall_mem_cons.mpr ⟨tw_399, (List.forall_mem_cons.mpr ⟨tw_398, (fun _ h => absurd h List.not_mem_nil)⟩)⟩), in_wsX70⟩)⟩)
theorem tw_400 : (Cond.methodLink RX9 40 yX9_finish) ∈ lw_tbl := tp_4 _ (List.mem_of_getElem? (i := 119) rfl)
theorem tw_401 : (Cond.static yX9_finish) ∈ lw_tbl := tp_4 _ (List.mem_of_getElem? (i := 120) rfl)
theorem tw_402 : (Cond.code yX9_finish cX9_finish 3 none) ∈ lw_tbl := tp_4 _ (List.mem_of_getElem? (i := 121) rfl)
theorem tw_403 : (Cond.fieldLink RX9 60 "KnotHouse$Net" "circles" "I") ∈ lw_tbl := tp_1 _ (List.mem_of_getElem? (i := 130) rfl)
theorem in_wf_finish : ∀ w ∈ wf_finish, w ∈ lw_tbl := by
  show ∀ w ∈ .code yX9_finish cX9_finish 3 none :: ([.fieldLink RX9 60 "KnotHouse$Net" "circles" "I"] ++ wsX70), w ∈ lw_tbl
  exact (List.forall_mem_cons.mpr ⟨tw_402, (List.forall_mem_append.mpr ⟨(List.forall_mem_cons.mpr ⟨tw_403, (fun _ h => absurd h List.not_mem_nil)⟩), in_wsX70⟩)⟩)
theorem tw_404 : (Cond.methodLink RX9 56 yX9_firstLonely) ∈ lw_tbl := tp_4 _ (List.mem_of_getElem? (i := 134) rfl)
theorem tw_405 : (Cond.instanceMethod yX9_firstLonely) ∈ lw_tbl := tp_4 _ (List.mem_of_getElem? (i := 136) rfl)
theorem tw_406 : (Cond.selects RX9 yX9_firstLonely yX9_firstLonely) ∈ lw_tbl := List.mem_append_left _ (List.mem_map.mpr ⟨(yX9_firstLonely, 6), tq_1 _ (List.mem_of_getElem? (i := 10) rfl), rfl⟩)
theorem tw_407 : (Cond.code yX9_firstLonely cX9_firstLonely 4 (some .int)) ∈ lw_tbl := tp_4 _ (List.mem_of_getElem? (i := 137) rfl)
theorem tw_408 : (Cond.fieldLink RX9 66 "KnotHouse$Net" "crossings" "I") ∈ lw_tbl := tp_1 _ (List.mem_of_getElem? (i := 125) rfl)
theorem in_wf_firstLonely : ∀ w ∈ wf_firstLonely, w ∈ lw_tbl := by
  show ∀ w ∈ .code yX9_firstLonely cX9_firstLonely 4 (some .int) :: ([.fieldLink RX9 66 "KnotHouse$Net" "crossings" "I"] ++ wsX70), w ∈ lw_tbl
  exact (List.forall_mem_cons.mpr ⟨tw_407, (List.forall_mem_append.mpr ⟨(List.forall_mem_cons.mpr ⟨tw_408, (fun _ h => absurd h List.not_mem_nil)⟩), in_wsX70⟩)⟩)
theorem in_wf_readDiagram : ∀ w ∈ wf_readDiagram, w ∈ lw_tbl := by
  show ∀ w ∈ .code yX9_readDiagram cX9_readDiagram 9 (some .int) :: ([.fieldLink RX9 15 "KnotHouse$Reader" "crossingOf" "[I", .fieldLink RX9 19 "KnotHouse$Reader" "begins" "[I", .fieldLink RX9 37 "KnotHouse$Reader" "at" "I", .fieldLink RX9 22 "KnotHouse$Reader" "length" "I"] ++ wsX90 ++ wsX70 ++ (va_wsS RX9 26 yJ7_fill_53178 wf_fill1 ++ (wsV RX9 32 RX7 yX7_empty wf_empty ++ (va_wsS RX9 40 yX9_finish wf_finish ++ wsV RX9 56 RX9 yX9_firstLonely wf_firstLonely)))), w ∈ lw_tbl
  exact (List.forall_mem_cons.mpr ⟨tw_388, (List.forall_mem_append.mpr ⟨(List.forall_mem_append.mpr ⟨(List.forall_mem_append.mpr ⟨(List.forall_mem_cons.mpr ⟨tw_115, (List.forall_mem_cons.mpr ⟨tw_114, (List.forall_mem_cons.mpr ⟨tw_389, (List.forall_mem_cons.mpr ⟨tw_369, (fun _ h => absurd h List.not_mem_nil)⟩)⟩)⟩)⟩), in_wsX90⟩), in_wsX70⟩), (List.forall_mem_append.mpr ⟨(List.forall_mem_append.mpr ⟨(List.forall_mem_cons.mpr ⟨tw_390, (List.forall_mem_cons.mpr ⟨tw_391, (List.forall_mem_cons.mpr ⟨tw_392, (fun _ h => absurd h List.not_mem_nil)⟩)⟩)⟩), in_wf_fill1⟩), (List.forall_mem_append.mpr ⟨(List.forall_mem_append.mpr ⟨(List.forall_mem_cons.mpr ⟨tw_394, (List.forall_mem_cons.mpr ⟨tw_395, (List.forall_mem_cons.mpr ⟨tw_396, (List.forall_mem_cons.mpr ⟨tw_13, (fun _ h => absurd h List.not_mem_nil)⟩)⟩)⟩)⟩), in_wf_empty⟩), (List.forall_mem_append.mpr ⟨(List.forall_mem_append.mpr ⟨(List.forall_mem_cons.mpr ⟨tw_400, (List.forall_mem_cons.mpr ⟨tw_401, (List.forall_mem_cons.mpr ⟨tw_48, (fun _ h => absurd h List.not_mem_nil)⟩)⟩)⟩), in_wf_finish⟩), (List.forall_mem_append.mpr ⟨(List.forall_mem_cons.mpr ⟨tw_404, (List.forall_mem_cons.mpr ⟨tw_405, (List.forall_mem_cons.mpr ⟨tw_406, (List.forall_mem_cons.mpr ⟨tw_48, (fun _ h => absurd h List.not_mem_nil)⟩)⟩)⟩)⟩), in_wf_firstLonely⟩)⟩)⟩)⟩)⟩)⟩)
theorem tw_409 : (Cond.methodLink RX11 141 yX4_isPlane) ∈ lw_tbl := tp_4 _ (List.mem_of_getElem? (i := 138) rfl)
theorem tw_410 : (Cond.instanceMethod yX4_isPlane) ∈ lw_tbl := tp_4 _ (List.mem_of_getElem? (i := 139) rfl)
theorem tw_411 : (Cond.selects RX4 yX4_isPlane yX4_isPlane) ∈ lw_tbl := tp_4 _ (List.mem_of_getElem? (i := 140) rfl)
theorem tw_412 : (Cond.code yX4_isPlane cX4_isPlane 2 (some .boolean)) ∈ lw_tbl := tp_4 _ (List.mem_of_getElem? (i := 141) rfl)
theorem tw_413 : (Cond.fieldLink RX4 69 "KnotHouse$Net" "parts" "I") ∈ lw_tbl := tp_1 _ (List.mem_of_getElem? (i := 138) rfl)
theorem tw_414 : (Cond.fieldLink RX4 45 "KnotHouse$Net" "crossings" "I") ∈ lw_tbl := tp_1 _ (List.mem_of_getElem? (i := 122) rfl)
theorem tw_415 : (Cond.fieldLink RX4 55 "KnotHouse$Faces" "count" "I") ∈ lw_tbl := tp_1 _ (List.mem_of_getElem? (i := 173) rfl)
theorem tw_416 : (Cond.methodLink RX4 62 yX7_markParts) ∈ lw_tbl := tp_4 _ (List.mem_of_getElem? (i := 142) rfl)
theorem tw_417 : (Cond.instanceMethod yX7_markParts) ∈ lw_tbl := tp_4 _ (List.mem_of_getElem? (i := 143) rfl)
theorem tw_418 : (Cond.selects RX7 yX7_markParts yX7_markParts) ∈ lw_tbl := tp_4 _ (List.mem_of_getElem? (i := 144) rfl)
theorem tw_419 : (Cond.code yX7_markParts cX7_markParts 7 none) ∈ lw_tbl := tp_4 _ (List.mem_of_getElem? (i := 145) rfl)
theorem tw_420 : (Cond.fieldLink RX7 90 "KnotHouse$Net" "parts" "I") ∈ lw_tbl := tp_1 _ (List.mem_of_getElem? (i := 141) rfl)
theorem tw_421 : (Cond.methodLink RX7 84 yJ7_fill_fda19) ∈ lw_tbl := tp_4 _ (List.mem_of_getElem? (i := 146) rfl)
theorem tw_422 : (Cond.static yJ7_fill_fda19) ∈ lw_tbl := tp_4 _ (List.mem_of_getElem? (i := 147) rfl)
theorem tw_423 : (Cond.code yJ7_fill_fda19 cJ7_fill_fda19 5 none) ∈ lw_tbl := tp_4 _ (List.mem_of_getElem? (i := 148) rfl)
theorem tw_424 : (Cond.methodLink RJ7 13 yJ7_rangeCheck_23922) ∈ lw_tbl := tp_4 _ (List.mem_of_getElem? (i := 149) rfl)
theorem tw_425 : (Cond.static yJ7_rangeCheck_23922) ∈ lw_tbl := tp_4 _ (List.mem_of_getElem? (i := 150) rfl)
theorem tw_426 : (Cond.code yJ7_rangeCheck_23922 cJ7_rangeCheck_23922 3 none) ∈ lw_tbl := tp_4 _ (List.mem_of_getElem? (i := 151) rfl)
theorem in_wf_rangeCheck : ∀ w ∈ wf_rangeCheck, w ∈ lw_tbl := by
  show ∀ w ∈ [.code yJ7_rangeCheck_23922 cJ7_rangeCheck_23922 3 none], w ∈ lw_tbl
  exact (List.forall_mem_cons.mpr ⟨tw_426, (fun _ h => absurd h List.not_mem_nil)⟩)
theorem in_wf_fill0 : ∀ w ∈ wf_fill0, w ∈ lw_tbl := by
  show ∀ w ∈ .code yJ7_fill_fda19 cJ7_fill_fda19 5 none :: va_wsS RJ7 13 yJ7_rangeCheck_23922 wf_rangeCheck, w ∈ lw_tbl
  exact (List.forall_mem_cons.mpr ⟨tw_423, (List.forall_mem_append.mpr ⟨(List.forall_mem_cons.mpr ⟨tw_424, (List.forall_mem_cons.mpr ⟨tw_425, (List.forall_mem_cons.mpr ⟨tw_392, (fun _ h => absurd h List.not_mem_nil)⟩)⟩)⟩), in_wf_rangeCheck⟩)⟩)
theorem in_wf_markParts : ∀ w ∈ wf_markParts, w ∈ lw_tbl := by
  show ∀ w ∈ .code yX7_markParts cX7_markParts 7 none :: ([.fieldLink RX7 39 "KnotHouse$Net" "crossings" "I", .fieldLink RX7 27 "KnotHouse$Net" "part" "[I", .fieldLink RX7 90 "KnotHouse$Net" "parts" "I"] ++ wsX70 ++ va_wsS RX7 84 yJ7_fill_fda19 wf_fill0), w ∈ lw_tbl
  exact (List.forall_mem_cons.mpr ⟨tw_419, (List.forall_mem_append.mpr ⟨(List.forall_mem_append.mpr ⟨(List.forall_mem_cons.mpr ⟨tw_399, (List.forall_mem_cons.mpr ⟨tw_95, (List.forall_mem_cons.mpr ⟨tw_420, (fun _ h => absurd h List.not_mem_nil)⟩)⟩)⟩), in_wsX70⟩), (List.forall_mem_append.mpr ⟨(List.forall_mem_cons.mpr ⟨tw_421, (List.forall_mem_cons.mpr ⟨tw_422, (List.forall_mem_cons.mpr ⟨tw_392, (fun _ h => absurd h List.not_mem_nil)⟩)⟩)⟩), in_wf_fill0⟩)⟩)⟩)
theorem tw_427 : (Cond.methodLink RX4 65 yX4_mark) ∈ lw_tbl := tp_5 _ (List.mem_of_getElem? (i := 176) rfl)
theorem tw_428 : (Cond.instanceMethod yX4_mark) ∈ lw_tbl := tp_5 _ (List.mem_of_getElem? (i := 177) rfl)
theorem tw_429 : (Cond.selects RX4 yX4_mark yX4_mark) ∈ lw_tbl := tp_5 _ (List.mem_of_getElem? (i := 178) rfl)
theorem tw_430 : (Cond.code yX4_mark cX4_mark 6 none) ∈ lw_tbl := tp_5 _ (List.mem_of_getElem? (i := 179) rfl)
theorem tw_431 : (Cond.methodLink RX4 49 yJ7_fill_fda19) ∈ lw_tbl := tp_5 _ (List.mem_of_getElem? (i := 180) rfl)
theorem in_wf_mark : ∀ w ∈ wf_mark, w ∈ lw_tbl := by
  show ∀ w ∈ .code yX4_mark cX4_mark 6 none :: ([.fieldLink RX4 45 "KnotHouse$Net" "crossings" "I", .fieldLink RX4 9 "KnotHouse$Faces" "face" "[I", .fieldLink RX4 55 "KnotHouse$Faces" "count" "I"] ++ wsX70 ++ wsX40 ++ va_wsS RX4 49 yJ7_fill_fda19 wf_fill0), w ∈ lw_tbl
  exact (List.forall_mem_cons.mpr ⟨tw_430, (List.forall_mem_append.mpr ⟨(List.forall_mem_append.mpr ⟨(List.forall_mem_append.mpr ⟨(List.forall_mem_cons.mpr ⟨tw_414, (List.forall_mem_cons.mpr ⟨tw_90, (List.forall_mem_cons.mpr ⟨tw_415, (fun _ h => absurd h List.not_mem_nil)⟩)⟩)⟩), in_wsX70⟩), in_wsX40⟩), (List.forall_mem_append.mpr ⟨(List.forall_mem_cons.mpr ⟨tw_431, (List.forall_mem_cons.mpr ⟨tw_422, (List.forall_mem_cons.mpr ⟨tw_392, (fun _ h => absurd h List.not_mem_nil)⟩)⟩)⟩), in_wf_fill0⟩)⟩)⟩)
theorem in_wf_isPlane : ∀ w ∈ wf_isPlane, w ∈ lw_tbl := by
  show ∀ w ∈ .code yX4_isPlane cX4_isPlane 2 (some .boolean) :: ([.fieldLink RX4 55 "KnotHouse$Faces" "count" "I", .fieldLink RX4 45 "KnotHouse$Net" "crossings" "I", .fieldLink RX4 69 "KnotHouse$Net" "parts" "I"] ++ wsX70 ++ wsX40 ++ (wsV RX4 62 RX7 yX7_markParts wf_markParts ++ wsV RX4 65 RX4 yX4_mark wf_mark)), w ∈ lw_tbl
  exact (List.forall_mem_cons.mpr ⟨tw_412, (List.forall_mem_append.mpr ⟨(List.forall_mem_append.mpr ⟨(List.forall_mem_append.mpr ⟨(List.forall_mem_cons.mpr ⟨tw_415, (List.forall_mem_cons.mpr ⟨tw_414, (List.forall_mem_cons.mpr ⟨tw_413, (fun _ h => absurd h List.not_mem_nil)⟩)⟩)⟩), in_wsX70⟩), in_wsX40⟩), (List.forall_mem_append.mpr ⟨(List.forall_mem_append.mpr ⟨(List.forall_mem_cons.mpr ⟨tw_416, (List.forall_mem_cons.mpr ⟨tw_417, (List.forall_mem_cons.mpr ⟨tw_418, (List.forall_mem_cons.mpr ⟨tw_13, (fun _ h => absurd h List.not_mem_nil)⟩)⟩)⟩)⟩), in_wf_markParts⟩), (List.forall_mem_append.mpr ⟨(List.forall_mem_cons.mpr ⟨tw_427, (List.forall_mem_cons.mpr ⟨tw_428, (List.forall_mem_cons.mpr ⟨tw_429, (List.forall_mem_cons.mpr ⟨tw_8, (fun _ h => absurd h List.not_mem_nil)⟩)⟩)⟩)⟩), in_wf_mark⟩)⟩)⟩)⟩)
theorem tw_432 : (Cond.methodLink RX11 145 yX11_keep) ∈ lw_tbl := tp_5 _ (List.mem_of_getElem? (i := 184) rfl)
theorem tw_433 : (Cond.instanceMethod yX11_keep) ∈ lw_tbl := tp_5 _ (List.mem_of_getElem? (i := 186) rfl)
theorem tw_434 : (Cond.selects RX11 yX11_keep yX11_keep) ∈ lw_tbl := List.mem_append_left _ (List.mem_map.mpr ⟨(yX11_keep, 19), tq_1 _ (List.mem_of_getElem? (i := 11) rfl), rfl⟩)
theorem tw_435 : (Cond.code yX11_keep cX11_keep 2 (some .int)) ∈ lw_tbl := tp_5 _ (List.mem_of_getElem? (i := 187) rfl)
theorem tw_436 : (Cond.fieldLink RX11 182 "KnotHouse$Coder" "out" "LKnotHouse$Codes;") ∈ lw_tbl := tp_1 _ (List.mem_of_getElem? (i := 208) rfl)
theorem tw_437 : (Cond.methodLink RX11 178 yX2_encode) ∈ lw_tbl := tp_5 _ (List.mem_of_getElem? (i := 188) rfl)
theorem tw_438 : (Cond.instanceMethod yX2_encode) ∈ lw_tbl := tp_5 _ (List.mem_of_getElem? (i := 189) rfl)
theorem tw_439 : (Cond.selects RX2 yX2_encode yX2_encode) ∈ lw_tbl := tp_5 _ (List.mem_of_getElem? (i := 190) rfl)
theorem tw_440 : (Cond.code yX2_encode cX2_encode 6 none) ∈ lw_tbl := tp_5 _ (List.mem_of_getElem? (i := 191) rfl)
theorem tw_441 : (Cond.fieldLink RX2 68 "KnotHouse$Net" "crossings" "I") ∈ lw_tbl := tp_1 _ (List.mem_of_getElem? (i := 120) rfl)
theorem tw_442 : (Cond.fieldLink RX2 65 "KnotHouse$Codes" "crossings" "[B") ∈ lw_tbl := tp_1 _ (List.mem_of_getElem? (i := 59) rfl)
theorem tw_443 : (Cond.fieldLink RX2 48 "KnotHouse$Codes" "lengths" "[B") ∈ lw_tbl := tp_1 _ (List.mem_of_getElem? (i := 54) rfl)
theorem tw_444 : (Cond.fieldLink RX2 51 "KnotHouse$Codes" "cells" "[B") ∈ lw_tbl := tp_1 _ (List.mem_of_getElem? (i := 51) rfl)
theorem tw_445 : (Cond.fieldLink RX2 60 "KnotHouse$Net" "circles" "I") ∈ lw_tbl := tp_1 _ (List.mem_of_getElem? (i := 129) rfl)
theorem tw_446 : (Cond.fieldLink RX2 41 "KnotHouse$Codes" "size" "I") ∈ lw_tbl := tp_1 _ (List.mem_of_getElem? (i := 64) rfl)
theorem tw_447 : (Cond.methodLink RX2 37 yX2_collectParts) ∈ lw_tbl := tp_5 _ (List.mem_of_getElem? (i := 192) rfl)
theorem tw_448 : (Cond.instanceMethod yX2_collectParts) ∈ lw_tbl := tp_5 _ (List.mem_of_getElem? (i := 193) rfl)
theorem tw_449 : (Cond.selects RX2 yX2_collectParts yX2_collectParts) ∈ lw_tbl := tp_5 _ (List.mem_of_getElem? (i := 194) rfl)
theorem tw_450 : (Cond.code yX2_collectParts cX2_collectParts 4 none) ∈ lw_tbl := tp_5 _ (List.mem_of_getElem? (i := 195) rfl)
theorem tw_451 : (Cond.fieldLink RX2 73 "KnotHouse$Net" "parts" "I") ∈ lw_tbl := tp_1 _ (List.mem_of_getElem? (i := 137) rfl)
theorem tw_452 : (Cond.methodLink RX2 70 yX7_markParts) ∈ lw_tbl := tp_5 _ (List.mem_of_getElem? (i := 196) rfl)
theorem in_wf_collectParts : ∀ w ∈ wf_collectParts, w ∈ lw_tbl := by
  show ∀ w ∈ .code yX2_collectParts cX2_collectParts 4 none :: ([.fieldLink RX2 41 "KnotHouse$Codes" "size" "I", .fieldLink RX2 73 "KnotHouse$Net" "parts" "I"] ++ wsX70 ++ wsX30 ++ wsV RX2 70 RX7 yX7_markParts wf_markParts), w ∈ lw_tbl
  exact (List.forall_mem_cons.mpr ⟨tw_450, (List.forall_mem_append.mpr ⟨(List.forall_mem_append.mpr ⟨(List.forall_mem_append.mpr ⟨(List.forall_mem_cons.mpr ⟨tw_446, (List.forall_mem_cons.mpr ⟨tw_451, (fun _ h => absurd h List.not_mem_nil)⟩)⟩), in_wsX70⟩), in_wsX30⟩), (List.forall_mem_append.mpr ⟨(List.forall_mem_cons.mpr ⟨tw_452, (List.forall_mem_cons.mpr ⟨tw_417, (List.forall_mem_cons.mpr ⟨tw_418, (List.forall_mem_cons.mpr ⟨tw_13, (fun _ h => absurd h List.not_mem_nil)⟩)⟩)⟩)⟩), in_wf_markParts⟩)⟩)⟩)
theorem in_wf_encode : ∀ w ∈ wf_encode, w ∈ lw_tbl := by
  show ∀ w ∈ .code yX2_encode cX2_encode 6 none :: ([.fieldLink RX2 23 "KnotHouse$Coder" "sorted" "LKnotHouse$Codes;", .fieldLink RX2 41 "KnotHouse$Codes" "size" "I", .fieldLink RX2 60 "KnotHouse$Net" "circles" "I", .fieldLink RX2 14 "KnotHouse$Coder" "out" "LKnotHouse$Codes;", .fieldLink RX2 51 "KnotHouse$Codes" "cells" "[B", .fieldLink RX2 48 "KnotHouse$Codes" "lengths" "[B", .fieldLink RX2 65 "KnotHouse$Codes" "crossings" "[B", .fieldLink RX2 68 "KnotHouse$Net" "crossings" "I"] ++ wsX70 ++ wsX30 ++ wsX20 ++ wsV RX2 37 RX2 yX2_collectParts wf_collectParts), w ∈ lw_tbl
  exact (List.forall_mem_cons.mpr ⟨tw_440, (List.forall_mem_append.mpr ⟨(List.forall_mem_append.mpr ⟨(List.forall_mem_append.mpr ⟨(List.forall_mem_append.mpr ⟨(List.forall_mem_cons.mpr ⟨tw_76, (List.forall_mem_cons.mpr ⟨tw_446, (List.forall_mem_cons.mpr ⟨tw_445, (List.forall_mem_cons.mpr ⟨tw_78, (List.forall_mem_cons.mpr ⟨tw_444, (List.forall_mem_cons.mpr ⟨tw_443, (List.forall_mem_cons.mpr ⟨tw_442, (List.forall_mem_cons.mpr ⟨tw_441, (fun _ h => absurd h List.not_mem_nil)⟩)⟩)⟩)⟩)⟩)⟩)⟩)⟩), in_wsX70⟩), in_wsX30⟩), in_wsX20⟩), (List.forall_mem_append.mpr ⟨(List.forall_mem_cons.mpr ⟨tw_447, (List.forall_mem_cons.mpr ⟨tw_448, (List.forall_mem_cons.mpr ⟨tw_449, (List.forall_mem_cons.mpr ⟨tw_4, (fun _ h => absurd h List.not_mem_nil)⟩)⟩)⟩)⟩), in_wf_collectParts⟩)⟩)⟩)
theorem tw_453 : (Cond.methodLink RX11 185 yX3_write) ∈ lw_tbl := tp_5 _ (List.mem_of_getElem? (i := 232) rfl)
theorem tw_454 : (Cond.instanceMethod yX3_write) ∈ lw_tbl := tp_5 _ (List.mem_of_getElem? (i := 228) rfl)
theorem tw_455 : (Cond.selects RX3 yX3_write yX3_write) ∈ lw_tbl := tp_5 _ (List.mem_of_getElem? (i := 229) rfl)
theorem tw_456 : (Cond.code yX3_write cX3_write 4 none) ∈ lw_tbl := tp_5 _ (List.mem_of_getElem? (i := 230) rfl)
theorem tw_457 : (Cond.initialized "java/lang/System") ∈ lw_tbl := tp_1 _ (List.mem_of_getElem? (i := 28) rfl)
theorem tw_458 : (Cond.static arraycopyName) ∈ lw_tbl := tp_3 _ (List.mem_of_getElem? (i := 219) rfl)
theorem tw_459 : (Cond.native arraycopyName) ∈ lw_tbl := tp_3 _ (List.mem_of_getElem? (i := 220) rfl)
theorem tw_460 : (Cond.methodLink RX3 25 arraycopyName) ∈ lw_tbl := tp_5 _ (List.mem_of_getElem? (i := 231) rfl)
theorem in_wf_write : ∀ w ∈ wf_write, w ∈ lw_tbl := by
  show ∀ w ∈ .code yX3_write cX3_write 4 none :: ([.fieldLink RX3 9 "KnotHouse$Codes" "cells" "[B", .fieldLink RX3 15 "KnotHouse$Codes" "lengths" "[B", .fieldLink RX3 18 "KnotHouse$Codes" "crossings" "[B", .methodLink RX3 25 arraycopyName, .native arraycopyName, .static arraycopyName, .initialized "java/lang/System"] ++ wsX30), w ∈ lw_tbl
  exact (List.forall_mem_cons.mpr ⟨tw_456, (List.forall_mem_append.mpr ⟨(List.forall_mem_cons.mpr ⟨tw_59, (List.forall_mem_cons.mpr ⟨tw_58, (List.forall_mem_cons.mpr ⟨tw_57, (List.forall_mem_cons.mpr ⟨tw_460, (List.forall_mem_cons.mpr ⟨tw_459, (List.forall_mem_cons.mpr ⟨tw_458, (List.forall_mem_cons.mpr ⟨tw_457, (fun _ h => absurd h List.not_mem_nil)⟩)⟩)⟩)⟩)⟩)⟩)⟩), in_wsX30⟩)⟩)
theorem in_wf_keep : ∀ w ∈ wf_keep, w ∈ lw_tbl := by
  show ∀ w ∈ .code yX11_keep cX11_keep 2 (some .int) :: ([.fieldLink RX11 44 "KnotHouse" "coder" "LKnotHouse$Coder;", .fieldLink RX11 27 "KnotHouse" "net" "LKnotHouse$Net;", .fieldLink RX11 14 "KnotHouse" "diagrams" "LKnotHouse$Codes;", .fieldLink RX11 182 "KnotHouse$Coder" "out" "LKnotHouse$Codes;"] ++ wsX110 ++ wsX20 ++ (wsV RX11 178 RX2 yX2_encode wf_encode ++ wsV RX11 185 RX3 yX3_write wf_write)), w ∈ lw_tbl
  exact (List.forall_mem_cons.mpr ⟨tw_435, (List.forall_mem_append.mpr ⟨(List.forall_mem_append.mpr ⟨(List.forall_mem_append.mpr ⟨(List.forall_mem_cons.mpr ⟨tw_3, (List.forall_mem_cons.mpr ⟨tw_12, (List.forall_mem_cons.mpr ⟨tw_18, (List.forall_mem_cons.mpr ⟨tw_436, (fun _ h => absurd h List.not_mem_nil)⟩)⟩)⟩)⟩), in_wsX110⟩), in_wsX20⟩), (List.forall_mem_append.mpr ⟨(List.forall_mem_append.mpr ⟨(List.forall_mem_cons.mpr ⟨tw_437, (List.forall_mem_cons.mpr ⟨tw_438, (List.forall_mem_cons.mpr ⟨tw_439, (List.forall_mem_cons.mpr ⟨tw_4, (fun _ h => absurd h List.not_mem_nil)⟩)⟩)⟩)⟩), in_wf_encode⟩), (List.forall_mem_append.mpr ⟨(List.forall_mem_cons.mpr ⟨tw_453, (List.forall_mem_cons.mpr ⟨tw_454, (List.forall_mem_cons.mpr ⟨tw_455, (List.forall_mem_cons.mpr ⟨tw_19, (fun _ h => absurd h List.not_mem_nil)⟩)⟩)⟩)⟩), in_wf_write⟩)⟩)⟩)⟩)
theorem in_wf_diagram : ∀ w ∈ wf_diagram, w ∈ lw_tbl := by
  show ∀ w ∈ .code yX11_diagram cX11_diagram 3 (some .int) :: ([.fieldLink RX11 51 "KnotHouse" "reader" "LKnotHouse$Reader;", .fieldLink RX11 27 "KnotHouse" "net" "LKnotHouse$Net;", .fieldLink RX11 37 "KnotHouse" "faces" "LKnotHouse$Faces;", .fieldLink RX11 114 "KnotHouse$Reader" "length" "I"] ++ wsX110 ++ wsX90 ++ (wsV RX11 133 RX11 yX11_freeDiagram wf_freeDiagram ++ wsV RX11 137 RX9 yX9_readDiagram wf_readDiagram ++ wsV RX11 141 RX4 yX4_isPlane wf_isPlane ++ wsV RX11 145 RX11 yX11_keep wf_keep)), w ∈ lw_tbl
  exact (List.forall_mem_cons.mpr ⟨tw_379, (List.forall_mem_append.mpr ⟨(List.forall_mem_append.mpr ⟨(List.forall_mem_append.mpr ⟨(List.forall_mem_cons.mpr ⟨tw_47, (List.forall_mem_cons.mpr ⟨tw_12, (List.forall_mem_cons.mpr ⟨tw_7, (List.forall_mem_cons.mpr ⟨tw_364, (fun _ h => absurd h List.not_mem_nil)⟩)⟩)⟩)⟩), in_wsX110⟩), in_wsX90⟩), (List.forall_mem_append.mpr ⟨(List.forall_mem_append.mpr ⟨(List.forall_mem_append.mpr ⟨(List.forall_mem_append.mpr ⟨(List.forall_mem_cons.mpr ⟨tw_380, (List.forall_mem_cons.mpr ⟨tw_381, (List.forall_mem_cons.mpr ⟨tw_382, (List.forall_mem_cons.mpr ⟨tw_362, (fun _ h => absurd h List.not_mem_nil)⟩)⟩)⟩)⟩), in_wf_freeDiagram⟩), (List.forall_mem_append.mpr ⟨(List.forall_mem_cons.mpr ⟨tw_385, (List.forall_mem_cons.mpr ⟨tw_386, (List.forall_mem_cons.mpr ⟨tw_387, (List.forall_mem_cons.mpr ⟨tw_48, (fun _ h => absurd h List.not_mem_nil)⟩)⟩)⟩)⟩), in_wf_readDiagram⟩)⟩), (List.forall_mem_append.mpr ⟨(List.forall_mem_cons.mpr ⟨tw_409, (List.forall_mem_cons.mpr ⟨tw_410, (List.forall_mem_cons.mpr ⟨tw_411, (List.forall_mem_cons.mpr ⟨tw_8, (fun _ h => absurd h List.not_mem_nil)⟩)⟩)⟩)⟩), in_wf_isPlane⟩)⟩), (List.forall_mem_append.mpr ⟨(List.forall_mem_cons.mpr ⟨tw_432, (List.forall_mem_cons.mpr ⟨tw_433, (List.forall_mem_cons.mpr ⟨tw_434, (List.forall_mem_cons.mpr ⟨tw_362, (fun _ h => absurd h List.not_mem_nil)⟩)⟩)⟩)⟩), in_wf_keep⟩)⟩)⟩)⟩)
theorem tw_461 : (Cond.methodLink RL 25 yX11_braid) ∈ lw_tbl := tp_5 _ (List.mem_of_getElem? (i := 236) rfl)
theorem tw_462 : (Cond.instanceMethod yX11_braid) ∈ lw_tbl := tp_5 _ (List.mem_of_getElem? (i := 237) rfl)
theorem tw_463 : (Cond.selects RX11 yX11_braid yX11_braid) ∈ lw_tbl := tp_5 _ (List.mem_of_getElem? (i := 238) rfl)
theorem tw_464 : (Cond.code yX11_braid cX11_braid 5 (some .int)) ∈ lw_tbl := tp_5 _ (List.mem_of_getElem? (i := 239) rfl)
theorem tw_465 : (Cond.methodLink RX11 151 yX11_freeBraid) ∈ lw_tbl := tp_6 _ (List.mem_of_getElem? (i := 1) rfl)
theorem tw_466 : (Cond.instanceMethod yX11_freeBraid) ∈ lw_tbl := tp_6 _ (List.mem_of_getElem? (i := 3) rfl)
theorem tw_467 : (Cond.selects RX11 yX11_freeBraid yX11_freeBraid) ∈ lw_tbl := List.mem_append_left _ (List.mem_map.mpr ⟨(yX11_freeBraid, 19), tq_1 _ (List.mem_of_getElem? (i := 15) rfl), rfl⟩)
theorem tw_468 : (Cond.code yX11_freeBraid cX11_freeBraid 2 (some .int)) ∈ lw_tbl := tp_6 _ (List.mem_of_getElem? (i := 4) rfl)
theorem in_wf_freeBraid : ∀ w ∈ wf_freeBraid, w ∈ lw_tbl := by
  show ∀ w ∈ .code yX11_freeBraid cX11_freeBraid 2 (some .int) :: ([.fieldLink RX11 91 "KnotHouse" "strands" "[I"] ++ wsX110), w ∈ lw_tbl
  exact (List.forall_mem_cons.mpr ⟨tw_468, (List.forall_mem_append.mpr ⟨(List.forall_mem_cons.mpr ⟨tw_26, (fun _ h => absurd h List.not_mem_nil)⟩), in_wsX110⟩)⟩)
theorem tw_469 : (Cond.methodLink RX11 154 yX9_readBraid) ∈ lw_tbl := tp_6 _ (List.mem_of_getElem? (i := 6) rfl)
theorem tw_470 : (Cond.instanceMethod yX9_readBraid) ∈ lw_tbl := tp_6 _ (List.mem_of_getElem? (i := 7) rfl)
theorem tw_471 : (Cond.selects RX9 yX9_readBraid yX9_readBraid) ∈ lw_tbl := tp_6 _ (List.mem_of_getElem? (i := 8) rfl)
theorem tw_472 : (Cond.code yX9_readBraid cX9_readBraid 7 (some .int)) ∈ lw_tbl := tp_6 _ (List.mem_of_getElem? (i := 9) rfl)
theorem in_wf_readBraid : ∀ w ∈ wf_readBraid, w ∈ lw_tbl := by
  show ∀ w ∈ .code yX9_readBraid cX9_readBraid 7 (some .int) :: ([.fieldLink RX9 22 "KnotHouse$Reader" "length" "I"] ++ wsX90), w ∈ lw_tbl
  exact (List.forall_mem_cons.mpr ⟨tw_472, (List.forall_mem_append.mpr ⟨(List.forall_mem_cons.mpr ⟨tw_369, (fun _ h => absurd h List.not_mem_nil)⟩), in_wsX90⟩)⟩)
theorem in_wf_braid : ∀ w ∈ wf_braid, w ∈ lw_tbl := by
  show ∀ w ∈ .code yX11_braid cX11_braid 5 (some .int) :: ((.classLink RX11 128 "java/lang/IllegalArgumentException" :: .initialized "java/lang/IllegalArgumentException" :: .fieldLink RX11 51 "KnotHouse" "reader" "LKnotHouse$Reader;" :: .fieldLink RX11 114 "KnotHouse$Reader" "length" "I" :: .fieldLink RX11 83 "KnotHouse" "letters" "[B" :: .fieldLink RX11 87 "KnotHouse" "lengths" "[I" :: .fieldLink RX11 91 "KnotHouse" "strands" "[I" :: (wsX110 ++ wsX90 ++ (wsV RX11 151 RX11 yX11_freeBraid wf_freeBraid ++ wsV RX11 154 RX9 yX9_readBraid wf_readBraid))) ++ (vx_atS RX11 132 "java/lang/IllegalArgumentException" ["java/lang/RuntimeException", "java/lang/Exception"]).filter goodWord), w ∈ lw_tbl
  exact (List.forall_mem_cons.mpr ⟨tw_464, (List.forall_mem_append.mpr ⟨(List.forall_mem_cons.mpr ⟨tw_374, (List.forall_mem_cons.mpr ⟨tw_375, (List.forall_mem_cons.mpr ⟨tw_47, (List.forall_mem_cons.mpr ⟨tw_364, (List.forall_mem_cons.mpr ⟨tw_29, (List.forall_mem_cons.mpr ⟨tw_27, (List.forall_mem_cons.mpr ⟨tw_26, (List.forall_mem_append.mpr ⟨(List.forall_mem_append.mpr ⟨in_wsX110, in_wsX90⟩), (List.forall_mem_append.mpr ⟨(List.forall_mem_append.mpr ⟨(List.forall_mem_cons.mpr ⟨tw_465, (List.forall_mem_cons.mpr ⟨tw_466, (List.forall_mem_cons.mpr ⟨tw_467, (List.forall_mem_cons.mpr ⟨tw_362, (fun _ h => absurd h List.not_mem_nil)⟩)⟩)⟩)⟩), in_wf_freeBraid⟩), (List.forall_mem_append.mpr ⟨(List.forall_mem_cons.mpr ⟨tw_469, (List.forall_mem_cons.mpr ⟨tw_470, (List.forall_mem_cons.mpr ⟨tw_471, (List.forall_mem_cons.mpr ⟨tw_48, (fun _ h => absurd h List.not_mem_nil)⟩)⟩)⟩)⟩), in_wf_readBraid⟩)⟩)⟩)⟩)⟩)⟩)⟩)⟩)⟩)⟩), tv_0⟩)⟩)
theorem tw_473 : (Cond.methodLink RL 29 yX11_figure) ∈ lw_tbl := tp_6 _ (List.mem_of_getElem? (i := 14) rfl)
theorem tw_474 : (Cond.instanceMethod yX11_figure) ∈ lw_tbl := tp_6 _ (List.mem_of_getElem? (i := 15) rfl)
theorem tw_475 : (Cond.selects RX11 yX11_figure yX11_figure) ∈ lw_tbl := tp_6 _ (List.mem_of_getElem? (i := 16) rfl)
theorem tw_476 : (Cond.code yX11_figure cX11_figure 3 (some .int)) ∈ lw_tbl := tp_6 _ (List.mem_of_getElem? (i := 17) rfl)
theorem tw_477 : (Cond.methodLink RX11 189 yX11_needDiagram) ∈ lw_tbl := tp_6 _ (List.mem_of_getElem? (i := 18) rfl)
theorem tw_478 : (Cond.instanceMethod yX11_needDiagram) ∈ lw_tbl := tp_6 _ (List.mem_of_getElem? (i := 20) rfl)
theorem tw_479 : (Cond.selects RX11 yX11_needDiagram yX11_needDiagram) ∈ lw_tbl := List.mem_append_left _ (List.mem_map.mpr ⟨(yX11_needDiagram, 19), tq_2 _ (List.mem_of_getElem? (i := 0) rfl), rfl⟩)
theorem tw_480 : (Cond.code yX11_needDiagram cX11_needDiagram 2 none) ∈ lw_tbl := tp_6 _ (List.mem_of_getElem? (i := 21) rfl)
theorem tw_481 : (Cond.classLink RX11 164 "java/lang/IndexOutOfBoundsException") ∈ lw_tbl := tp_6 _ (List.mem_of_getElem? (i := 22) rfl)
theorem tw_482 : (Cond.initialized "java/lang/IndexOutOfBoundsException") ∈ lw_tbl := tp_1 _ (List.mem_of_getElem? (i := 31) rfl)
theorem tw_483 : (Cond.methodLink RX11 160 yX11_hasDiagram) ∈ lw_tbl := tp_3 _ (List.mem_of_getElem? (i := 139) rfl)
theorem tw_484 : (Cond.instanceMethod yX11_hasDiagram) ∈ lw_tbl := tp_3 _ (List.mem_of_getElem? (i := 141) rfl)
theorem tw_485 : (Cond.selects RX11 yX11_hasDiagram yX11_hasDiagram) ∈ lw_tbl := List.mem_append_left _ (List.mem_map.mpr ⟨(yX11_hasDiagram, 19), tq_1 _ (List.mem_of_getElem? (i := 0) rfl), rfl⟩)
theorem tw_486 : (Cond.code yX11_hasDiagram cX11_hasDiagram 2 (some .boolean)) ∈ lw_tbl := tp_3 _ (List.mem_of_getElem? (i := 142) rfl)
theorem in_wf_hasDiagram : ∀ w ∈ wf_hasDiagram, w ∈ lw_tbl := by
  show ∀ w ∈ .code yX11_hasDiagram cX11_hasDiagram 2 (some .boolean) :: ([.fieldLink RX11 14 "KnotHouse" "diagrams" "LKnotHouse$Codes;", .fieldLink RX11 158 "KnotHouse$Codes" "lengths" "[B"] ++ wsX110 ++ wsX30), w ∈ lw_tbl
  exact (List.forall_mem_cons.mpr ⟨tw_486, (List.forall_mem_append.mpr ⟨(List.forall_mem_append.mpr ⟨(List.forall_mem_cons.mpr ⟨tw_18, (List.forall_mem_cons.mpr ⟨tw_384, (fun _ h => absurd h List.not_mem_nil)⟩)⟩), in_wsX110⟩), in_wsX30⟩)⟩)
theorem tv_1 : ∀ w ∈ (vx_atS RX11 168 "java/lang/IndexOutOfBoundsException" ["java/lang/RuntimeException", "java/lang/Exception"]).filter goodWord, w ∈ lw_tbl := by decide +kernel
theorem in_wf_needDiagram : ∀ w ∈ wf_needDiagram, w ∈ lw_tbl := by
  show ∀ w ∈ .code yX11_needDiagram cX11_needDiagram 2 none :: ((.classLink RX11 164 "java/lang/IndexOutOfBoundsException" :: .initialized "java/lang/IndexOutOfBoundsException" :: wsV RX11 160 RX11 yX11_hasDiagram wf_hasDiagram) ++ (vx_atS RX11 168 "java/lang/IndexOutOfBoundsException" ["java/lang/RuntimeException", "java/lang/Exception"]).filter goodWord), w ∈ lw_tbl
  exact (List.forall_mem_cons.mpr ⟨tw_480, (List.forall_mem_append.mpr ⟨(List.forall_mem_cons.mpr ⟨tw_481, (List.forall_mem_cons.mpr ⟨tw_482, (List.forall_mem_append.mpr ⟨(List.forall_mem_cons.mpr ⟨tw_483, (List.forall_mem_cons.mpr ⟨tw_484, (List.forall_mem_cons.mpr ⟨tw_485, (List.forall_mem_cons.mpr ⟨tw_362, (fun _ h => absurd h List.not_mem_nil)⟩)⟩)⟩)⟩), in_wf_hasDiagram⟩)⟩)⟩), tv_1⟩)⟩)
theorem in_wf_figure : ∀ w ∈ wf_figure, w ∈ lw_tbl := by
  show ∀ w ∈ .code yX11_figure cX11_figure 3 (some .int) :: wsV RX11 189 RX11 yX11_needDiagram wf_needDiagram, w ∈ lw_tbl
  exact (List.forall_mem_cons.mpr ⟨tw_476, (List.forall_mem_append.mpr ⟨(List.forall_mem_cons.mpr ⟨tw_477, (List.forall_mem_cons.mpr ⟨tw_478, (List.forall_mem_cons.mpr ⟨tw_479, (List.forall_mem_cons.mpr ⟨tw_362, (fun _ h => absurd h List.not_mem_nil)⟩)⟩)⟩)⟩), in_wf_needDiagram⟩)⟩)
theorem tw_487 : (Cond.methodLink RL 35 yX11_visit) ∈ lw_tbl := tp_6 _ (List.mem_of_getElem? (i := 53) rfl)
theorem tw_488 : (Cond.instanceMethod yX11_visit) ∈ lw_tbl := tp_6 _ (List.mem_of_getElem? (i := 54) rfl)
theorem tw_489 : (Cond.selects RX11 yX11_visit yX11_visit) ∈ lw_tbl := tp_6 _ (List.mem_of_getElem? (i := 55) rfl)
theorem tw_490 : (Cond.code yX11_visit cX11_visit 5 (some .int)) ∈ lw_tbl := tp_6 _ (List.mem_of_getElem? (i := 56) rfl)
theorem in_wf_visit : ∀ w ∈ wf_visit, w ∈ lw_tbl := by
  show ∀ w ∈ .code yX11_visit cX11_visit 5 (some .int) :: wsV RX11 189 RX11 yX11_needDiagram wf_needDiagram, w ∈ lw_tbl
  exact (List.forall_mem_cons.mpr ⟨tw_490, (List.forall_mem_append.mpr ⟨(List.forall_mem_cons.mpr ⟨tw_477, (List.forall_mem_cons.mpr ⟨tw_478, (List.forall_mem_cons.mpr ⟨tw_479, (List.forall_mem_cons.mpr ⟨tw_362, (fun _ h => absurd h List.not_mem_nil)⟩)⟩)⟩)⟩), in_wf_needDiagram⟩)⟩)
theorem tw_491 : (Cond.methodLink RL 39 yX11_linking) ∈ lw_tbl := tp_6 _ (List.mem_of_getElem? (i := 62) rfl)
theorem tw_492 : (Cond.instanceMethod yX11_linking) ∈ lw_tbl := tp_6 _ (List.mem_of_getElem? (i := 63) rfl)
theorem tw_493 : (Cond.selects RX11 yX11_linking yX11_linking) ∈ lw_tbl := tp_6 _ (List.mem_of_getElem? (i := 64) rfl)
theorem tw_494 : (Cond.code yX11_linking cX11_linking 8 (some .int)) ∈ lw_tbl := tp_6 _ (List.mem_of_getElem? (i := 65) rfl)
theorem in_wf_linking : ∀ w ∈ wf_linking, w ∈ lw_tbl := by
  show ∀ w ∈ .code yX11_linking cX11_linking 8 (some .int) :: wsV RX11 189 RX11 yX11_needDiagram wf_needDiagram, w ∈ lw_tbl
  exact (List.forall_mem_cons.mpr ⟨tw_494, (List.forall_mem_append.mpr ⟨(List.forall_mem_cons.mpr ⟨tw_477, (List.forall_mem_cons.mpr ⟨tw_478, (List.forall_mem_cons.mpr ⟨tw_479, (List.forall_mem_cons.mpr ⟨tw_362, (fun _ h => absurd h List.not_mem_nil)⟩)⟩)⟩)⟩), in_wf_needDiagram⟩)⟩)
theorem tw_495 : (Cond.methodLink RL 42 yX11_mirror) ∈ lw_tbl := tp_6 _ (List.mem_of_getElem? (i := 75) rfl)
theorem tw_496 : (Cond.instanceMethod yX11_mirror) ∈ lw_tbl := tp_6 _ (List.mem_of_getElem? (i := 76) rfl)
theorem tw_497 : (Cond.selects RX11 yX11_mirror yX11_mirror) ∈ lw_tbl := tp_6 _ (List.mem_of_getElem? (i := 77) rfl)
theorem tw_498 : (Cond.code yX11_mirror cX11_mirror 4 (some .int)) ∈ lw_tbl := tp_6 _ (List.mem_of_getElem? (i := 78) rfl)
theorem in_wf_mirror : ∀ w ∈ wf_mirror, w ∈ lw_tbl := by
  show ∀ w ∈ .code yX11_mirror cX11_mirror 4 (some .int) :: wsV RX11 189 RX11 yX11_needDiagram wf_needDiagram, w ∈ lw_tbl
  exact (List.forall_mem_cons.mpr ⟨tw_498, (List.forall_mem_append.mpr ⟨(List.forall_mem_cons.mpr ⟨tw_477, (List.forall_mem_cons.mpr ⟨tw_478, (List.forall_mem_cons.mpr ⟨tw_479, (List.forall_mem_cons.mpr ⟨tw_362, (fun _ h => absurd h List.not_mem_nil)⟩)⟩)⟩)⟩), in_wf_needDiagram⟩)⟩)
theorem tw_499 : (Cond.methodLink RL 45 yX11_reverse) ∈ lw_tbl := tp_6 _ (List.mem_of_getElem? (i := 93) rfl)
theorem tw_500 : (Cond.instanceMethod yX11_reverse) ∈ lw_tbl := tp_6 _ (List.mem_of_getElem? (i := 94) rfl)
theorem tw_501 : (Cond.selects RX11 yX11_reverse yX11_reverse) ∈ lw_tbl := tp_6 _ (List.mem_of_getElem? (i := 95) rfl)
theorem tw_502 : (Cond.code yX11_reverse cX11_reverse 4 (some .int)) ∈ lw_tbl := tp_6 _ (List.mem_of_getElem? (i := 96) rfl)
theorem in_wf_reverse : ∀ w ∈ wf_reverse, w ∈ lw_tbl := by
  show ∀ w ∈ .code yX11_reverse cX11_reverse 4 (some .int) :: wsV RX11 189 RX11 yX11_needDiagram wf_needDiagram, w ∈ lw_tbl
  exact (List.forall_mem_cons.mpr ⟨tw_502, (List.forall_mem_append.mpr ⟨(List.forall_mem_cons.mpr ⟨tw_477, (List.forall_mem_cons.mpr ⟨tw_478, (List.forall_mem_cons.mpr ⟨tw_479, (List.forall_mem_cons.mpr ⟨tw_362, (fun _ h => absurd h List.not_mem_nil)⟩)⟩)⟩)⟩), in_wf_needDiagram⟩)⟩)
theorem tw_503 : (Cond.methodLink RL 48 yX11_change) ∈ lw_tbl := tp_6 _ (List.mem_of_getElem? (i := 104) rfl)
theorem tw_504 : (Cond.instanceMethod yX11_change) ∈ lw_tbl := tp_6 _ (List.mem_of_getElem? (i := 105) rfl)
theorem tw_505 : (Cond.selects RX11 yX11_change yX11_change) ∈ lw_tbl := tp_6 _ (List.mem_of_getElem? (i := 106) rfl)
theorem tw_506 : (Cond.code yX11_change cX11_change 4 (some .int)) ∈ lw_tbl := tp_6 _ (List.mem_of_getElem? (i := 107) rfl)
theorem in_wf_change : ∀ w ∈ wf_change, w ∈ lw_tbl := by
  show ∀ w ∈ .code yX11_change cX11_change 4 (some .int) :: wsV RX11 189 RX11 yX11_needDiagram wf_needDiagram, w ∈ lw_tbl
  exact (List.forall_mem_cons.mpr ⟨tw_506, (List.forall_mem_append.mpr ⟨(List.forall_mem_cons.mpr ⟨tw_477, (List.forall_mem_cons.mpr ⟨tw_478, (List.forall_mem_cons.mpr ⟨tw_479, (List.forall_mem_cons.mpr ⟨tw_362, (fun _ h => absurd h List.not_mem_nil)⟩)⟩)⟩)⟩), in_wf_needDiagram⟩)⟩)
theorem tw_507 : (Cond.methodLink RL 51 yX11_smooth) ∈ lw_tbl := tp_6 _ (List.mem_of_getElem? (i := 117) rfl)
theorem tw_508 : (Cond.instanceMethod yX11_smooth) ∈ lw_tbl := tp_6 _ (List.mem_of_getElem? (i := 118) rfl)
theorem tw_509 : (Cond.selects RX11 yX11_smooth yX11_smooth) ∈ lw_tbl := tp_6 _ (List.mem_of_getElem? (i := 119) rfl)
theorem tw_510 : (Cond.code yX11_smooth cX11_smooth 3 (some .int)) ∈ lw_tbl := tp_6 _ (List.mem_of_getElem? (i := 120) rfl)
theorem in_wf_smooth : ∀ w ∈ wf_smooth, w ∈ lw_tbl := by
  show ∀ w ∈ .code yX11_smooth cX11_smooth 3 (some .int) :: wsV RX11 189 RX11 yX11_needDiagram wf_needDiagram, w ∈ lw_tbl
  exact (List.forall_mem_cons.mpr ⟨tw_510, (List.forall_mem_append.mpr ⟨(List.forall_mem_cons.mpr ⟨tw_477, (List.forall_mem_cons.mpr ⟨tw_478, (List.forall_mem_cons.mpr ⟨tw_479, (List.forall_mem_cons.mpr ⟨tw_362, (fun _ h => absurd h List.not_mem_nil)⟩)⟩)⟩)⟩), in_wf_needDiagram⟩)⟩)
theorem tw_511 : (Cond.methodLink RL 56 yX11_apart) ∈ lw_tbl := tp_6 _ (List.mem_of_getElem? (i := 164) rfl)
theorem tw_512 : (Cond.instanceMethod yX11_apart) ∈ lw_tbl := tp_6 _ (List.mem_of_getElem? (i := 165) rfl)
theorem tw_513 : (Cond.selects RX11 yX11_apart yX11_apart) ∈ lw_tbl := tp_6 _ (List.mem_of_getElem? (i := 166) rfl)
theorem tw_514 : (Cond.code yX11_apart cX11_apart 4 (some .int)) ∈ lw_tbl := tp_6 _ (List.mem_of_getElem? (i := 167) rfl)
theorem in_wf_apart : ∀ w ∈ wf_apart, w ∈ lw_tbl := by
  show ∀ w ∈ .code yX11_apart cX11_apart 4 (some .int) :: wsV RX11 189 RX11 yX11_needDiagram wf_needDiagram, w ∈ lw_tbl
  exact (List.forall_mem_cons.mpr ⟨tw_514, (List.forall_mem_append.mpr ⟨(List.forall_mem_cons.mpr ⟨tw_477, (List.forall_mem_cons.mpr ⟨tw_478, (List.forall_mem_cons.mpr ⟨tw_479, (List.forall_mem_cons.mpr ⟨tw_362, (fun _ h => absurd h List.not_mem_nil)⟩)⟩)⟩)⟩), in_wf_needDiagram⟩)⟩)
theorem tw_515 : (Cond.methodLink RL 59 yX11_join) ∈ lw_tbl := tp_6 _ (List.mem_of_getElem? (i := 181) rfl)
theorem tw_516 : (Cond.instanceMethod yX11_join) ∈ lw_tbl := tp_6 _ (List.mem_of_getElem? (i := 182) rfl)
theorem tw_517 : (Cond.selects RX11 yX11_join yX11_join) ∈ lw_tbl := tp_6 _ (List.mem_of_getElem? (i := 183) rfl)
theorem tw_518 : (Cond.code yX11_join cX11_join 8 (some .int)) ∈ lw_tbl := tp_6 _ (List.mem_of_getElem? (i := 184) rfl)
theorem in_wf_join : ∀ w ∈ wf_join, w ∈ lw_tbl := by
  show ∀ w ∈ .code yX11_join cX11_join 8 (some .int) :: wsV RX11 189 RX11 yX11_needDiagram wf_needDiagram, w ∈ lw_tbl
  exact (List.forall_mem_cons.mpr ⟨tw_518, (List.forall_mem_append.mpr ⟨(List.forall_mem_cons.mpr ⟨tw_477, (List.forall_mem_cons.mpr ⟨tw_478, (List.forall_mem_cons.mpr ⟨tw_479, (List.forall_mem_cons.mpr ⟨tw_362, (fun _ h => absurd h List.not_mem_nil)⟩)⟩)⟩)⟩), in_wf_needDiagram⟩)⟩)
theorem tw_519 : (Cond.methodLink RL 63 yX11_moves) ∈ lw_tbl := tp_6 _ (List.mem_of_getElem? (i := 189) rfl)
theorem tw_520 : (Cond.instanceMethod yX11_moves) ∈ lw_tbl := tp_6 _ (List.mem_of_getElem? (i := 190) rfl)
theorem tw_521 : (Cond.selects RX11 yX11_moves yX11_moves) ∈ lw_tbl := tp_6 _ (List.mem_of_getElem? (i := 191) rfl)
theorem tw_522 : (Cond.code yX11_moves cX11_moves 3 (some .int)) ∈ lw_tbl := tp_6 _ (List.mem_of_getElem? (i := 192) rfl)
theorem in_wf_moves : ∀ w ∈ wf_moves, w ∈ lw_tbl := by
  show ∀ w ∈ .code yX11_moves cX11_moves 3 (some .int) :: wsV RX11 189 RX11 yX11_needDiagram wf_needDiagram, w ∈ lw_tbl
  exact (List.forall_mem_cons.mpr ⟨tw_522, (List.forall_mem_append.mpr ⟨(List.forall_mem_cons.mpr ⟨tw_477, (List.forall_mem_cons.mpr ⟨tw_478, (List.forall_mem_cons.mpr ⟨tw_479, (List.forall_mem_cons.mpr ⟨tw_362, (fun _ h => absurd h List.not_mem_nil)⟩)⟩)⟩)⟩), in_wf_needDiagram⟩)⟩)
theorem tw_523 : (Cond.methodLink RL 66 yX11_moved) ∈ lw_tbl := tp_7 _ (List.mem_of_getElem? (i := 41) rfl)
theorem tw_524 : (Cond.instanceMethod yX11_moved) ∈ lw_tbl := tp_7 _ (List.mem_of_getElem? (i := 42) rfl)
theorem tw_525 : (Cond.selects RX11 yX11_moved yX11_moved) ∈ lw_tbl := tp_7 _ (List.mem_of_getElem? (i := 43) rfl)
theorem tw_526 : (Cond.code yX11_moved cX11_moved 2 (some .int)) ∈ lw_tbl := tp_7 _ (List.mem_of_getElem? (i := 44) rfl)
theorem tw_527 : (Cond.methodLink RX11 290 yX11_copyOut) ∈ lw_tbl := tp_7 _ (List.mem_of_getElem? (i := 45) rfl)
theorem tw_528 : (Cond.instanceMethod yX11_copyOut) ∈ lw_tbl := tp_7 _ (List.mem_of_getElem? (i := 47) rfl)
theorem tw_529 : (Cond.selects RX11 yX11_copyOut yX11_copyOut) ∈ lw_tbl := List.mem_append_left _ (List.mem_map.mpr ⟨(yX11_copyOut, 19), tq_3 _ (List.mem_of_getElem? (i := 1) rfl), rfl⟩)
theorem tw_530 : (Cond.code yX11_copyOut cX11_copyOut 4 (some .int)) ∈ lw_tbl := tp_7 _ (List.mem_of_getElem? (i := 48) rfl)
theorem tw_531 : (Cond.fieldLink RX11 283 "KnotHouse$Codes" "size" "I") ∈ lw_tbl := tp_1 _ (List.mem_of_getElem? (i := 67) rfl)
theorem in_wf_copyOut : ∀ w ∈ wf_copyOut, w ∈ lw_tbl := by
  show ∀ w ∈ .code yX11_copyOut cX11_copyOut 4 (some .int) :: ((.classLink RX11 164 "java/lang/IndexOutOfBoundsException" :: .initialized "java/lang/IndexOutOfBoundsException" :: .fieldLink RX11 283 "KnotHouse$Codes" "size" "I" :: wsX30) ++ (vx_atS RX11 168 "java/lang/IndexOutOfBoundsException" ["java/lang/RuntimeException", "java/lang/Exception"]).filter goodWord), w ∈ lw_tbl
  exact (List.forall_mem_cons.mpr ⟨tw_530, (List.forall_mem_append.mpr ⟨(List.forall_mem_cons.mpr ⟨tw_481, (List.forall_mem_cons.mpr ⟨tw_482, (List.forall_mem_cons.mpr ⟨tw_531, in_wsX30⟩)⟩)⟩), tv_1⟩)⟩)
theorem in_wf_moved : ∀ w ∈ wf_moved, w ∈ lw_tbl := by
  show ∀ w ∈ .code yX11_moved cX11_moved 2 (some .int) :: ((.fieldLink RX11 18 "KnotHouse" "list" "LKnotHouse$Codes;" :: wsX110) ++ wsV RX11 290 RX11 yX11_copyOut wf_copyOut), w ∈ lw_tbl
  exact (List.forall_mem_cons.mpr ⟨tw_526, (List.forall_mem_append.mpr ⟨(List.forall_mem_cons.mpr ⟨tw_17, in_wsX110⟩), (List.forall_mem_append.mpr ⟨(List.forall_mem_cons.mpr ⟨tw_527, (List.forall_mem_cons.mpr ⟨tw_528, (List.forall_mem_cons.mpr ⟨tw_529, (List.forall_mem_cons.mpr ⟨tw_362, (fun _ h => absurd h List.not_mem_nil)⟩)⟩)⟩)⟩), in_wf_copyOut⟩)⟩)⟩)
theorem tw_532 : (Cond.methodLink RL 69 yX11_simplify) ∈ lw_tbl := tp_7 _ (List.mem_of_getElem? (i := 53) rfl)
theorem tw_533 : (Cond.instanceMethod yX11_simplify) ∈ lw_tbl := tp_7 _ (List.mem_of_getElem? (i := 54) rfl)
theorem tw_534 : (Cond.selects RX11 yX11_simplify yX11_simplify) ∈ lw_tbl := tp_7 _ (List.mem_of_getElem? (i := 55) rfl)
theorem tw_535 : (Cond.code yX11_simplify cX11_simplify 4 (some .int)) ∈ lw_tbl := tp_7 _ (List.mem_of_getElem? (i := 56) rfl)
theorem in_wf_simplify : ∀ w ∈ wf_simplify, w ∈ lw_tbl := by
  show ∀ w ∈ .code yX11_simplify cX11_simplify 4 (some .int) :: wsV RX11 189 RX11 yX11_needDiagram wf_needDiagram, w ∈ lw_tbl
  exact (List.forall_mem_cons.mpr ⟨tw_535, (List.forall_mem_append.mpr ⟨(List.forall_mem_cons.mpr ⟨tw_477, (List.forall_mem_cons.mpr ⟨tw_478, (List.forall_mem_cons.mpr ⟨tw_479, (List.forall_mem_cons.mpr ⟨tw_362, (fun _ h => absurd h List.not_mem_nil)⟩)⟩)⟩)⟩), in_wf_needDiagram⟩)⟩)
theorem tw_536 : (Cond.methodLink RL 72 yX11_way) ∈ lw_tbl := tp_7 _ (List.mem_of_getElem? (i := 65) rfl)
theorem tw_537 : (Cond.instanceMethod yX11_way) ∈ lw_tbl := tp_7 _ (List.mem_of_getElem? (i := 66) rfl)
theorem tw_538 : (Cond.selects RX11 yX11_way yX11_way) ∈ lw_tbl := tp_7 _ (List.mem_of_getElem? (i := 67) rfl)
theorem tw_539 : (Cond.code yX11_way cX11_way 3 (some .int)) ∈ lw_tbl := tp_7 _ (List.mem_of_getElem? (i := 68) rfl)
theorem in_wf_way : ∀ w ∈ wf_way, w ∈ lw_tbl := by
  show ∀ w ∈ .code yX11_way cX11_way 3 (some .int) :: wsV RX11 189 RX11 yX11_needDiagram wf_needDiagram, w ∈ lw_tbl
  exact (List.forall_mem_cons.mpr ⟨tw_539, (List.forall_mem_append.mpr ⟨(List.forall_mem_cons.mpr ⟨tw_477, (List.forall_mem_cons.mpr ⟨tw_478, (List.forall_mem_cons.mpr ⟨tw_479, (List.forall_mem_cons.mpr ⟨tw_362, (fun _ h => absurd h List.not_mem_nil)⟩)⟩)⟩)⟩), in_wf_needDiagram⟩)⟩)
theorem tw_540 : (Cond.methodLink RL 75 yX11_summands) ∈ lw_tbl := tp_7 _ (List.mem_of_getElem? (i := 82) rfl)
theorem tw_541 : (Cond.instanceMethod yX11_summands) ∈ lw_tbl := tp_7 _ (List.mem_of_getElem? (i := 83) rfl)
theorem tw_542 : (Cond.selects RX11 yX11_summands yX11_summands) ∈ lw_tbl := tp_7 _ (List.mem_of_getElem? (i := 84) rfl)
theorem tw_543 : (Cond.code yX11_summands cX11_summands 2 (some .int)) ∈ lw_tbl := tp_7 _ (List.mem_of_getElem? (i := 85) rfl)
theorem in_wf_summands : ∀ w ∈ wf_summands, w ∈ lw_tbl := by
  show ∀ w ∈ .code yX11_summands cX11_summands 2 (some .int) :: wsV RX11 189 RX11 yX11_needDiagram wf_needDiagram, w ∈ lw_tbl
  exact (List.forall_mem_cons.mpr ⟨tw_543, (List.forall_mem_append.mpr ⟨(List.forall_mem_cons.mpr ⟨tw_477, (List.forall_mem_cons.mpr ⟨tw_478, (List.forall_mem_cons.mpr ⟨tw_479, (List.forall_mem_cons.mpr ⟨tw_362, (fun _ h => absurd h List.not_mem_nil)⟩)⟩)⟩)⟩), in_wf_needDiagram⟩)⟩)
theorem tw_544 : (Cond.methodLink RL 78 yX11_summand) ∈ lw_tbl := tp_7 _ (List.mem_of_getElem? (i := 100) rfl)
theorem tw_545 : (Cond.instanceMethod yX11_summand) ∈ lw_tbl := tp_7 _ (List.mem_of_getElem? (i := 101) rfl)
theorem tw_546 : (Cond.selects RX11 yX11_summand yX11_summand) ∈ lw_tbl := tp_7 _ (List.mem_of_getElem? (i := 102) rfl)
theorem tw_547 : (Cond.code yX11_summand cX11_summand 2 (some .int)) ∈ lw_tbl := tp_7 _ (List.mem_of_getElem? (i := 103) rfl)
theorem in_wf_summand : ∀ w ∈ wf_summand, w ∈ lw_tbl := by
  show ∀ w ∈ .code yX11_summand cX11_summand 2 (some .int) :: ((.fieldLink RX11 21 "KnotHouse" "found" "LKnotHouse$Codes;" :: wsX110) ++ wsV RX11 290 RX11 yX11_copyOut wf_copyOut), w ∈ lw_tbl
  exact (List.forall_mem_cons.mpr ⟨tw_547, (List.forall_mem_append.mpr ⟨(List.forall_mem_cons.mpr ⟨tw_16, in_wsX110⟩), (List.forall_mem_append.mpr ⟨(List.forall_mem_cons.mpr ⟨tw_527, (List.forall_mem_cons.mpr ⟨tw_528, (List.forall_mem_cons.mpr ⟨tw_529, (List.forall_mem_cons.mpr ⟨tw_362, (fun _ h => absurd h List.not_mem_nil)⟩)⟩)⟩)⟩), in_wf_copyOut⟩)⟩)⟩)
theorem tw_548 : (Cond.methodLink RL 81 yX11_conway) ∈ lw_tbl := tp_7 _ (List.mem_of_getElem? (i := 107) rfl)
theorem tw_549 : (Cond.instanceMethod yX11_conway) ∈ lw_tbl := tp_7 _ (List.mem_of_getElem? (i := 108) rfl)
theorem tw_550 : (Cond.selects RX11 yX11_conway yX11_conway) ∈ lw_tbl := tp_7 _ (List.mem_of_getElem? (i := 109) rfl)
theorem tw_551 : (Cond.code yX11_conway cX11_conway 3 (some .int)) ∈ lw_tbl := tp_7 _ (List.mem_of_getElem? (i := 110) rfl)
theorem in_wf_conway : ∀ w ∈ wf_conway, w ∈ lw_tbl := by
  show ∀ w ∈ .code yX11_conway cX11_conway 3 (some .int) :: wsV RX11 189 RX11 yX11_needDiagram wf_needDiagram, w ∈ lw_tbl
  exact (List.forall_mem_cons.mpr ⟨tw_551, (List.forall_mem_append.mpr ⟨(List.forall_mem_cons.mpr ⟨tw_477, (List.forall_mem_cons.mpr ⟨tw_478, (List.forall_mem_cons.mpr ⟨tw_479, (List.forall_mem_cons.mpr ⟨tw_362, (fun _ h => absurd h List.not_mem_nil)⟩)⟩)⟩)⟩), in_wf_needDiagram⟩)⟩)
theorem tw_552 : (Cond.methodLink RL 84 yX11_jones) ∈ lw_tbl := tp_7 _ (List.mem_of_getElem? (i := 148) rfl)
theorem tw_553 : (Cond.instanceMethod yX11_jones) ∈ lw_tbl := tp_7 _ (List.mem_of_getElem? (i := 149) rfl)
theorem tw_554 : (Cond.selects RX11 yX11_jones yX11_jones) ∈ lw_tbl := tp_7 _ (List.mem_of_getElem? (i := 150) rfl)
theorem tw_555 : (Cond.code yX11_jones cX11_jones 3 (some .int)) ∈ lw_tbl := tp_7 _ (List.mem_of_getElem? (i := 151) rfl)
theorem in_wf_jones : ∀ w ∈ wf_jones, w ∈ lw_tbl := by
  show ∀ w ∈ .code yX11_jones cX11_jones 3 (some .int) :: wsV RX11 189 RX11 yX11_needDiagram wf_needDiagram, w ∈ lw_tbl
  exact (List.forall_mem_cons.mpr ⟨tw_555, (List.forall_mem_append.mpr ⟨(List.forall_mem_cons.mpr ⟨tw_477, (List.forall_mem_cons.mpr ⟨tw_478, (List.forall_mem_cons.mpr ⟨tw_479, (List.forall_mem_cons.mpr ⟨tw_362, (fun _ h => absurd h List.not_mem_nil)⟩)⟩)⟩)⟩), in_wf_needDiagram⟩)⟩)
theorem tw_556 : (Cond.methodLink RL 87 yX11_signature) ∈ lw_tbl := tp_7 _ (List.mem_of_getElem? (i := 177) rfl)
theorem tw_557 : (Cond.instanceMethod yX11_signature) ∈ lw_tbl := tp_7 _ (List.mem_of_getElem? (i := 178) rfl)
theorem tw_558 : (Cond.selects RX11 yX11_signature yX11_signature) ∈ lw_tbl := tp_7 _ (List.mem_of_getElem? (i := 179) rfl)
theorem tw_559 : (Cond.code yX11_signature cX11_signature 2 (some .int)) ∈ lw_tbl := tp_7 _ (List.mem_of_getElem? (i := 180) rfl)
theorem in_wf_signature : ∀ w ∈ wf_signature, w ∈ lw_tbl := by
  show ∀ w ∈ .code yX11_signature cX11_signature 2 (some .int) :: wsV RX11 189 RX11 yX11_needDiagram wf_needDiagram, w ∈ lw_tbl
  exact (List.forall_mem_cons.mpr ⟨tw_559, (List.forall_mem_append.mpr ⟨(List.forall_mem_cons.mpr ⟨tw_477, (List.forall_mem_cons.mpr ⟨tw_478, (List.forall_mem_cons.mpr ⟨tw_479, (List.forall_mem_cons.mpr ⟨tw_362, (fun _ h => absurd h List.not_mem_nil)⟩)⟩)⟩)⟩), in_wf_needDiagram⟩)⟩)
theorem tw_560 : (Cond.methodLink RL 90 yX11_cover) ∈ lw_tbl := tp_7 _ (List.mem_of_getElem? (i := 224) rfl)
theorem tw_561 : (Cond.instanceMethod yX11_cover) ∈ lw_tbl := tp_7 _ (List.mem_of_getElem? (i := 225) rfl)
theorem tw_562 : (Cond.selects RX11 yX11_cover yX11_cover) ∈ lw_tbl := tp_7 _ (List.mem_of_getElem? (i := 226) rfl)
theorem tw_563 : (Cond.code yX11_cover cX11_cover 3 (some .int)) ∈ lw_tbl := tp_7 _ (List.mem_of_getElem? (i := 227) rfl)
theorem in_wf_cover : ∀ w ∈ wf_cover, w ∈ lw_tbl := by
  show ∀ w ∈ .code yX11_cover cX11_cover 3 (some .int) :: wsV RX11 189 RX11 yX11_needDiagram wf_needDiagram, w ∈ lw_tbl
  exact (List.forall_mem_cons.mpr ⟨tw_563, (List.forall_mem_append.mpr ⟨(List.forall_mem_cons.mpr ⟨tw_477, (List.forall_mem_cons.mpr ⟨tw_478, (List.forall_mem_cons.mpr ⟨tw_479, (List.forall_mem_cons.mpr ⟨tw_362, (fun _ h => absurd h List.not_mem_nil)⟩)⟩)⟩)⟩), in_wf_needDiagram⟩)⟩)
theorem tw_564 : (Cond.methodLink RL 93 yX11_colours) ∈ lw_tbl := tp_8 _ (List.mem_of_getElem? (i := 25) rfl)
theorem tw_565 : (Cond.instanceMethod yX11_colours) ∈ lw_tbl := tp_8 _ (List.mem_of_getElem? (i := 26) rfl)
theorem tw_566 : (Cond.selects RX11 yX11_colours yX11_colours) ∈ lw_tbl := tp_8 _ (List.mem_of_getElem? (i := 27) rfl)
theorem tw_567 : (Cond.code yX11_colours cX11_colours 3 (some .long)) ∈ lw_tbl := tp_8 _ (List.mem_of_getElem? (i := 28) rfl)
theorem in_wf_colours : ∀ w ∈ wf_colours, w ∈ lw_tbl := by
  show ∀ w ∈ .code yX11_colours cX11_colours 3 (some .long) :: wsV RX11 189 RX11 yX11_needDiagram wf_needDiagram, w ∈ lw_tbl
  exact (List.forall_mem_cons.mpr ⟨tw_567, (List.forall_mem_append.mpr ⟨(List.forall_mem_cons.mpr ⟨tw_477, (List.forall_mem_cons.mpr ⟨tw_478, (List.forall_mem_cons.mpr ⟨tw_479, (List.forall_mem_cons.mpr ⟨tw_362, (fun _ h => absurd h List.not_mem_nil)⟩)⟩)⟩)⟩), in_wf_needDiagram⟩)⟩)
theorem tw_568 : (Cond.methodLink RL 97 yX11_maps) ∈ lw_tbl := tp_8 _ (List.mem_of_getElem? (i := 40) rfl)
theorem tw_569 : (Cond.instanceMethod yX11_maps) ∈ lw_tbl := tp_8 _ (List.mem_of_getElem? (i := 41) rfl)
theorem tw_570 : (Cond.selects RX11 yX11_maps yX11_maps) ∈ lw_tbl := tp_8 _ (List.mem_of_getElem? (i := 42) rfl)
theorem tw_571 : (Cond.code yX11_maps cX11_maps 3 (some .int)) ∈ lw_tbl := tp_8 _ (List.mem_of_getElem? (i := 43) rfl)
theorem in_wf_maps : ∀ w ∈ wf_maps, w ∈ lw_tbl := by
  show ∀ w ∈ .code yX11_maps cX11_maps 3 (some .int) :: wsV RX11 189 RX11 yX11_needDiagram wf_needDiagram, w ∈ lw_tbl
  exact (List.forall_mem_cons.mpr ⟨tw_571, (List.forall_mem_append.mpr ⟨(List.forall_mem_cons.mpr ⟨tw_477, (List.forall_mem_cons.mpr ⟨tw_478, (List.forall_mem_cons.mpr ⟨tw_479, (List.forall_mem_cons.mpr ⟨tw_362, (fun _ h => absurd h List.not_mem_nil)⟩)⟩)⟩)⟩), in_wf_needDiagram⟩)⟩)
theorem tw_572 : (Cond.methodLink RL 100 yX11_chain) ∈ lw_tbl := tp_8 _ (List.mem_of_getElem? (i := 80) rfl)
theorem tw_573 : (Cond.instanceMethod yX11_chain) ∈ lw_tbl := tp_8 _ (List.mem_of_getElem? (i := 81) rfl)
theorem tw_574 : (Cond.selects RX11 yX11_chain yX11_chain) ∈ lw_tbl := tp_8 _ (List.mem_of_getElem? (i := 82) rfl)
theorem tw_575 : (Cond.code yX11_chain cX11_chain 3 (some .int)) ∈ lw_tbl := tp_8 _ (List.mem_of_getElem? (i := 83) rfl)
theorem in_wf_chain : ∀ w ∈ wf_chain, w ∈ lw_tbl := by
  show ∀ w ∈ .code yX11_chain cX11_chain 3 (some .int) :: wsV RX11 189 RX11 yX11_needDiagram wf_needDiagram, w ∈ lw_tbl
  exact (List.forall_mem_cons.mpr ⟨tw_575, (List.forall_mem_append.mpr ⟨(List.forall_mem_cons.mpr ⟨tw_477, (List.forall_mem_cons.mpr ⟨tw_478, (List.forall_mem_cons.mpr ⟨tw_479, (List.forall_mem_cons.mpr ⟨tw_362, (fun _ h => absurd h List.not_mem_nil)⟩)⟩)⟩)⟩), in_wf_needDiagram⟩)⟩)
theorem tw_576 : (Cond.methodLink RL 103 yX11_closure) ∈ lw_tbl := tp_8 _ (List.mem_of_getElem? (i := 178) rfl)
theorem tw_577 : (Cond.instanceMethod yX11_closure) ∈ lw_tbl := tp_8 _ (List.mem_of_getElem? (i := 179) rfl)
theorem tw_578 : (Cond.selects RX11 yX11_closure yX11_closure) ∈ lw_tbl := tp_8 _ (List.mem_of_getElem? (i := 180) rfl)
theorem tw_579 : (Cond.code yX11_closure cX11_closure 3 (some .int)) ∈ lw_tbl := tp_8 _ (List.mem_of_getElem? (i := 181) rfl)
theorem tw_580 : (Cond.methodLink RX11 379 yX11_needBraid) ∈ lw_tbl := tp_8 _ (List.mem_of_getElem? (i := 182) rfl)
theorem tw_581 : (Cond.instanceMethod yX11_needBraid) ∈ lw_tbl := tp_8 _ (List.mem_of_getElem? (i := 184) rfl)
theorem tw_582 : (Cond.selects RX11 yX11_needBraid yX11_needBraid) ∈ lw_tbl := List.mem_append_left _ (List.mem_map.mpr ⟨(yX11_needBraid, 19), tq_5 _ (List.mem_of_getElem? (i := 12) rfl), rfl⟩)
theorem tw_583 : (Cond.code yX11_needBraid cX11_needBraid 2 none) ∈ lw_tbl := tp_8 _ (List.mem_of_getElem? (i := 185) rfl)
theorem tw_584 : (Cond.methodLink RX11 169 yX11_hasBraid) ∈ lw_tbl := tp_3 _ (List.mem_of_getElem? (i := 147) rfl)
theorem tw_585 : (Cond.instanceMethod yX11_hasBraid) ∈ lw_tbl := tp_3 _ (List.mem_of_getElem? (i := 149) rfl)
theorem tw_586 : (Cond.selects RX11 yX11_hasBraid yX11_hasBraid) ∈ lw_tbl := List.mem_append_left _ (List.mem_map.mpr ⟨(yX11_hasBraid, 19), tq_1 _ (List.mem_of_getElem? (i := 1) rfl), rfl⟩)
theorem tw_587 : (Cond.code yX11_hasBraid cX11_hasBraid 2 (some .boolean)) ∈ lw_tbl := tp_3 _ (List.mem_of_getElem? (i := 150) rfl)
theorem in_wf_hasBraid : ∀ w ∈ wf_hasBraid, w ∈ lw_tbl := by
  show ∀ w ∈ .code yX11_hasBraid cX11_hasBraid 2 (some .boolean) :: ([.fieldLink RX11 91 "KnotHouse" "strands" "[I"] ++ wsX110), w ∈ lw_tbl
  exact (List.forall_mem_cons.mpr ⟨tw_587, (List.forall_mem_append.mpr ⟨(List.forall_mem_cons.mpr ⟨tw_26, (fun _ h => absurd h List.not_mem_nil)⟩), in_wsX110⟩)⟩)
theorem in_wf_needBraid : ∀ w ∈ wf_needBraid, w ∈ lw_tbl := by
  show ∀ w ∈ .code yX11_needBraid cX11_needBraid 2 none :: ((.classLink RX11 164 "java/lang/IndexOutOfBoundsException" :: .initialized "java/lang/IndexOutOfBoundsException" :: wsV RX11 169 RX11 yX11_hasBraid wf_hasBraid) ++ (vx_atS RX11 168 "java/lang/IndexOutOfBoundsException" ["java/lang/RuntimeException", "java/lang/Exception"]).filter goodWord), w ∈ lw_tbl
  exact (List.forall_mem_cons.mpr ⟨tw_583, (List.forall_mem_append.mpr ⟨(List.forall_mem_cons.mpr ⟨tw_481, (List.forall_mem_cons.mpr ⟨tw_482, (List.forall_mem_append.mpr ⟨(List.forall_mem_cons.mpr ⟨tw_584, (List.forall_mem_cons.mpr ⟨tw_585, (List.forall_mem_cons.mpr ⟨tw_586, (List.forall_mem_cons.mpr ⟨tw_362, (fun _ h => absurd h List.not_mem_nil)⟩)⟩)⟩)⟩), in_wf_hasBraid⟩)⟩)⟩), tv_1⟩)⟩)
theorem in_wf_closure : ∀ w ∈ wf_closure, w ∈ lw_tbl := by
  show ∀ w ∈ .code yX11_closure cX11_closure 3 (some .int) :: wsV RX11 379 RX11 yX11_needBraid wf_needBraid, w ∈ lw_tbl
  exact (List.forall_mem_cons.mpr ⟨tw_579, (List.forall_mem_append.mpr ⟨(List.forall_mem_cons.mpr ⟨tw_580, (List.forall_mem_cons.mpr ⟨tw_581, (List.forall_mem_cons.mpr ⟨tw_582, (List.forall_mem_cons.mpr ⟨tw_362, (fun _ h => absurd h List.not_mem_nil)⟩)⟩)⟩)⟩), in_wf_needBraid⟩)⟩)
theorem tw_588 : (Cond.methodLink RL 106 yX11_product) ∈ lw_tbl := tp_8 _ (List.mem_of_getElem? (i := 201) rfl)
theorem tw_589 : (Cond.instanceMethod yX11_product) ∈ lw_tbl := tp_8 _ (List.mem_of_getElem? (i := 202) rfl)
theorem tw_590 : (Cond.selects RX11 yX11_product yX11_product) ∈ lw_tbl := tp_8 _ (List.mem_of_getElem? (i := 203) rfl)
theorem tw_591 : (Cond.code yX11_product cX11_product 5 (some .int)) ∈ lw_tbl := tp_8 _ (List.mem_of_getElem? (i := 204) rfl)
theorem in_wf_product : ∀ w ∈ wf_product, w ∈ lw_tbl := by
  show ∀ w ∈ .code yX11_product cX11_product 5 (some .int) :: wsV RX11 379 RX11 yX11_needBraid wf_needBraid, w ∈ lw_tbl
  exact (List.forall_mem_cons.mpr ⟨tw_591, (List.forall_mem_append.mpr ⟨(List.forall_mem_cons.mpr ⟨tw_580, (List.forall_mem_cons.mpr ⟨tw_581, (List.forall_mem_cons.mpr ⟨tw_582, (List.forall_mem_cons.mpr ⟨tw_362, (fun _ h => absurd h List.not_mem_nil)⟩)⟩)⟩)⟩), in_wf_needBraid⟩)⟩)
theorem tw_592 : (Cond.methodLink RL 109 yX11_inverse) ∈ lw_tbl := tp_8 _ (List.mem_of_getElem? (i := 211) rfl)
theorem tw_593 : (Cond.instanceMethod yX11_inverse) ∈ lw_tbl := tp_8 _ (List.mem_of_getElem? (i := 212) rfl)
theorem tw_594 : (Cond.selects RX11 yX11_inverse yX11_inverse) ∈ lw_tbl := tp_8 _ (List.mem_of_getElem? (i := 213) rfl)
theorem tw_595 : (Cond.code yX11_inverse cX11_inverse 5 (some .int)) ∈ lw_tbl := tp_8 _ (List.mem_of_getElem? (i := 214) rfl)
theorem in_wf_inverse : ∀ w ∈ wf_inverse, w ∈ lw_tbl := by
  show ∀ w ∈ .code yX11_inverse cX11_inverse 5 (some .int) :: wsV RX11 379 RX11 yX11_needBraid wf_needBraid, w ∈ lw_tbl
  exact (List.forall_mem_cons.mpr ⟨tw_595, (List.forall_mem_append.mpr ⟨(List.forall_mem_cons.mpr ⟨tw_580, (List.forall_mem_cons.mpr ⟨tw_581, (List.forall_mem_cons.mpr ⟨tw_582, (List.forall_mem_cons.mpr ⟨tw_362, (fun _ h => absurd h List.not_mem_nil)⟩)⟩)⟩)⟩), in_wf_needBraid⟩)⟩)
theorem tw_596 : (Cond.methodLink RL 112 yX11_normal) ∈ lw_tbl := tp_8 _ (List.mem_of_getElem? (i := 218) rfl)
theorem tw_597 : (Cond.instanceMethod yX11_normal) ∈ lw_tbl := tp_8 _ (List.mem_of_getElem? (i := 219) rfl)
theorem tw_598 : (Cond.selects RX11 yX11_normal yX11_normal) ∈ lw_tbl := tp_8 _ (List.mem_of_getElem? (i := 220) rfl)
theorem tw_599 : (Cond.code yX11_normal cX11_normal 3 (some .int)) ∈ lw_tbl := tp_8 _ (List.mem_of_getElem? (i := 221) rfl)
theorem in_wf_normal : ∀ w ∈ wf_normal, w ∈ lw_tbl := by
  show ∀ w ∈ .code yX11_normal cX11_normal 3 (some .int) :: wsV RX11 379 RX11 yX11_needBraid wf_needBraid, w ∈ lw_tbl
  exact (List.forall_mem_cons.mpr ⟨tw_599, (List.forall_mem_append.mpr ⟨(List.forall_mem_cons.mpr ⟨tw_580, (List.forall_mem_cons.mpr ⟨tw_581, (List.forall_mem_cons.mpr ⟨tw_582, (List.forall_mem_cons.mpr ⟨tw_362, (fun _ h => absurd h List.not_mem_nil)⟩)⟩)⟩)⟩), in_wf_needBraid⟩)⟩)
theorem tw_600 : (Cond.methodLink RL 115 yX11_factor) ∈ lw_tbl := tp_8 _ (List.mem_of_getElem? (i := 226) rfl)
theorem tw_601 : (Cond.instanceMethod yX11_factor) ∈ lw_tbl := tp_8 _ (List.mem_of_getElem? (i := 227) rfl)
theorem tw_602 : (Cond.selects RX11 yX11_factor yX11_factor) ∈ lw_tbl := tp_8 _ (List.mem_of_getElem? (i := 228) rfl)
theorem tw_603 : (Cond.code yX11_factor cX11_factor 4 (some .int)) ∈ lw_tbl := tp_8 _ (List.mem_of_getElem? (i := 229) rfl)
theorem in_wf_factor : ∀ w ∈ wf_factor, w ∈ lw_tbl := by
  show ∀ w ∈ .code yX11_factor cX11_factor 4 (some .int) :: wsV RX11 379 RX11 yX11_needBraid wf_needBraid, w ∈ lw_tbl
  exact (List.forall_mem_cons.mpr ⟨tw_603, (List.forall_mem_append.mpr ⟨(List.forall_mem_cons.mpr ⟨tw_580, (List.forall_mem_cons.mpr ⟨tw_581, (List.forall_mem_cons.mpr ⟨tw_582, (List.forall_mem_cons.mpr ⟨tw_362, (fun _ h => absurd h List.not_mem_nil)⟩)⟩)⟩)⟩), in_wf_needBraid⟩)⟩)
theorem tw_604 : (Cond.methodLink RL 118 yX11_summit) ∈ lw_tbl := tp_8 _ (List.mem_of_getElem? (i := 234) rfl)
theorem tw_605 : (Cond.instanceMethod yX11_summit) ∈ lw_tbl := tp_8 _ (List.mem_of_getElem? (i := 235) rfl)
theorem tw_606 : (Cond.selects RX11 yX11_summit yX11_summit) ∈ lw_tbl := tp_8 _ (List.mem_of_getElem? (i := 236) rfl)
theorem tw_607 : (Cond.code yX11_summit cX11_summit 2 (some .int)) ∈ lw_tbl := tp_8 _ (List.mem_of_getElem? (i := 237) rfl)
theorem in_wf_summit : ∀ w ∈ wf_summit, w ∈ lw_tbl := by
  show ∀ w ∈ .code yX11_summit cX11_summit 2 (some .int) :: wsV RX11 379 RX11 yX11_needBraid wf_needBraid, w ∈ lw_tbl
  exact (List.forall_mem_cons.mpr ⟨tw_607, (List.forall_mem_append.mpr ⟨(List.forall_mem_cons.mpr ⟨tw_580, (List.forall_mem_cons.mpr ⟨tw_581, (List.forall_mem_cons.mpr ⟨tw_582, (List.forall_mem_cons.mpr ⟨tw_362, (fun _ h => absurd h List.not_mem_nil)⟩)⟩)⟩)⟩), in_wf_needBraid⟩)⟩)
theorem tw_608 : (Cond.methodLink RL 121 yX11_conjugate) ∈ lw_tbl := tp_9 _ (List.mem_of_getElem? (i := 66) rfl)
theorem tw_609 : (Cond.instanceMethod yX11_conjugate) ∈ lw_tbl := tp_9 _ (List.mem_of_getElem? (i := 67) rfl)
theorem tw_610 : (Cond.selects RX11 yX11_conjugate yX11_conjugate) ∈ lw_tbl := tp_9 _ (List.mem_of_getElem? (i := 68) rfl)
theorem tw_611 : (Cond.code yX11_conjugate cX11_conjugate 5 (some .int)) ∈ lw_tbl := tp_9 _ (List.mem_of_getElem? (i := 69) rfl)
theorem in_wf_conjugate : ∀ w ∈ wf_conjugate, w ∈ lw_tbl := by
  show ∀ w ∈ .code yX11_conjugate cX11_conjugate 5 (some .int) :: wsV RX11 379 RX11 yX11_needBraid wf_needBraid, w ∈ lw_tbl
  exact (List.forall_mem_cons.mpr ⟨tw_611, (List.forall_mem_append.mpr ⟨(List.forall_mem_cons.mpr ⟨tw_580, (List.forall_mem_cons.mpr ⟨tw_581, (List.forall_mem_cons.mpr ⟨tw_582, (List.forall_mem_cons.mpr ⟨tw_362, (fun _ h => absurd h List.not_mem_nil)⟩)⟩)⟩)⟩), in_wf_needBraid⟩)⟩)
theorem tw_612 : (Cond.methodLink RL 124 yX11_two) ∈ lw_tbl := tp_9 _ (List.mem_of_getElem? (i := 77) rfl)
theorem tw_613 : (Cond.instanceMethod yX11_two) ∈ lw_tbl := tp_9 _ (List.mem_of_getElem? (i := 78) rfl)
theorem tw_614 : (Cond.selects RX11 yX11_two yX11_two) ∈ lw_tbl := tp_9 _ (List.mem_of_getElem? (i := 79) rfl)
theorem tw_615 : (Cond.code yX11_two cX11_two 4 (some .int)) ∈ lw_tbl := tp_9 _ (List.mem_of_getElem? (i := 80) rfl)
theorem in_wf_two : ∀ w ∈ wf_two, w ∈ lw_tbl := by
  show ∀ w ∈ .code yX11_two cX11_two 4 (some .int) :: wsV RX11 379 RX11 yX11_needBraid wf_needBraid, w ∈ lw_tbl
  exact (List.forall_mem_cons.mpr ⟨tw_615, (List.forall_mem_append.mpr ⟨(List.forall_mem_cons.mpr ⟨tw_580, (List.forall_mem_cons.mpr ⟨tw_581, (List.forall_mem_cons.mpr ⟨tw_582, (List.forall_mem_cons.mpr ⟨tw_362, (fun _ h => absurd h List.not_mem_nil)⟩)⟩)⟩)⟩), in_wf_needBraid⟩)⟩)
theorem tw_616 : (Cond.methodLink RL 131 yL_feed) ∈ lw_tbl := tp_3 _ (List.mem_of_getElem? (i := 231) rfl)
theorem tw_617 : (Cond.static yL_feed) ∈ lw_tbl := tp_3 _ (List.mem_of_getElem? (i := 232) rfl)
theorem tw_618 : (Cond.initialized "KnotHouseLaw") ∈ lw_tbl := tp_1 _ (List.mem_of_getElem? (i := 0) rfl)
theorem tw_619 : (Cond.codeWith yL_feed cL_feed 8 (some .int) [(0, 16, 19, 13)]) ∈ lw_tbl := tp_3 _ (List.mem_of_getElem? (i := 233) rfl)
theorem in_wf_L_feed : ∀ w ∈ wf_L_feed, w ∈ lw_tbl := by
  show ∀ w ∈ .codeWith yL_feed cL_feed 8 (some .int) [(0, 16, 19, 13)] :: wsV RL 7 RX11 yX11_feed wf_feed, w ∈ lw_tbl
  exact (List.forall_mem_cons.mpr ⟨tw_619, (List.forall_mem_append.mpr ⟨(List.forall_mem_cons.mpr ⟨tw_359, (List.forall_mem_cons.mpr ⟨tw_360, (List.forall_mem_cons.mpr ⟨tw_361, (List.forall_mem_cons.mpr ⟨tw_362, (fun _ h => absurd h List.not_mem_nil)⟩)⟩)⟩)⟩), in_wf_feed⟩)⟩)
theorem tw_620 : (Cond.methodLink RL 136 yX13_feed) ∈ lw_tbl := tp_11 _ (List.mem_of_getElem? (i := 75) rfl)
theorem tw_621 : (Cond.instanceMethod yX13_feed) ∈ lw_tbl := tp_11 _ (List.mem_of_getElem? (i := 76) rfl)
theorem tw_622 : (Cond.selects RX13 yX13_feed yX13_feed) ∈ lw_tbl := tp_11 _ (List.mem_of_getElem? (i := 77) rfl)
theorem tw_623 : (Cond.code yX13_feed cX13_feed 8 (some .int)) ∈ lw_tbl := tp_11 _ (List.mem_of_getElem? (i := 78) rfl)
theorem tw_624 : (Cond.fieldLink RX13 400 "KnotHouseModel" "taped" "I") ∈ lw_tbl := tp_9 _ (List.mem_of_getElem? (i := 204) rfl)
theorem tw_625 : (Cond.fieldLink RX13 1 "KnotHouseModel" "thrown" "I") ∈ lw_tbl := tp_9 _ (List.mem_of_getElem? (i := 194) rfl)
theorem in_wf_M_feed : ∀ w ∈ wf_M_feed, w ∈ lw_tbl := by
  show ∀ w ∈ .code yX13_feed cX13_feed 8 (some .int) :: ([.fieldLink RX13 1 "KnotHouseModel" "thrown" "I", .fieldLink RX13 400 "KnotHouseModel" "taped" "I", .fieldLink RX13 106 "KnotHouseModel" "tape" "[B"] ++ wsX130), w ∈ lw_tbl
  exact (List.forall_mem_cons.mpr ⟨tw_623, (List.forall_mem_append.mpr ⟨(List.forall_mem_cons.mpr ⟨tw_625, (List.forall_mem_cons.mpr ⟨tw_624, (List.forall_mem_cons.mpr ⟨tw_243, (fun _ h => absurd h List.not_mem_nil)⟩)⟩)⟩), in_wsX130⟩)⟩)
theorem tw_626 : (Cond.methodLink RL 137 yX13_thrown) ∈ lw_tbl := tp_9 _ (List.mem_of_getElem? (i := 86) rfl)
theorem tw_627 : (Cond.instanceMethod yX13_thrown) ∈ lw_tbl := tp_9 _ (List.mem_of_getElem? (i := 87) rfl)
theorem tw_628 : (Cond.selects RX13 yX13_thrown yX13_thrown) ∈ lw_tbl := tp_9 _ (List.mem_of_getElem? (i := 88) rfl)
theorem tw_629 : (Cond.code yX13_thrown cX13_thrown 1 (some .int)) ∈ lw_tbl := tp_9 _ (List.mem_of_getElem? (i := 89) rfl)
theorem in_wf_Mthrown : ∀ w ∈ wf_Mthrown, w ∈ lw_tbl := by
  show ∀ w ∈ .code yX13_thrown cX13_thrown 1 (some .int) :: ([.fieldLink RX13 1 "KnotHouseModel" "thrown" "I"] ++ wsX130), w ∈ lw_tbl
  exact (List.forall_mem_cons.mpr ⟨tw_629, (List.forall_mem_append.mpr ⟨(List.forall_mem_cons.mpr ⟨tw_625, (fun _ h => absurd h List.not_mem_nil)⟩), in_wsX130⟩)⟩)
theorem tw_630 : (Cond.methodLink RL 140 yL_end) ∈ lw_tbl := tp_4 _ (List.mem_of_getElem? (i := 72) rfl)
theorem tw_631 : (Cond.static yL_end) ∈ lw_tbl := tp_4 _ (List.mem_of_getElem? (i := 73) rfl)
theorem tw_632 : (Cond.codeWith yL_end cL_end 3 (some .int) [(0, 5, 8, 19)]) ∈ lw_tbl := tp_4 _ (List.mem_of_getElem? (i := 74) rfl)
theorem tw_633 : (Cond.classLink RL 19 "java/lang/IllegalArgumentException") ∈ lw_tbl := tp_4 _ (List.mem_of_getElem? (i := 75) rfl)
theorem in_wf_L_end : ∀ w ∈ wf_L_end, w ∈ lw_tbl := by
  show ∀ w ∈ .codeWith yL_end cL_end 3 (some .int) [(0, 5, 8, 19)] :: (.classLink RL 19 "java/lang/IllegalArgumentException" :: wsV RL 15 RX11 yX11_end wf_end), w ∈ lw_tbl
  exact (List.forall_mem_cons.mpr ⟨tw_632, (List.forall_mem_cons.mpr ⟨tw_633, (List.forall_mem_append.mpr ⟨(List.forall_mem_cons.mpr ⟨tw_370, (List.forall_mem_cons.mpr ⟨tw_371, (List.forall_mem_cons.mpr ⟨tw_372, (List.forall_mem_cons.mpr ⟨tw_362, (fun _ h => absurd h List.not_mem_nil)⟩)⟩)⟩)⟩), in_wf_end⟩)⟩)⟩)
theorem tw_634 : (Cond.methodLink RL 143 yX13_end) ∈ lw_tbl := tp_11 _ (List.mem_of_getElem? (i := 83) rfl)
theorem tw_635 : (Cond.instanceMethod yX13_end) ∈ lw_tbl := tp_11 _ (List.mem_of_getElem? (i := 84) rfl)
theorem tw_636 : (Cond.selects RX13 yX13_end yX13_end) ∈ lw_tbl := tp_11 _ (List.mem_of_getElem? (i := 85) rfl)
theorem tw_637 : (Cond.code yX13_end cX13_end 2 none) ∈ lw_tbl := tp_11 _ (List.mem_of_getElem? (i := 86) rfl)
theorem tw_638 : (Cond.methodLink RX13 403 yX13_fails) ∈ lw_tbl := tp_11 _ (List.mem_of_getElem? (i := 79) rfl)
theorem tw_639 : (Cond.instanceMethod yX13_fails) ∈ lw_tbl := tp_11 _ (List.mem_of_getElem? (i := 81) rfl)
theorem tw_640 : (Cond.selects RX13 yX13_fails yX13_fails) ∈ lw_tbl := List.mem_append_left _ (List.mem_map.mpr ⟨(yX13_fails, 120), tq_6 _ (List.mem_of_getElem? (i := 13) rfl), rfl⟩)
theorem tw_641 : (Cond.code yX13_fails cX13_fails 2 (some .int)) ∈ lw_tbl := tp_11 _ (List.mem_of_getElem? (i := 82) rfl)
theorem in_wf_Mfails : ∀ w ∈ wf_Mfails, w ∈ lw_tbl := by
  show ∀ w ∈ .code yX13_fails cX13_fails 2 (some .int) :: ([.fieldLink RX13 1 "KnotHouseModel" "thrown" "I"] ++ wsX130), w ∈ lw_tbl
  exact (List.forall_mem_cons.mpr ⟨tw_641, (List.forall_mem_append.mpr ⟨(List.forall_mem_cons.mpr ⟨tw_625, (fun _ h => absurd h List.not_mem_nil)⟩), in_wsX130⟩)⟩)
theorem in_wf_M_end : ∀ w ∈ wf_M_end, w ∈ lw_tbl := by
  show ∀ w ∈ .code yX13_end cX13_end 2 none :: ([.fieldLink RX13 1 "KnotHouseModel" "thrown" "I", .fieldLink RX13 400 "KnotHouseModel" "taped" "I"] ++ wsX130 ++ wsV RX13 403 RX13 yX13_fails wf_Mfails), w ∈ lw_tbl
  exact (List.forall_mem_cons.mpr ⟨tw_637, (List.forall_mem_append.mpr ⟨(List.forall_mem_append.mpr ⟨(List.forall_mem_cons.mpr ⟨tw_625, (List.forall_mem_cons.mpr ⟨tw_624, (fun _ h => absurd h List.not_mem_nil)⟩)⟩), in_wsX130⟩), (List.forall_mem_append.mpr ⟨(List.forall_mem_cons.mpr ⟨tw_638, (List.forall_mem_cons.mpr ⟨tw_639, (List.forall_mem_cons.mpr ⟨tw_640, (List.forall_mem_cons.mpr ⟨tw_333, (fun _ h => absurd h List.not_mem_nil)⟩)⟩)⟩)⟩), in_wf_Mfails⟩)⟩)⟩)
theorem tw_642 : (Cond.methodLink RL 144 yL_diagram) ∈ lw_tbl := tp_4 _ (List.mem_of_getElem? (i := 96) rfl)
theorem tw_643 : (Cond.static yL_diagram) ∈ lw_tbl := tp_4 _ (List.mem_of_getElem? (i := 97) rfl)
theorem tw_644 : (Cond.codeWith yL_diagram cL_diagram 3 (some .int) [(0, 8, 11, 13)]) ∈ lw_tbl := tp_4 _ (List.mem_of_getElem? (i := 98) rfl)
theorem in_wf_L_diagram : ∀ w ∈ wf_L_diagram, w ∈ lw_tbl := by
  show ∀ w ∈ .codeWith yL_diagram cL_diagram 3 (some .int) [(0, 8, 11, 13)] :: wsV RL 21 RX11 yX11_diagram wf_diagram, w ∈ lw_tbl
  exact (List.forall_mem_cons.mpr ⟨tw_644, (List.forall_mem_append.mpr ⟨(List.forall_mem_cons.mpr ⟨tw_376, (List.forall_mem_cons.mpr ⟨tw_377, (List.forall_mem_cons.mpr ⟨tw_378, (List.forall_mem_cons.mpr ⟨tw_362, (fun _ h => absurd h List.not_mem_nil)⟩)⟩)⟩)⟩), in_wf_diagram⟩)⟩)
theorem tw_645 : (Cond.methodLink RL 147 yX13_diagram) ∈ lw_tbl := tp_11 _ (List.mem_of_getElem? (i := 87) rfl)
theorem tw_646 : (Cond.instanceMethod yX13_diagram) ∈ lw_tbl := tp_11 _ (List.mem_of_getElem? (i := 88) rfl)
theorem tw_647 : (Cond.selects RX13 yX13_diagram yX13_diagram) ∈ lw_tbl := tp_11 _ (List.mem_of_getElem? (i := 89) rfl)
theorem tw_648 : (Cond.code yX13_diagram cX13_diagram 2 (some .int)) ∈ lw_tbl := tp_11 _ (List.mem_of_getElem? (i := 90) rfl)
theorem tw_649 : (Cond.methodLink RX13 392 yX13_free) ∈ lw_tbl := tp_11 _ (List.mem_of_getElem? (i := 91) rfl)
theorem tw_650 : (Cond.instanceMethod yX13_free) ∈ lw_tbl := tp_11 _ (List.mem_of_getElem? (i := 93) rfl)
theorem tw_651 : (Cond.selects RX13 yX13_free yX13_free) ∈ lw_tbl := List.mem_append_left _ (List.mem_map.mpr ⟨(yX13_free, 120), tq_6 _ (List.mem_of_getElem? (i := 14) rfl), rfl⟩)
theorem tw_652 : (Cond.code yX13_free cX13_free 2 (some .int)) ∈ lw_tbl := tp_11 _ (List.mem_of_getElem? (i := 94) rfl)
theorem in_wf_Mfree : ∀ w ∈ wf_Mfree, w ∈ lw_tbl := by
  show ∀ w ∈ .code yX13_free cX13_free 2 (some .int) :: ([.fieldLink RX13 110 "KnotHouseModel" "rows" "[I"] ++ wsX130), w ∈ lw_tbl
  exact (List.forall_mem_cons.mpr ⟨tw_652, (List.forall_mem_append.mpr ⟨(List.forall_mem_cons.mpr ⟨tw_242, (fun _ h => absurd h List.not_mem_nil)⟩), in_wsX130⟩)⟩)
theorem tw_653 : (Cond.methodLink RX13 417 yX13_read) ∈ lw_tbl := tp_11 _ (List.mem_of_getElem? (i := 95) rfl)
theorem tw_654 : (Cond.instanceMethod yX13_read) ∈ lw_tbl := tp_11 _ (List.mem_of_getElem? (i := 97) rfl)
theorem tw_655 : (Cond.selects RX13 yX13_read yX13_read) ∈ lw_tbl := List.mem_append_left _ (List.mem_map.mpr ⟨(yX13_read, 120), tq_6 _ (List.mem_of_getElem? (i := 15) rfl), rfl⟩)
theorem tw_656 : (Cond.code yX13_read cX13_read 9 (some .int)) ∈ lw_tbl := tp_11 _ (List.mem_of_getElem? (i := 98) rfl)
theorem tw_657 : (Cond.methodLink RX13 91 yX12_clear) ∈ lw_tbl := tp_11 _ (List.mem_of_getElem? (i := 99) rfl)
theorem tw_658 : (Cond.instanceMethod yX12_clear) ∈ lw_tbl := tp_11 _ (List.mem_of_getElem? (i := 100) rfl)
theorem tw_659 : (Cond.selects RX12 yX12_clear yX12_clear) ∈ lw_tbl := tp_11 _ (List.mem_of_getElem? (i := 101) rfl)
theorem tw_660 : (Cond.code yX12_clear cX12_clear 1 none) ∈ lw_tbl := tp_11 _ (List.mem_of_getElem? (i := 102) rfl)
theorem tw_661 : (Cond.fieldLink RX12 52 "KnotHouseModel$Net" "comps" "I") ∈ lw_tbl := tp_9 _ (List.mem_of_getElem? (i := 104) rfl)
theorem tw_662 : (Cond.fieldLink RX12 48 "KnotHouseModel$Net" "visits" "I") ∈ lw_tbl := tp_9 _ (List.mem_of_getElem? (i := 102) rfl)
theorem in_wf_Nclear : ∀ w ∈ wf_Nclear, w ∈ lw_tbl := by
  show ∀ w ∈ .code yX12_clear cX12_clear 1 none :: ([.fieldLink RX12 48 "KnotHouseModel$Net" "visits" "I", .fieldLink RX12 52 "KnotHouseModel$Net" "comps" "I", .fieldLink RX12 9 "KnotHouseModel$Net" "begin" "[I"] ++ wsX120 ++ []), w ∈ lw_tbl
  exact (List.forall_mem_cons.mpr ⟨tw_660, (List.forall_mem_append.mpr ⟨(List.forall_mem_append.mpr ⟨(List.forall_mem_cons.mpr ⟨tw_662, (List.forall_mem_cons.mpr ⟨tw_661, (List.forall_mem_cons.mpr ⟨tw_328, (fun _ h => absurd h List.not_mem_nil)⟩)⟩)⟩), in_wsX120⟩), (fun _ h => absurd h List.not_mem_nil)⟩)⟩)
theorem tw_663 : (Cond.methodLink RX13 94 yX12_end) ∈ lw_tbl := tp_11 _ (List.mem_of_getElem? (i := 103) rfl)
theorem tw_664 : (Cond.instanceMethod yX12_end) ∈ lw_tbl := tp_11 _ (List.mem_of_getElem? (i := 104) rfl)
theorem tw_665 : (Cond.selects RX12 yX12_end yX12_end) ∈ lw_tbl := tp_11 _ (List.mem_of_getElem? (i := 105) rfl)
theorem tw_666 : (Cond.code yX12_end cX12_end 1 none) ∈ lw_tbl := tp_11 _ (List.mem_of_getElem? (i := 106) rfl)
theorem in_wf_Nend : ∀ w ∈ wf_Nend, w ∈ lw_tbl := by
  show ∀ w ∈ .code yX12_end cX12_end 1 none :: ([.fieldLink RX12 48 "KnotHouseModel$Net" "visits" "I", .fieldLink RX12 52 "KnotHouseModel$Net" "comps" "I", .fieldLink RX12 9 "KnotHouseModel$Net" "begin" "[I"] ++ wsX120 ++ []), w ∈ lw_tbl
  exact (List.forall_mem_cons.mpr ⟨tw_666, (List.forall_mem_append.mpr ⟨(List.forall_mem_append.mpr ⟨(List.forall_mem_cons.mpr ⟨tw_662, (List.forall_mem_cons.mpr ⟨tw_661, (List.forall_mem_cons.mpr ⟨tw_328, (fun _ h => absurd h List.not_mem_nil)⟩)⟩)⟩), in_wsX120⟩), (fun _ h => absurd h List.not_mem_nil)⟩)⟩)
theorem tw_667 : (Cond.methodLink RX13 71 yX12_link) ∈ lw_tbl := tp_11 _ (List.mem_of_getElem? (i := 116) rfl)
theorem tw_668 : (Cond.instanceMethod yX12_link) ∈ lw_tbl := tp_11 _ (List.mem_of_getElem? (i := 117) rfl)
theorem tw_669 : (Cond.selects RX12 yX12_link yX12_link) ∈ lw_tbl := tp_11 _ (List.mem_of_getElem? (i := 118) rfl)
theorem tw_670 : (Cond.code yX12_link cX12_link 4 none) ∈ lw_tbl := tp_11 _ (List.mem_of_getElem? (i := 119) rfl)
theorem in_wf_Nlink : ∀ w ∈ wf_Nlink, w ∈ lw_tbl := by
  show ∀ w ∈ .code yX12_link cX12_link 4 none :: ([.fieldLink RX12 36 "KnotHouseModel$Net" "first" "[I", .fieldLink RX12 52 "KnotHouseModel$Net" "comps" "I", .fieldLink RX12 9 "KnotHouseModel$Net" "begin" "[I"] ++ wsX120 ++ []), w ∈ lw_tbl
  exact (List.forall_mem_cons.mpr ⟨tw_670, (List.forall_mem_append.mpr ⟨(List.forall_mem_append.mpr ⟨(List.forall_mem_cons.mpr ⟨tw_320, (List.forall_mem_cons.mpr ⟨tw_661, (List.forall_mem_cons.mpr ⟨tw_328, (fun _ h => absurd h List.not_mem_nil)⟩)⟩)⟩), in_wsX120⟩), (fun _ h => absurd h List.not_mem_nil)⟩)⟩)
theorem tw_671 : (Cond.methodLink RX13 413 yX12_isPlane) ∈ lw_tbl := tp_11 _ (List.mem_of_getElem? (i := 120) rfl)
theorem tw_672 : (Cond.instanceMethod yX12_isPlane) ∈ lw_tbl := tp_11 _ (List.mem_of_getElem? (i := 121) rfl)
theorem tw_673 : (Cond.selects RX12 yX12_isPlane yX12_isPlane) ∈ lw_tbl := tp_11 _ (List.mem_of_getElem? (i := 122) rfl)
theorem tw_674 : (Cond.code yX12_isPlane cX12_isPlane 5 (some .boolean)) ∈ lw_tbl := tp_11 _ (List.mem_of_getElem? (i := 123) rfl)
theorem tw_675 : (Cond.fieldLink RX12 72 "KnotHouseModel$Net" "faces" "I") ∈ lw_tbl := tp_9 _ (List.mem_of_getElem? (i := 131) rfl)
theorem tw_676 : (Cond.fieldLink RX12 69 "KnotHouseModel$Net" "parts" "I") ∈ lw_tbl := tp_9 _ (List.mem_of_getElem? (i := 126) rfl)
theorem tw_677 : (Cond.methodLink RX12 75 yX12_split) ∈ lw_tbl := tp_11 _ (List.mem_of_getElem? (i := 124) rfl)
theorem tw_678 : (Cond.instanceMethod yX12_split) ∈ lw_tbl := tp_11 _ (List.mem_of_getElem? (i := 125) rfl)
theorem tw_679 : (Cond.selects RX12 yX12_split yX12_split) ∈ lw_tbl := tp_11 _ (List.mem_of_getElem? (i := 126) rfl)
theorem tw_680 : (Cond.code yX12_split cX12_split 4 none) ∈ lw_tbl := tp_11 _ (List.mem_of_getElem? (i := 127) rfl)
theorem in_wf_Nsplit : ∀ w ∈ wf_Nsplit, w ∈ lw_tbl := by
  show ∀ w ∈ .code yX12_split cX12_split 4 none :: ([.fieldLink RX12 52 "KnotHouseModel$Net" "comps" "I", .fieldLink RX12 39 "KnotHouseModel$Net" "part" "[I", .fieldLink RX12 69 "KnotHouseModel$Net" "parts" "I", .fieldLink RX12 48 "KnotHouseModel$Net" "visits" "I"] ++ wsX120 ++ []), w ∈ lw_tbl
  exact (List.forall_mem_cons.mpr ⟨tw_680, (List.forall_mem_append.mpr ⟨(List.forall_mem_append.mpr ⟨(List.forall_mem_cons.mpr ⟨tw_661, (List.forall_mem_cons.mpr ⟨tw_319, (List.forall_mem_cons.mpr ⟨tw_676, (List.forall_mem_cons.mpr ⟨tw_662, (fun _ h => absurd h List.not_mem_nil)⟩)⟩)⟩)⟩), in_wsX120⟩), (fun _ h => absurd h List.not_mem_nil)⟩)⟩)
theorem tw_681 : (Cond.methodLink RX12 78 yX12_walk) ∈ lw_tbl := tp_11 _ (List.mem_of_getElem? (i := 128) rfl)
theorem tw_682 : (Cond.instanceMethod yX12_walk) ∈ lw_tbl := tp_11 _ (List.mem_of_getElem? (i := 129) rfl)
theorem tw_683 : (Cond.selects RX12 yX12_walk yX12_walk) ∈ lw_tbl := tp_11 _ (List.mem_of_getElem? (i := 130) rfl)
theorem tw_684 : (Cond.code yX12_walk cX12_walk 7 none) ∈ lw_tbl := tp_11 _ (List.mem_of_getElem? (i := 131) rfl)
theorem in_wf_Nwalk : ∀ w ∈ wf_Nwalk, w ∈ lw_tbl := by
  show ∀ w ∈ .code yX12_walk cX12_walk 7 none :: ([.fieldLink RX12 48 "KnotHouseModel$Net" "visits" "I", .fieldLink RX12 72 "KnotHouseModel$Net" "faces" "I"] ++ wsX120 ++ []), w ∈ lw_tbl
  exact (List.forall_mem_cons.mpr ⟨tw_684, (List.forall_mem_append.mpr ⟨(List.forall_mem_append.mpr ⟨(List.forall_mem_cons.mpr ⟨tw_662, (List.forall_mem_cons.mpr ⟨tw_675, (fun _ h => absurd h List.not_mem_nil)⟩)⟩), in_wsX120⟩), (fun _ h => absurd h List.not_mem_nil)⟩)⟩)
theorem tw_685 : (Cond.methodLink RX12 81 yX12_isCircle) ∈ lw_tbl := tp_11 _ (List.mem_of_getElem? (i := 132) rfl)
theorem tw_686 : (Cond.instanceMethod yX12_isCircle) ∈ lw_tbl := tp_11 _ (List.mem_of_getElem? (i := 133) rfl)
theorem tw_687 : (Cond.selects RX12 yX12_isCircle yX12_isCircle) ∈ lw_tbl := tp_11 _ (List.mem_of_getElem? (i := 134) rfl)
theorem tw_688 : (Cond.code yX12_isCircle cX12_isCircle 2 (some .boolean)) ∈ lw_tbl := tp_11 _ (List.mem_of_getElem? (i := 135) rfl)
theorem in_wf_NisCircle : ∀ w ∈ wf_NisCircle, w ∈ lw_tbl := by
  show ∀ w ∈ .code yX12_isCircle cX12_isCircle 2 (some .boolean) :: ([.fieldLink RX12 9 "KnotHouseModel$Net" "begin" "[I"] ++ wsX120 ++ []), w ∈ lw_tbl
  exact (List.forall_mem_cons.mpr ⟨tw_688, (List.forall_mem_append.mpr ⟨(List.forall_mem_append.mpr ⟨(List.forall_mem_cons.mpr ⟨tw_328, (fun _ h => absurd h List.not_mem_nil)⟩), in_wsX120⟩), (fun _ h => absurd h List.not_mem_nil)⟩)⟩)
theorem in_wf_NisPlane : ∀ w ∈ wf_NisPlane, w ∈ lw_tbl := by
  show ∀ w ∈ .code yX12_isPlane cX12_isPlane 5 (some .boolean) :: ([.fieldLink RX12 48 "KnotHouseModel$Net" "visits" "I", .fieldLink RX12 69 "KnotHouseModel$Net" "parts" "I", .fieldLink RX12 52 "KnotHouseModel$Net" "comps" "I", .fieldLink RX12 39 "KnotHouseModel$Net" "part" "[I", .fieldLink RX12 72 "KnotHouseModel$Net" "faces" "I"] ++ wsX120 ++ (wsV RX12 75 RX12 yX12_split wf_Nsplit ++ (wsV RX12 78 RX12 yX12_walk wf_Nwalk ++ (wsV RX12 81 RX12 yX12_isCircle wf_NisCircle ++ [])))), w ∈ lw_tbl
  exact (List.forall_mem_cons.mpr ⟨tw_674, (List.forall_mem_append.mpr ⟨(List.forall_mem_append.mpr ⟨(List.forall_mem_cons.mpr ⟨tw_662, (List.forall_mem_cons.mpr ⟨tw_676, (List.forall_mem_cons.mpr ⟨tw_661, (List.forall_mem_cons.mpr ⟨tw_319, (List.forall_mem_cons.mpr ⟨tw_675, (fun _ h => absurd h List.not_mem_nil)⟩)⟩)⟩)⟩)⟩), in_wsX120⟩), (List.forall_mem_append.mpr ⟨(List.forall_mem_append.mpr ⟨(List.forall_mem_cons.mpr ⟨tw_677, (List.forall_mem_cons.mpr ⟨tw_678, (List.forall_mem_cons.mpr ⟨tw_679, (List.forall_mem_cons.mpr ⟨tw_212, (fun _ h => absurd h List.not_mem_nil)⟩)⟩)⟩)⟩), in_wf_Nsplit⟩), (List.forall_mem_append.mpr ⟨(List.forall_mem_append.mpr ⟨(List.forall_mem_cons.mpr ⟨tw_681, (List.forall_mem_cons.mpr ⟨tw_682, (List.forall_mem_cons.mpr ⟨tw_683, (List.forall_mem_cons.mpr ⟨tw_212, (fun _ h => absurd h List.not_mem_nil)⟩)⟩)⟩)⟩), in_wf_Nwalk⟩), (List.forall_mem_append.mpr ⟨(List.forall_mem_append.mpr ⟨(List.forall_mem_cons.mpr ⟨tw_685, (List.forall_mem_cons.mpr ⟨tw_686, (List.forall_mem_cons.mpr ⟨tw_687, (List.forall_mem_cons.mpr ⟨tw_212, (fun _ h => absurd h List.not_mem_nil)⟩)⟩)⟩)⟩), in_wf_NisCircle⟩), (fun _ h => absurd h List.not_mem_nil)⟩)⟩)⟩)⟩)⟩)
theorem in_wf_N_read : ∀ w ∈ wf_N_read, w ∈ lw_tbl := by
  show ∀ w ∈ .code yX13_read cX13_read 9 (some .int) :: ([.fieldLink RX13 121 "KnotHouseModel" "made" "LKnotHouseModel$Net;", .fieldLink RX13 400 "KnotHouseModel" "taped" "I"] ++ wsX130 ++ (wsX120 ++ (wsV RX13 91 RX12 yX12_clear wf_Nclear ++ (wsV RX13 94 RX12 yX12_end wf_Nend ++ (wsV RX13 71 RX12 yX12_link wf_Nlink ++ (wsV RX13 413 RX12 yX12_isPlane wf_NisPlane ++ [])))))), w ∈ lw_tbl
  exact (List.forall_mem_cons.mpr ⟨tw_656, (List.forall_mem_append.mpr ⟨(List.forall_mem_append.mpr ⟨(List.forall_mem_cons.mpr ⟨tw_239, (List.forall_mem_cons.mpr ⟨tw_624, (fun _ h => absurd h List.not_mem_nil)⟩)⟩), in_wsX130⟩), (List.forall_mem_append.mpr ⟨in_wsX120, (List.forall_mem_append.mpr ⟨(List.forall_mem_append.mpr ⟨(List.forall_mem_cons.mpr ⟨tw_657, (List.forall_mem_cons.mpr ⟨tw_658, (List.forall_mem_cons.mpr ⟨tw_659, (List.forall_mem_cons.mpr ⟨tw_212, (fun _ h => absurd h List.not_mem_nil)⟩)⟩)⟩)⟩), in_wf_Nclear⟩), (List.forall_mem_append.mpr ⟨(List.forall_mem_append.mpr ⟨(List.forall_mem_cons.mpr ⟨tw_663, (List.forall_mem_cons.mpr ⟨tw_664, (List.forall_mem_cons.mpr ⟨tw_665, (List.forall_mem_cons.mpr ⟨tw_212, (fun _ h => absurd h List.not_mem_nil)⟩)⟩)⟩)⟩), in_wf_Nend⟩), (List.forall_mem_append.mpr ⟨(List.forall_mem_append.mpr ⟨(List.forall_mem_cons.mpr ⟨tw_667, (List.forall_mem_cons.mpr ⟨tw_668, (List.forall_mem_cons.mpr ⟨tw_669, (List.forall_mem_cons.mpr ⟨tw_212, (fun _ h => absurd h List.not_mem_nil)⟩)⟩)⟩)⟩), in_wf_Nlink⟩), (List.forall_mem_append.mpr ⟨(List.forall_mem_append.mpr ⟨(List.forall_mem_cons.mpr ⟨tw_671, (List.forall_mem_cons.mpr ⟨tw_672, (List.forall_mem_cons.mpr ⟨tw_673, (List.forall_mem_cons.mpr ⟨tw_212, (fun _ h => absurd h List.not_mem_nil)⟩)⟩)⟩)⟩), in_wf_NisPlane⟩), (fun _ h => absurd h List.not_mem_nil)⟩)⟩)⟩)⟩)⟩)⟩)⟩)
theorem tw_689 : (Cond.methodLink RX13 420 yX13_keep) ∈ lw_tbl := tp_11 _ (List.mem_of_getElem? (i := 136) rfl)
theorem tw_690 : (Cond.instanceMethod yX13_keep) ∈ lw_tbl := tp_11 _ (List.mem_of_getElem? (i := 138) rfl)
theorem tw_691 : (Cond.selects RX13 yX13_keep yX13_keep) ∈ lw_tbl := List.mem_append_left _ (List.mem_map.mpr ⟨(yX13_keep, 120), tq_7 _ (List.mem_of_getElem? (i := 1) rfl), rfl⟩)
theorem tw_692 : (Cond.code yX13_keep cX13_keep 2 (some .int)) ∈ lw_tbl := tp_11 _ (List.mem_of_getElem? (i := 139) rfl)
theorem tw_693 : (Cond.methodLink RX13 396 yX13_pack) ∈ lw_tbl := tp_11 _ (List.mem_of_getElem? (i := 140) rfl)
theorem tw_694 : (Cond.instanceMethod yX13_pack) ∈ lw_tbl := tp_11 _ (List.mem_of_getElem? (i := 142) rfl)
theorem tw_695 : (Cond.selects RX13 yX13_pack yX13_pack) ∈ lw_tbl := List.mem_append_left _ (List.mem_map.mpr ⟨(yX13_pack, 120), tq_7 _ (List.mem_of_getElem? (i := 2) rfl), rfl⟩)
theorem tw_696 : (Cond.code yX13_pack cX13_pack 12 none) ∈ lw_tbl := tp_11 _ (List.mem_of_getElem? (i := 143) rfl)
theorem tw_697 : (Cond.methodLink RX13 75 yX12_split) ∈ lw_tbl := tp_11 _ (List.mem_of_getElem? (i := 144) rfl)
theorem tw_698 : (Cond.methodLink RX13 81 yX13_leastOf) ∈ lw_tbl := tp_11 _ (List.mem_of_getElem? (i := 145) rfl)
theorem tw_699 : (Cond.instanceMethod yX13_leastOf) ∈ lw_tbl := tp_11 _ (List.mem_of_getElem? (i := 147) rfl)
theorem tw_700 : (Cond.selects RX13 yX13_leastOf yX13_leastOf) ∈ lw_tbl := List.mem_append_left _ (List.mem_map.mpr ⟨(yX13_leastOf, 120), tq_7 _ (List.mem_of_getElem? (i := 3) rfl), rfl⟩)
theorem tw_701 : (Cond.code yX13_leastOf cX13_leastOf 7 (some .int)) ∈ lw_tbl := tp_11 _ (List.mem_of_getElem? (i := 148) rfl)
theorem in_wf_N_leastOf : ∀ w ∈ wf_N_leastOf, w ∈ lw_tbl := by
  show ∀ w ∈ .code yX13_leastOf cX13_leastOf 7 (some .int) :: ([] ++ wsX130 ++ (wsX120 ++ [])), w ∈ lw_tbl
  exact (List.forall_mem_cons.mpr ⟨tw_701, (List.forall_mem_append.mpr ⟨(List.forall_mem_append.mpr ⟨(fun _ h => absurd h List.not_mem_nil), in_wsX130⟩), (List.forall_mem_append.mpr ⟨in_wsX120, (fun _ h => absurd h List.not_mem_nil)⟩)⟩)⟩)
theorem in_wf_N_pack : ∀ w ∈ wf_N_pack, w ∈ lw_tbl := by
  show ∀ w ∈ .code yX13_pack cX13_pack 12 none :: ([] ++ wsX130 ++ (wsX120 ++ (wsV RX13 71 RX12 yX12_link wf_Nlink ++ (wsV RX13 75 RX12 yX12_split wf_Nsplit ++ (wsV RX13 81 RX13 yX13_leastOf wf_N_leastOf ++ []))))), w ∈ lw_tbl
  exact (List.forall_mem_cons.mpr ⟨tw_696, (List.forall_mem_append.mpr ⟨(List.forall_mem_append.mpr ⟨(fun _ h => absurd h List.not_mem_nil), in_wsX130⟩), (List.forall_mem_append.mpr ⟨in_wsX120, (List.forall_mem_append.mpr ⟨(List.forall_mem_append.mpr ⟨(List.forall_mem_cons.mpr ⟨tw_667, (List.forall_mem_cons.mpr ⟨tw_668, (List.forall_mem_cons.mpr ⟨tw_669, (List.forall_mem_cons.mpr ⟨tw_212, (fun _ h => absurd h List.not_mem_nil)⟩)⟩)⟩)⟩), in_wf_Nlink⟩), (List.forall_mem_append.mpr ⟨(List.forall_mem_append.mpr ⟨(List.forall_mem_cons.mpr ⟨tw_697, (List.forall_mem_cons.mpr ⟨tw_678, (List.forall_mem_cons.mpr ⟨tw_679, (List.forall_mem_cons.mpr ⟨tw_212, (fun _ h => absurd h List.not_mem_nil)⟩)⟩)⟩)⟩), in_wf_Nsplit⟩), (List.forall_mem_append.mpr ⟨(List.forall_mem_append.mpr ⟨(List.forall_mem_cons.mpr ⟨tw_698, (List.forall_mem_cons.mpr ⟨tw_699, (List.forall_mem_cons.mpr ⟨tw_700, (List.forall_mem_cons.mpr ⟨tw_333, (fun _ h => absurd h List.not_mem_nil)⟩)⟩)⟩)⟩), in_wf_N_leastOf⟩), (fun _ h => absurd h List.not_mem_nil)⟩)⟩)⟩)⟩)⟩)⟩)
theorem in_wf_N_keep : ∀ w ∈ wf_N_keep, w ∈ lw_tbl := by
  show ∀ w ∈ .code yX13_keep cX13_keep 2 (some .int) :: ([.fieldLink RX13 121 "KnotHouseModel" "made" "LKnotHouseModel$Net;", .fieldLink RX13 110 "KnotHouseModel" "rows" "[I"] ++ wsX130 ++ (wsX120 ++ (wsV RX13 392 RX13 yX13_free wf_Mfree ++ (wsV RX13 396 RX13 yX13_pack wf_N_pack ++ [])))), w ∈ lw_tbl
  exact (List.forall_mem_cons.mpr ⟨tw_692, (List.forall_mem_append.mpr ⟨(List.forall_mem_append.mpr ⟨(List.forall_mem_cons.mpr ⟨tw_239, (List.forall_mem_cons.mpr ⟨tw_242, (fun _ h => absurd h List.not_mem_nil)⟩)⟩), in_wsX130⟩), (List.forall_mem_append.mpr ⟨in_wsX120, (List.forall_mem_append.mpr ⟨(List.forall_mem_append.mpr ⟨(List.forall_mem_cons.mpr ⟨tw_649, (List.forall_mem_cons.mpr ⟨tw_650, (List.forall_mem_cons.mpr ⟨tw_651, (List.forall_mem_cons.mpr ⟨tw_333, (fun _ h => absurd h List.not_mem_nil)⟩)⟩)⟩)⟩), in_wf_Mfree⟩), (List.forall_mem_append.mpr ⟨(List.forall_mem_append.mpr ⟨(List.forall_mem_cons.mpr ⟨tw_693, (List.forall_mem_cons.mpr ⟨tw_694, (List.forall_mem_cons.mpr ⟨tw_695, (List.forall_mem_cons.mpr ⟨tw_333, (fun _ h => absurd h List.not_mem_nil)⟩)⟩)⟩)⟩), in_wf_N_pack⟩), (fun _ h => absurd h List.not_mem_nil)⟩)⟩)⟩)⟩)⟩)
theorem in_wf_N_diagram : ∀ w ∈ wf_N_diagram, w ∈ lw_tbl := by
  show ∀ w ∈ .code yX13_diagram cX13_diagram 2 (some .int) :: ([.fieldLink RX13 1 "KnotHouseModel" "thrown" "I", .fieldLink RX13 400 "KnotHouseModel" "taped" "I"] ++ wsX130 ++ (wsX120 ++ (wsV RX13 392 RX13 yX13_free wf_Mfree ++ (wsV RX13 417 RX13 yX13_read wf_N_read ++ (wsV RX13 420 RX13 yX13_keep wf_N_keep ++ []))))), w ∈ lw_tbl
  exact (List.forall_mem_cons.mpr ⟨tw_648, (List.forall_mem_append.mpr ⟨(List.forall_mem_append.mpr ⟨(List.forall_mem_cons.mpr ⟨tw_625, (List.forall_mem_cons.mpr ⟨tw_624, (fun _ h => absurd h List.not_mem_nil)⟩)⟩), in_wsX130⟩), (List.forall_mem_append.mpr ⟨in_wsX120, (List.forall_mem_append.mpr ⟨(List.forall_mem_append.mpr ⟨(List.forall_mem_cons.mpr ⟨tw_649, (List.forall_mem_cons.mpr ⟨tw_650, (List.forall_mem_cons.mpr ⟨tw_651, (List.forall_mem_cons.mpr ⟨tw_333, (fun _ h => absurd h List.not_mem_nil)⟩)⟩)⟩)⟩), in_wf_Mfree⟩), (List.forall_mem_append.mpr ⟨(List.forall_mem_append.mpr ⟨(List.forall_mem_cons.mpr ⟨tw_653, (List.forall_mem_cons.mpr ⟨tw_654, (List.forall_mem_cons.mpr ⟨tw_655, (List.forall_mem_cons.mpr ⟨tw_333, (fun _ h => absurd h List.not_mem_nil)⟩)⟩)⟩)⟩), in_wf_N_read⟩), (List.forall_mem_append.mpr ⟨(List.forall_mem_append.mpr ⟨(List.forall_mem_cons.mpr ⟨tw_689, (List.forall_mem_cons.mpr ⟨tw_690, (List.forall_mem_cons.mpr ⟨tw_691, (List.forall_mem_cons.mpr ⟨tw_333, (fun _ h => absurd h List.not_mem_nil)⟩)⟩)⟩)⟩), in_wf_N_keep⟩), (fun _ h => absurd h List.not_mem_nil)⟩)⟩)⟩)⟩)⟩)⟩)
theorem tw_702 : (Cond.methodLink RL 148 yL_braid) ∈ lw_tbl := tp_5 _ (List.mem_of_getElem? (i := 233) rfl)
theorem tw_703 : (Cond.static yL_braid) ∈ lw_tbl := tp_5 _ (List.mem_of_getElem? (i := 234) rfl)
theorem tw_704 : (Cond.codeWith yL_braid cL_braid 4 (some .int) [(0, 9, 12, 19), (0, 9, 15, 13)]) ∈ lw_tbl := tp_5 _ (List.mem_of_getElem? (i := 235) rfl)
theorem in_wf_L_braid : ∀ w ∈ wf_L_braid, w ∈ lw_tbl := by
  show ∀ w ∈ .codeWith yL_braid cL_braid 4 (some .int) [(0, 9, 12, 19), (0, 9, 15, 13)] :: (.classLink RL 19 "java/lang/IllegalArgumentException" :: wsV RL 25 RX11 yX11_braid wf_braid), w ∈ lw_tbl
  exact (List.forall_mem_cons.mpr ⟨tw_704, (List.forall_mem_cons.mpr ⟨tw_633, (List.forall_mem_append.mpr ⟨(List.forall_mem_cons.mpr ⟨tw_461, (List.forall_mem_cons.mpr ⟨tw_462, (List.forall_mem_cons.mpr ⟨tw_463, (List.forall_mem_cons.mpr ⟨tw_362, (fun _ h => absurd h List.not_mem_nil)⟩)⟩)⟩)⟩), in_wf_braid⟩)⟩)⟩)
theorem tw_705 : (Cond.methodLink RL 151 yX13_braid) ∈ lw_tbl := tp_13 _ (List.mem_of_getElem? (i := 32) rfl)
theorem tw_706 : (Cond.instanceMethod yX13_braid) ∈ lw_tbl := tp_13 _ (List.mem_of_getElem? (i := 33) rfl)
theorem tw_707 : (Cond.selects RX13 yX13_braid yX13_braid) ∈ lw_tbl := tp_13 _ (List.mem_of_getElem? (i := 34) rfl)
theorem tw_708 : (Cond.code yX13_braid cX13_braid 8 (some .int)) ∈ lw_tbl := tp_13 _ (List.mem_of_getElem? (i := 35) rfl)
theorem tw_709 : (Cond.methodLink RX13 736 yX13_freeBraid) ∈ lw_tbl := tp_13 _ (List.mem_of_getElem? (i := 36) rfl)
theorem tw_710 : (Cond.instanceMethod yX13_freeBraid) ∈ lw_tbl := tp_13 _ (List.mem_of_getElem? (i := 38) rfl)
theorem tw_711 : (Cond.selects RX13 yX13_freeBraid yX13_freeBraid) ∈ lw_tbl := List.mem_append_left _ (List.mem_map.mpr ⟨(yX13_freeBraid, 120), tq_10 _ (List.mem_of_getElem? (i := 7) rfl), rfl⟩)
theorem tw_712 : (Cond.code yX13_freeBraid cX13_freeBraid 2 (some .int)) ∈ lw_tbl := tp_13 _ (List.mem_of_getElem? (i := 39) rfl)
theorem in_wf_MfreeBraid : ∀ w ∈ wf_MfreeBraid, w ∈ lw_tbl := by
  show ∀ w ∈ .code yX13_freeBraid cX13_freeBraid 2 (some .int) :: ([.fieldLink RX13 326 "KnotHouseModel" "strands" "[I"] ++ wsX130), w ∈ lw_tbl
  exact (List.forall_mem_cons.mpr ⟨tw_712, (List.forall_mem_append.mpr ⟨(List.forall_mem_cons.mpr ⟨tw_303, (fun _ h => absurd h List.not_mem_nil)⟩), in_wsX130⟩)⟩)
theorem in_wf_M_braid : ∀ w ∈ wf_M_braid, w ∈ lw_tbl := by
  show ∀ w ∈ .code yX13_braid cX13_braid 8 (some .int) :: ([.fieldLink RX13 1 "KnotHouseModel" "thrown" "I", .fieldLink RX13 400 "KnotHouseModel" "taped" "I", .fieldLink RX13 323 "KnotHouseModel" "lengths" "[I", .fieldLink RX13 326 "KnotHouseModel" "strands" "[I"] ++ wsX130 ++ (wsV RX13 736 RX13 yX13_freeBraid wf_MfreeBraid ++ wsV RX13 403 RX13 yX13_fails wf_Mfails)), w ∈ lw_tbl
  exact (List.forall_mem_cons.mpr ⟨tw_708, (List.forall_mem_append.mpr ⟨(List.forall_mem_append.mpr ⟨(List.forall_mem_cons.mpr ⟨tw_625, (List.forall_mem_cons.mpr ⟨tw_624, (List.forall_mem_cons.mpr ⟨tw_304, (List.forall_mem_cons.mpr ⟨tw_303, (fun _ h => absurd h List.not_mem_nil)⟩)⟩)⟩)⟩), in_wsX130⟩), (List.forall_mem_append.mpr ⟨(List.forall_mem_append.mpr ⟨(List.forall_mem_cons.mpr ⟨tw_709, (List.forall_mem_cons.mpr ⟨tw_710, (List.forall_mem_cons.mpr ⟨tw_711, (List.forall_mem_cons.mpr ⟨tw_333, (fun _ h => absurd h List.not_mem_nil)⟩)⟩)⟩)⟩), in_wf_MfreeBraid⟩), (List.forall_mem_append.mpr ⟨(List.forall_mem_cons.mpr ⟨tw_638, (List.forall_mem_cons.mpr ⟨tw_639, (List.forall_mem_cons.mpr ⟨tw_640, (List.forall_mem_cons.mpr ⟨tw_333, (fun _ h => absurd h List.not_mem_nil)⟩)⟩)⟩)⟩), in_wf_Mfails⟩)⟩)⟩)⟩)
theorem tw_713 : (Cond.methodLink RL 152 yX11_drop) ∈ lw_tbl := tp_3 _ (List.mem_of_getElem? (i := 135) rfl)
theorem tw_714 : (Cond.instanceMethod yX11_drop) ∈ lw_tbl := tp_3 _ (List.mem_of_getElem? (i := 136) rfl)
theorem tw_715 : (Cond.selects RX11 yX11_drop yX11_drop) ∈ lw_tbl := tp_3 _ (List.mem_of_getElem? (i := 137) rfl)
theorem tw_716 : (Cond.code yX11_drop cX11_drop 2 (some .boolean)) ∈ lw_tbl := tp_3 _ (List.mem_of_getElem? (i := 138) rfl)
theorem in_wf_drop : ∀ w ∈ wf_drop, w ∈ lw_tbl := by
  show ∀ w ∈ .code yX11_drop cX11_drop 2 (some .boolean) :: wsV RX11 160 RX11 yX11_hasDiagram wf_hasDiagram, w ∈ lw_tbl
  exact (List.forall_mem_cons.mpr ⟨tw_716, (List.forall_mem_append.mpr ⟨(List.forall_mem_cons.mpr ⟨tw_483, (List.forall_mem_cons.mpr ⟨tw_484, (List.forall_mem_cons.mpr ⟨tw_485, (List.forall_mem_cons.mpr ⟨tw_362, (fun _ h => absurd h List.not_mem_nil)⟩)⟩)⟩)⟩), in_wf_hasDiagram⟩)⟩)
theorem tw_717 : (Cond.methodLink RL 156 yX13_drop) ∈ lw_tbl := tp_11 _ (List.mem_of_getElem? (i := 156) rfl)
theorem tw_718 : (Cond.instanceMethod yX13_drop) ∈ lw_tbl := tp_11 _ (List.mem_of_getElem? (i := 157) rfl)
theorem tw_719 : (Cond.selects RX13 yX13_drop yX13_drop) ∈ lw_tbl := tp_11 _ (List.mem_of_getElem? (i := 158) rfl)
theorem tw_720 : (Cond.code yX13_drop cX13_drop 3 (some .boolean)) ∈ lw_tbl := tp_11 _ (List.mem_of_getElem? (i := 159) rfl)
theorem tw_721 : (Cond.methodLink RX13 423 yX13_has) ∈ lw_tbl := tp_11 _ (List.mem_of_getElem? (i := 160) rfl)
theorem tw_722 : (Cond.instanceMethod yX13_has) ∈ lw_tbl := tp_11 _ (List.mem_of_getElem? (i := 162) rfl)
theorem tw_723 : (Cond.selects RX13 yX13_has yX13_has) ∈ lw_tbl := List.mem_append_left _ (List.mem_map.mpr ⟨(yX13_has, 120), tq_7 _ (List.mem_of_getElem? (i := 5) rfl), rfl⟩)
theorem tw_724 : (Cond.code yX13_has cX13_has 2 (some .boolean)) ∈ lw_tbl := tp_11 _ (List.mem_of_getElem? (i := 163) rfl)
theorem in_wf_Mhas : ∀ w ∈ wf_Mhas, w ∈ lw_tbl := by
  show ∀ w ∈ .code yX13_has cX13_has 2 (some .boolean) :: ([.fieldLink RX13 110 "KnotHouseModel" "rows" "[I"] ++ wsX130), w ∈ lw_tbl
  exact (List.forall_mem_cons.mpr ⟨tw_724, (List.forall_mem_append.mpr ⟨(List.forall_mem_cons.mpr ⟨tw_242, (fun _ h => absurd h List.not_mem_nil)⟩), in_wsX130⟩)⟩)
theorem in_wf_M_drop : ∀ w ∈ wf_M_drop, w ∈ lw_tbl := by
  show ∀ w ∈ .code yX13_drop cX13_drop 3 (some .boolean) :: ([.fieldLink RX13 1 "KnotHouseModel" "thrown" "I"] ++ wsX130 ++ wsV RX13 423 RX13 yX13_has wf_Mhas), w ∈ lw_tbl
  exact (List.forall_mem_cons.mpr ⟨tw_720, (List.forall_mem_append.mpr ⟨(List.forall_mem_append.mpr ⟨(List.forall_mem_cons.mpr ⟨tw_625, (fun _ h => absurd h List.not_mem_nil)⟩), in_wsX130⟩), (List.forall_mem_append.mpr ⟨(List.forall_mem_cons.mpr ⟨tw_721, (List.forall_mem_cons.mpr ⟨tw_722, (List.forall_mem_cons.mpr ⟨tw_723, (List.forall_mem_cons.mpr ⟨tw_333, (fun _ h => absurd h List.not_mem_nil)⟩)⟩)⟩)⟩), in_wf_Mhas⟩)⟩)⟩)
theorem tw_725 : (Cond.methodLink RL 157 yX11_dropBraid) ∈ lw_tbl := tp_3 _ (List.mem_of_getElem? (i := 143) rfl)
theorem tw_726 : (Cond.instanceMethod yX11_dropBraid) ∈ lw_tbl := tp_3 _ (List.mem_of_getElem? (i := 144) rfl)
theorem tw_727 : (Cond.selects RX11 yX11_dropBraid yX11_dropBraid) ∈ lw_tbl := tp_3 _ (List.mem_of_getElem? (i := 145) rfl)
theorem tw_728 : (Cond.code yX11_dropBraid cX11_dropBraid 2 (some .boolean)) ∈ lw_tbl := tp_3 _ (List.mem_of_getElem? (i := 146) rfl)
theorem in_wf_dropBraid : ∀ w ∈ wf_dropBraid, w ∈ lw_tbl := by
  show ∀ w ∈ .code yX11_dropBraid cX11_dropBraid 2 (some .boolean) :: wsV RX11 169 RX11 yX11_hasBraid wf_hasBraid, w ∈ lw_tbl
  exact (List.forall_mem_cons.mpr ⟨tw_728, (List.forall_mem_append.mpr ⟨(List.forall_mem_cons.mpr ⟨tw_584, (List.forall_mem_cons.mpr ⟨tw_585, (List.forall_mem_cons.mpr ⟨tw_586, (List.forall_mem_cons.mpr ⟨tw_362, (fun _ h => absurd h List.not_mem_nil)⟩)⟩)⟩)⟩), in_wf_hasBraid⟩)⟩)
theorem tw_729 : (Cond.methodLink RL 160 yX13_dropBraid) ∈ lw_tbl := tp_13 _ (List.mem_of_getElem? (i := 40) rfl)
theorem tw_730 : (Cond.instanceMethod yX13_dropBraid) ∈ lw_tbl := tp_13 _ (List.mem_of_getElem? (i := 41) rfl)
theorem tw_731 : (Cond.selects RX13 yX13_dropBraid yX13_dropBraid) ∈ lw_tbl := tp_13 _ (List.mem_of_getElem? (i := 42) rfl)
theorem tw_732 : (Cond.code yX13_dropBraid cX13_dropBraid 3 (some .boolean)) ∈ lw_tbl := tp_13 _ (List.mem_of_getElem? (i := 43) rfl)
theorem tw_733 : (Cond.methodLink RX13 739 yX13_hasBraid) ∈ lw_tbl := tp_13 _ (List.mem_of_getElem? (i := 44) rfl)
theorem tw_734 : (Cond.instanceMethod yX13_hasBraid) ∈ lw_tbl := tp_13 _ (List.mem_of_getElem? (i := 46) rfl)
theorem tw_735 : (Cond.selects RX13 yX13_hasBraid yX13_hasBraid) ∈ lw_tbl := List.mem_append_left _ (List.mem_map.mpr ⟨(yX13_hasBraid, 120), tq_10 _ (List.mem_of_getElem? (i := 8) rfl), rfl⟩)
theorem tw_736 : (Cond.code yX13_hasBraid cX13_hasBraid 2 (some .boolean)) ∈ lw_tbl := tp_13 _ (List.mem_of_getElem? (i := 47) rfl)
theorem in_wf_MhasBraid : ∀ w ∈ wf_MhasBraid, w ∈ lw_tbl := by
  show ∀ w ∈ .code yX13_hasBraid cX13_hasBraid 2 (some .boolean) :: ([.fieldLink RX13 326 "KnotHouseModel" "strands" "[I"] ++ wsX130), w ∈ lw_tbl
  exact (List.forall_mem_cons.mpr ⟨tw_736, (List.forall_mem_append.mpr ⟨(List.forall_mem_cons.mpr ⟨tw_303, (fun _ h => absurd h List.not_mem_nil)⟩), in_wsX130⟩)⟩)
theorem in_wf_M_dropBraid : ∀ w ∈ wf_M_dropBraid, w ∈ lw_tbl := by
  show ∀ w ∈ .code yX13_dropBraid cX13_dropBraid 3 (some .boolean) :: ([.fieldLink RX13 1 "KnotHouseModel" "thrown" "I"] ++ wsX130 ++ wsV RX13 739 RX13 yX13_hasBraid wf_MhasBraid), w ∈ lw_tbl
  exact (List.forall_mem_cons.mpr ⟨tw_732, (List.forall_mem_append.mpr ⟨(List.forall_mem_append.mpr ⟨(List.forall_mem_cons.mpr ⟨tw_625, (fun _ h => absurd h List.not_mem_nil)⟩), in_wsX130⟩), (List.forall_mem_append.mpr ⟨(List.forall_mem_cons.mpr ⟨tw_733, (List.forall_mem_cons.mpr ⟨tw_734, (List.forall_mem_cons.mpr ⟨tw_735, (List.forall_mem_cons.mpr ⟨tw_333, (fun _ h => absurd h List.not_mem_nil)⟩)⟩)⟩)⟩), in_wf_MhasBraid⟩)⟩)⟩)
theorem tw_737 : (Cond.methodLink RL 161 yL_figure) ∈ lw_tbl := tp_6 _ (List.mem_of_getElem? (i := 10) rfl)
theorem tw_738 : (Cond.static yL_figure) ∈ lw_tbl := tp_6 _ (List.mem_of_getElem? (i := 11) rfl)
theorem tw_739 : (Cond.codeWith yL_figure cL_figure 5 (some .int) [(0, 10, 13, 33), (0, 10, 17, 19)]) ∈ lw_tbl := tp_6 _ (List.mem_of_getElem? (i := 12) rfl)
theorem tw_740 : (Cond.classLink RL 33 "java/lang/IndexOutOfBoundsException") ∈ lw_tbl := tp_6 _ (List.mem_of_getElem? (i := 13) rfl)
theorem in_wf_L_figure : ∀ w ∈ wf_L_figure, w ∈ lw_tbl := by
  show ∀ w ∈ .codeWith yL_figure cL_figure 5 (some .int) [(0, 10, 13, 33), (0, 10, 17, 19)] :: (.classLink RL 33 "java/lang/IndexOutOfBoundsException" :: wsV RL 29 RX11 yX11_figure wf_figure), w ∈ lw_tbl
  exact (List.forall_mem_cons.mpr ⟨tw_739, (List.forall_mem_cons.mpr ⟨tw_740, (List.forall_mem_append.mpr ⟨(List.forall_mem_cons.mpr ⟨tw_473, (List.forall_mem_cons.mpr ⟨tw_474, (List.forall_mem_cons.mpr ⟨tw_475, (List.forall_mem_cons.mpr ⟨tw_362, (fun _ h => absurd h List.not_mem_nil)⟩)⟩)⟩)⟩), in_wf_figure⟩)⟩)⟩)
theorem tw_741 : (Cond.methodLink RL 164 yX13_figure) ∈ lw_tbl := tp_11 _ (List.mem_of_getElem? (i := 164) rfl)
theorem tw_742 : (Cond.instanceMethod yX13_figure) ∈ lw_tbl := tp_11 _ (List.mem_of_getElem? (i := 165) rfl)
theorem tw_743 : (Cond.selects RX13 yX13_figure yX13_figure) ∈ lw_tbl := tp_11 _ (List.mem_of_getElem? (i := 166) rfl)
theorem tw_744 : (Cond.code yX13_figure cX13_figure 4 (some .int)) ∈ lw_tbl := tp_11 _ (List.mem_of_getElem? (i := 167) rfl)
theorem in_wf_M_figure : ∀ w ∈ wf_M_figure, w ∈ lw_tbl := by
  show ∀ w ∈ .code yX13_figure cX13_figure 4 (some .int) :: ([.fieldLink RX13 1 "KnotHouseModel" "thrown" "I"] ++ wsX130 ++ (wsV RX13 423 RX13 yX13_has wf_Mhas ++ wsV RX13 403 RX13 yX13_fails wf_Mfails)), w ∈ lw_tbl
  exact (List.forall_mem_cons.mpr ⟨tw_744, (List.forall_mem_append.mpr ⟨(List.forall_mem_append.mpr ⟨(List.forall_mem_cons.mpr ⟨tw_625, (fun _ h => absurd h List.not_mem_nil)⟩), in_wsX130⟩), (List.forall_mem_append.mpr ⟨(List.forall_mem_append.mpr ⟨(List.forall_mem_cons.mpr ⟨tw_721, (List.forall_mem_cons.mpr ⟨tw_722, (List.forall_mem_cons.mpr ⟨tw_723, (List.forall_mem_cons.mpr ⟨tw_333, (fun _ h => absurd h List.not_mem_nil)⟩)⟩)⟩)⟩), in_wf_Mhas⟩), (List.forall_mem_append.mpr ⟨(List.forall_mem_cons.mpr ⟨tw_638, (List.forall_mem_cons.mpr ⟨tw_639, (List.forall_mem_cons.mpr ⟨tw_640, (List.forall_mem_cons.mpr ⟨tw_333, (fun _ h => absurd h List.not_mem_nil)⟩)⟩)⟩)⟩), in_wf_Mfails⟩)⟩)⟩)⟩)
theorem tw_745 : (Cond.methodLink RL 165 yL_visit) ∈ lw_tbl := tp_6 _ (List.mem_of_getElem? (i := 50) rfl)
theorem tw_746 : (Cond.static yL_visit) ∈ lw_tbl := tp_6 _ (List.mem_of_getElem? (i := 51) rfl)
theorem tw_747 : (Cond.codeWith yL_visit cL_visit 6 (some .int) [(0, 12, 15, 33), (0, 12, 19, 19)]) ∈ lw_tbl := tp_6 _ (List.mem_of_getElem? (i := 52) rfl)
theorem in_wf_L_visit : ∀ w ∈ wf_L_visit, w ∈ lw_tbl := by
  show ∀ w ∈ .codeWith yL_visit cL_visit 6 (some .int) [(0, 12, 15, 33), (0, 12, 19, 19)] :: (.classLink RL 33 "java/lang/IndexOutOfBoundsException" :: wsV RL 35 RX11 yX11_visit wf_visit), w ∈ lw_tbl
  exact (List.forall_mem_cons.mpr ⟨tw_747, (List.forall_mem_cons.mpr ⟨tw_740, (List.forall_mem_append.mpr ⟨(List.forall_mem_cons.mpr ⟨tw_487, (List.forall_mem_cons.mpr ⟨tw_488, (List.forall_mem_cons.mpr ⟨tw_489, (List.forall_mem_cons.mpr ⟨tw_362, (fun _ h => absurd h List.not_mem_nil)⟩)⟩)⟩)⟩), in_wf_visit⟩)⟩)⟩)
theorem tw_748 : (Cond.methodLink RL 168 yX13_visit) ∈ lw_tbl := tp_11 _ (List.mem_of_getElem? (i := 183) rfl)
theorem tw_749 : (Cond.instanceMethod yX13_visit) ∈ lw_tbl := tp_11 _ (List.mem_of_getElem? (i := 184) rfl)
theorem tw_750 : (Cond.selects RX13 yX13_visit yX13_visit) ∈ lw_tbl := tp_11 _ (List.mem_of_getElem? (i := 185) rfl)
theorem tw_751 : (Cond.code yX13_visit cX13_visit 4 (some .int)) ∈ lw_tbl := tp_11 _ (List.mem_of_getElem? (i := 186) rfl)
theorem in_wf_M_visit : ∀ w ∈ wf_M_visit, w ∈ lw_tbl := by
  show ∀ w ∈ .code yX13_visit cX13_visit 4 (some .int) :: ([.fieldLink RX13 1 "KnotHouseModel" "thrown" "I"] ++ wsX130 ++ (wsV RX13 423 RX13 yX13_has wf_Mhas ++ wsV RX13 403 RX13 yX13_fails wf_Mfails)), w ∈ lw_tbl
  exact (List.forall_mem_cons.mpr ⟨tw_751, (List.forall_mem_append.mpr ⟨(List.forall_mem_append.mpr ⟨(List.forall_mem_cons.mpr ⟨tw_625, (fun _ h => absurd h List.not_mem_nil)⟩), in_wsX130⟩), (List.forall_mem_append.mpr ⟨(List.forall_mem_append.mpr ⟨(List.forall_mem_cons.mpr ⟨tw_721, (List.forall_mem_cons.mpr ⟨tw_722, (List.forall_mem_cons.mpr ⟨tw_723, (List.forall_mem_cons.mpr ⟨tw_333, (fun _ h => absurd h List.not_mem_nil)⟩)⟩)⟩)⟩), in_wf_Mhas⟩), (List.forall_mem_append.mpr ⟨(List.forall_mem_cons.mpr ⟨tw_638, (List.forall_mem_cons.mpr ⟨tw_639, (List.forall_mem_cons.mpr ⟨tw_640, (List.forall_mem_cons.mpr ⟨tw_333, (fun _ h => absurd h List.not_mem_nil)⟩)⟩)⟩)⟩), in_wf_Mfails⟩)⟩)⟩)⟩)
theorem tw_752 : (Cond.methodLink RL 169 yL_linking) ∈ lw_tbl := tp_6 _ (List.mem_of_getElem? (i := 59) rfl)
theorem tw_753 : (Cond.static yL_linking) ∈ lw_tbl := tp_6 _ (List.mem_of_getElem? (i := 60) rfl)
theorem tw_754 : (Cond.codeWith yL_linking cL_linking 6 (some .int) [(0, 12, 15, 33), (0, 12, 19, 19)]) ∈ lw_tbl := tp_6 _ (List.mem_of_getElem? (i := 61) rfl)
theorem in_wf_L_linking : ∀ w ∈ wf_L_linking, w ∈ lw_tbl := by
  show ∀ w ∈ .codeWith yL_linking cL_linking 6 (some .int) [(0, 12, 15, 33), (0, 12, 19, 19)] :: (.classLink RL 33 "java/lang/IndexOutOfBoundsException" :: wsV RL 39 RX11 yX11_linking wf_linking), w ∈ lw_tbl
  exact (List.forall_mem_cons.mpr ⟨tw_754, (List.forall_mem_cons.mpr ⟨tw_740, (List.forall_mem_append.mpr ⟨(List.forall_mem_cons.mpr ⟨tw_491, (List.forall_mem_cons.mpr ⟨tw_492, (List.forall_mem_cons.mpr ⟨tw_493, (List.forall_mem_cons.mpr ⟨tw_362, (fun _ h => absurd h List.not_mem_nil)⟩)⟩)⟩)⟩), in_wf_linking⟩)⟩)⟩)
theorem tw_755 : (Cond.methodLink RL 171 yX13_linking) ∈ lw_tbl := tp_11 _ (List.mem_of_getElem? (i := 187) rfl)
theorem tw_756 : (Cond.instanceMethod yX13_linking) ∈ lw_tbl := tp_11 _ (List.mem_of_getElem? (i := 188) rfl)
theorem tw_757 : (Cond.selects RX13 yX13_linking yX13_linking) ∈ lw_tbl := tp_11 _ (List.mem_of_getElem? (i := 189) rfl)
theorem tw_758 : (Cond.code yX13_linking cX13_linking 6 (some .int)) ∈ lw_tbl := tp_11 _ (List.mem_of_getElem? (i := 190) rfl)
theorem in_wf_M_linking : ∀ w ∈ wf_M_linking, w ∈ lw_tbl := by
  show ∀ w ∈ .code yX13_linking cX13_linking 6 (some .int) :: ([.fieldLink RX13 1 "KnotHouseModel" "thrown" "I"] ++ wsX130 ++ (wsV RX13 423 RX13 yX13_has wf_Mhas ++ wsV RX13 403 RX13 yX13_fails wf_Mfails)), w ∈ lw_tbl
  exact (List.forall_mem_cons.mpr ⟨tw_758, (List.forall_mem_append.mpr ⟨(List.forall_mem_append.mpr ⟨(List.forall_mem_cons.mpr ⟨tw_625, (fun _ h => absurd h List.not_mem_nil)⟩), in_wsX130⟩), (List.forall_mem_append.mpr ⟨(List.forall_mem_append.mpr ⟨(List.forall_mem_cons.mpr ⟨tw_721, (List.forall_mem_cons.mpr ⟨tw_722, (List.forall_mem_cons.mpr ⟨tw_723, (List.forall_mem_cons.mpr ⟨tw_333, (fun _ h => absurd h List.not_mem_nil)⟩)⟩)⟩)⟩), in_wf_Mhas⟩), (List.forall_mem_append.mpr ⟨(List.forall_mem_cons.mpr ⟨tw_638, (List.forall_mem_cons.mpr ⟨tw_639, (List.forall_mem_cons.mpr ⟨tw_640, (List.forall_mem_cons.mpr ⟨tw_333, (fun _ h => absurd h List.not_mem_nil)⟩)⟩)⟩)⟩), in_wf_Mfails⟩)⟩)⟩)⟩)
theorem tw_759 : (Cond.methodLink RL 172 yX11_alike) ∈ lw_tbl := tp_3 _ (List.mem_of_getElem? (i := 151) rfl)
theorem tw_760 : (Cond.instanceMethod yX11_alike) ∈ lw_tbl := tp_3 _ (List.mem_of_getElem? (i := 152) rfl)
theorem tw_761 : (Cond.selects RX11 yX11_alike yX11_alike) ∈ lw_tbl := tp_3 _ (List.mem_of_getElem? (i := 153) rfl)
theorem tw_762 : (Cond.code yX11_alike cX11_alike 3 (some .boolean)) ∈ lw_tbl := tp_3 _ (List.mem_of_getElem? (i := 154) rfl)
theorem in_wf_alike : ∀ w ∈ wf_alike, w ∈ lw_tbl := by
  show ∀ w ∈ .code yX11_alike cX11_alike 3 (some .boolean) :: wsV RX11 160 RX11 yX11_hasDiagram wf_hasDiagram, w ∈ lw_tbl
  exact (List.forall_mem_cons.mpr ⟨tw_762, (List.forall_mem_append.mpr ⟨(List.forall_mem_cons.mpr ⟨tw_483, (List.forall_mem_cons.mpr ⟨tw_484, (List.forall_mem_cons.mpr ⟨tw_485, (List.forall_mem_cons.mpr ⟨tw_362, (fun _ h => absurd h List.not_mem_nil)⟩)⟩)⟩)⟩), in_wf_hasDiagram⟩)⟩)
theorem tw_763 : (Cond.methodLink RL 176 yX13_alike) ∈ lw_tbl := tp_11 _ (List.mem_of_getElem? (i := 191) rfl)
theorem tw_764 : (Cond.instanceMethod yX13_alike) ∈ lw_tbl := tp_11 _ (List.mem_of_getElem? (i := 192) rfl)
theorem tw_765 : (Cond.selects RX13 yX13_alike yX13_alike) ∈ lw_tbl := tp_11 _ (List.mem_of_getElem? (i := 193) rfl)
theorem tw_766 : (Cond.code yX13_alike cX13_alike 3 (some .boolean)) ∈ lw_tbl := tp_11 _ (List.mem_of_getElem? (i := 194) rfl)
theorem in_wf_M_alike : ∀ w ∈ wf_M_alike, w ∈ lw_tbl := by
  show ∀ w ∈ .code yX13_alike cX13_alike 3 (some .boolean) :: ([.fieldLink RX13 1 "KnotHouseModel" "thrown" "I"] ++ wsX130 ++ (wsV RX13 423 RX13 yX13_has wf_Mhas ++ wsV RX13 403 RX13 yX13_fails wf_Mfails)), w ∈ lw_tbl
  exact (List.forall_mem_cons.mpr ⟨tw_766, (List.forall_mem_append.mpr ⟨(List.forall_mem_append.mpr ⟨(List.forall_mem_cons.mpr ⟨tw_625, (fun _ h => absurd h List.not_mem_nil)⟩), in_wsX130⟩), (List.forall_mem_append.mpr ⟨(List.forall_mem_append.mpr ⟨(List.forall_mem_cons.mpr ⟨tw_721, (List.forall_mem_cons.mpr ⟨tw_722, (List.forall_mem_cons.mpr ⟨tw_723, (List.forall_mem_cons.mpr ⟨tw_333, (fun _ h => absurd h List.not_mem_nil)⟩)⟩)⟩)⟩), in_wf_Mhas⟩), (List.forall_mem_append.mpr ⟨(List.forall_mem_cons.mpr ⟨tw_638, (List.forall_mem_cons.mpr ⟨tw_639, (List.forall_mem_cons.mpr ⟨tw_640, (List.forall_mem_cons.mpr ⟨tw_333, (fun _ h => absurd h List.not_mem_nil)⟩)⟩)⟩)⟩), in_wf_Mfails⟩)⟩)⟩)⟩)
theorem tw_767 : (Cond.methodLink RL 177 yL_mirror) ∈ lw_tbl := tp_6 _ (List.mem_of_getElem? (i := 72) rfl)
theorem tw_768 : (Cond.static yL_mirror) ∈ lw_tbl := tp_6 _ (List.mem_of_getElem? (i := 73) rfl)
theorem tw_769 : (Cond.codeWith yL_mirror cL_mirror 4 (some .int) [(0, 9, 12, 33), (0, 9, 15, 13)]) ∈ lw_tbl := tp_6 _ (List.mem_of_getElem? (i := 74) rfl)
theorem in_wf_L_mirror : ∀ w ∈ wf_L_mirror, w ∈ lw_tbl := by
  show ∀ w ∈ .codeWith yL_mirror cL_mirror 4 (some .int) [(0, 9, 12, 33), (0, 9, 15, 13)] :: (.classLink RL 33 "java/lang/IndexOutOfBoundsException" :: wsV RL 42 RX11 yX11_mirror wf_mirror), w ∈ lw_tbl
  exact (List.forall_mem_cons.mpr ⟨tw_769, (List.forall_mem_cons.mpr ⟨tw_740, (List.forall_mem_append.mpr ⟨(List.forall_mem_cons.mpr ⟨tw_495, (List.forall_mem_cons.mpr ⟨tw_496, (List.forall_mem_cons.mpr ⟨tw_497, (List.forall_mem_cons.mpr ⟨tw_362, (fun _ h => absurd h List.not_mem_nil)⟩)⟩)⟩)⟩), in_wf_mirror⟩)⟩)⟩)
theorem tw_770 : (Cond.methodLink RL 179 yX13_mirror) ∈ lw_tbl := tp_11 _ (List.mem_of_getElem? (i := 198) rfl)
theorem tw_771 : (Cond.instanceMethod yX13_mirror) ∈ lw_tbl := tp_11 _ (List.mem_of_getElem? (i := 199) rfl)
theorem tw_772 : (Cond.selects RX13 yX13_mirror yX13_mirror) ∈ lw_tbl := tp_11 _ (List.mem_of_getElem? (i := 200) rfl)
theorem tw_773 : (Cond.code yX13_mirror cX13_mirror 3 (some .int)) ∈ lw_tbl := tp_11 _ (List.mem_of_getElem? (i := 201) rfl)
theorem in_wf_M_mirror : ∀ w ∈ wf_M_mirror, w ∈ lw_tbl := by
  show ∀ w ∈ .code yX13_mirror cX13_mirror 3 (some .int) :: ([.fieldLink RX13 1 "KnotHouseModel" "thrown" "I"] ++ wsX130 ++ (wsV RX13 423 RX13 yX13_has wf_Mhas ++ wsV RX13 403 RX13 yX13_fails wf_Mfails)), w ∈ lw_tbl
  exact (List.forall_mem_cons.mpr ⟨tw_773, (List.forall_mem_append.mpr ⟨(List.forall_mem_append.mpr ⟨(List.forall_mem_cons.mpr ⟨tw_625, (fun _ h => absurd h List.not_mem_nil)⟩), in_wsX130⟩), (List.forall_mem_append.mpr ⟨(List.forall_mem_append.mpr ⟨(List.forall_mem_cons.mpr ⟨tw_721, (List.forall_mem_cons.mpr ⟨tw_722, (List.forall_mem_cons.mpr ⟨tw_723, (List.forall_mem_cons.mpr ⟨tw_333, (fun _ h => absurd h List.not_mem_nil)⟩)⟩)⟩)⟩), in_wf_Mhas⟩), (List.forall_mem_append.mpr ⟨(List.forall_mem_cons.mpr ⟨tw_638, (List.forall_mem_cons.mpr ⟨tw_639, (List.forall_mem_cons.mpr ⟨tw_640, (List.forall_mem_cons.mpr ⟨tw_333, (fun _ h => absurd h List.not_mem_nil)⟩)⟩)⟩)⟩), in_wf_Mfails⟩)⟩)⟩)⟩)
theorem tw_774 : (Cond.methodLink RL 180 yL_reverse) ∈ lw_tbl := tp_6 _ (List.mem_of_getElem? (i := 90) rfl)
theorem tw_775 : (Cond.static yL_reverse) ∈ lw_tbl := tp_6 _ (List.mem_of_getElem? (i := 91) rfl)
theorem tw_776 : (Cond.codeWith yL_reverse cL_reverse 5 (some .int) [(0, 10, 13, 33), (0, 10, 17, 13)]) ∈ lw_tbl := tp_6 _ (List.mem_of_getElem? (i := 92) rfl)
theorem in_wf_L_reverse : ∀ w ∈ wf_L_reverse, w ∈ lw_tbl := by
  show ∀ w ∈ .codeWith yL_reverse cL_reverse 5 (some .int) [(0, 10, 13, 33), (0, 10, 17, 13)] :: (.classLink RL 33 "java/lang/IndexOutOfBoundsException" :: wsV RL 45 RX11 yX11_reverse wf_reverse), w ∈ lw_tbl
  exact (List.forall_mem_cons.mpr ⟨tw_776, (List.forall_mem_cons.mpr ⟨tw_740, (List.forall_mem_append.mpr ⟨(List.forall_mem_cons.mpr ⟨tw_499, (List.forall_mem_cons.mpr ⟨tw_500, (List.forall_mem_cons.mpr ⟨tw_501, (List.forall_mem_cons.mpr ⟨tw_362, (fun _ h => absurd h List.not_mem_nil)⟩)⟩)⟩)⟩), in_wf_reverse⟩)⟩)⟩)
theorem tw_777 : (Cond.methodLink RL 182 yX13_reverse) ∈ lw_tbl := tp_11 _ (List.mem_of_getElem? (i := 202) rfl)
theorem tw_778 : (Cond.instanceMethod yX13_reverse) ∈ lw_tbl := tp_11 _ (List.mem_of_getElem? (i := 203) rfl)
theorem tw_779 : (Cond.selects RX13 yX13_reverse yX13_reverse) ∈ lw_tbl := tp_11 _ (List.mem_of_getElem? (i := 204) rfl)
theorem tw_780 : (Cond.code yX13_reverse cX13_reverse 7 (some .int)) ∈ lw_tbl := tp_11 _ (List.mem_of_getElem? (i := 205) rfl)
theorem in_wf_M_reverse : ∀ w ∈ wf_M_reverse, w ∈ lw_tbl := by
  show ∀ w ∈ .code yX13_reverse cX13_reverse 7 (some .int) :: ([.fieldLink RX13 1 "KnotHouseModel" "thrown" "I"] ++ wsX130 ++ (wsV RX13 423 RX13 yX13_has wf_Mhas ++ wsV RX13 403 RX13 yX13_fails wf_Mfails)), w ∈ lw_tbl
  exact (List.forall_mem_cons.mpr ⟨tw_780, (List.forall_mem_append.mpr ⟨(List.forall_mem_append.mpr ⟨(List.forall_mem_cons.mpr ⟨tw_625, (fun _ h => absurd h List.not_mem_nil)⟩), in_wsX130⟩), (List.forall_mem_append.mpr ⟨(List.forall_mem_append.mpr ⟨(List.forall_mem_cons.mpr ⟨tw_721, (List.forall_mem_cons.mpr ⟨tw_722, (List.forall_mem_cons.mpr ⟨tw_723, (List.forall_mem_cons.mpr ⟨tw_333, (fun _ h => absurd h List.not_mem_nil)⟩)⟩)⟩)⟩), in_wf_Mhas⟩), (List.forall_mem_append.mpr ⟨(List.forall_mem_cons.mpr ⟨tw_638, (List.forall_mem_cons.mpr ⟨tw_639, (List.forall_mem_cons.mpr ⟨tw_640, (List.forall_mem_cons.mpr ⟨tw_333, (fun _ h => absurd h List.not_mem_nil)⟩)⟩)⟩)⟩), in_wf_Mfails⟩)⟩)⟩)⟩)
theorem tw_781 : (Cond.methodLink RL 183 yL_change) ∈ lw_tbl := tp_6 _ (List.mem_of_getElem? (i := 101) rfl)
theorem tw_782 : (Cond.static yL_change) ∈ lw_tbl := tp_6 _ (List.mem_of_getElem? (i := 102) rfl)
theorem tw_783 : (Cond.codeWith yL_change cL_change 5 (some .int) [(0, 10, 13, 33), (0, 10, 17, 13)]) ∈ lw_tbl := tp_6 _ (List.mem_of_getElem? (i := 103) rfl)
theorem in_wf_L_change : ∀ w ∈ wf_L_change, w ∈ lw_tbl := by
  show ∀ w ∈ .codeWith yL_change cL_change 5 (some .int) [(0, 10, 13, 33), (0, 10, 17, 13)] :: (.classLink RL 33 "java/lang/IndexOutOfBoundsException" :: wsV RL 48 RX11 yX11_change wf_change), w ∈ lw_tbl
  exact (List.forall_mem_cons.mpr ⟨tw_783, (List.forall_mem_cons.mpr ⟨tw_740, (List.forall_mem_append.mpr ⟨(List.forall_mem_cons.mpr ⟨tw_503, (List.forall_mem_cons.mpr ⟨tw_504, (List.forall_mem_cons.mpr ⟨tw_505, (List.forall_mem_cons.mpr ⟨tw_362, (fun _ h => absurd h List.not_mem_nil)⟩)⟩)⟩)⟩), in_wf_change⟩)⟩)⟩)
theorem tw_784 : (Cond.methodLink RL 185 yX13_change) ∈ lw_tbl := tp_11 _ (List.mem_of_getElem? (i := 210) rfl)
theorem tw_785 : (Cond.instanceMethod yX13_change) ∈ lw_tbl := tp_11 _ (List.mem_of_getElem? (i := 211) rfl)
theorem tw_786 : (Cond.selects RX13 yX13_change yX13_change) ∈ lw_tbl := tp_11 _ (List.mem_of_getElem? (i := 212) rfl)
theorem tw_787 : (Cond.code yX13_change cX13_change 3 (some .int)) ∈ lw_tbl := tp_11 _ (List.mem_of_getElem? (i := 213) rfl)
theorem in_wf_M_change : ∀ w ∈ wf_M_change, w ∈ lw_tbl := by
  show ∀ w ∈ .code yX13_change cX13_change 3 (some .int) :: ([.fieldLink RX13 1 "KnotHouseModel" "thrown" "I"] ++ wsX130 ++ (wsV RX13 423 RX13 yX13_has wf_Mhas ++ wsV RX13 403 RX13 yX13_fails wf_Mfails)), w ∈ lw_tbl
  exact (List.forall_mem_cons.mpr ⟨tw_787, (List.forall_mem_append.mpr ⟨(List.forall_mem_append.mpr ⟨(List.forall_mem_cons.mpr ⟨tw_625, (fun _ h => absurd h List.not_mem_nil)⟩), in_wsX130⟩), (List.forall_mem_append.mpr ⟨(List.forall_mem_append.mpr ⟨(List.forall_mem_cons.mpr ⟨tw_721, (List.forall_mem_cons.mpr ⟨tw_722, (List.forall_mem_cons.mpr ⟨tw_723, (List.forall_mem_cons.mpr ⟨tw_333, (fun _ h => absurd h List.not_mem_nil)⟩)⟩)⟩)⟩), in_wf_Mhas⟩), (List.forall_mem_append.mpr ⟨(List.forall_mem_cons.mpr ⟨tw_638, (List.forall_mem_cons.mpr ⟨tw_639, (List.forall_mem_cons.mpr ⟨tw_640, (List.forall_mem_cons.mpr ⟨tw_333, (fun _ h => absurd h List.not_mem_nil)⟩)⟩)⟩)⟩), in_wf_Mfails⟩)⟩)⟩)⟩)
theorem tw_788 : (Cond.methodLink RL 186 yL_smooth) ∈ lw_tbl := tp_6 _ (List.mem_of_getElem? (i := 113) rfl)
theorem tw_789 : (Cond.static yL_smooth) ∈ lw_tbl := tp_6 _ (List.mem_of_getElem? (i := 114) rfl)
theorem tw_790 : (Cond.codeWith yL_smooth cL_smooth 5 (some .int) [(0, 10, 13, 33), (0, 10, 17, 54), (0, 10, 21, 13)]) ∈ lw_tbl := tp_6 _ (List.mem_of_getElem? (i := 115) rfl)
theorem in_wf_L_smooth : ∀ w ∈ wf_L_smooth, w ∈ lw_tbl := by
  show ∀ w ∈ .codeWith yL_smooth cL_smooth 5 (some .int) [(0, 10, 13, 33), (0, 10, 17, 54), (0, 10, 21, 13)] :: (.classLink RL 33 "java/lang/IndexOutOfBoundsException" :: wsV RL 51 RX11 yX11_smooth wf_smooth), w ∈ lw_tbl
  exact (List.forall_mem_cons.mpr ⟨tw_790, (List.forall_mem_cons.mpr ⟨tw_740, (List.forall_mem_append.mpr ⟨(List.forall_mem_cons.mpr ⟨tw_507, (List.forall_mem_cons.mpr ⟨tw_508, (List.forall_mem_cons.mpr ⟨tw_509, (List.forall_mem_cons.mpr ⟨tw_362, (fun _ h => absurd h List.not_mem_nil)⟩)⟩)⟩)⟩), in_wf_smooth⟩)⟩)⟩)
theorem tw_791 : (Cond.methodLink RL 188 yX13_smooth) ∈ lw_tbl := tp_11 _ (List.mem_of_getElem? (i := 217) rfl)
theorem tw_792 : (Cond.instanceMethod yX13_smooth) ∈ lw_tbl := tp_11 _ (List.mem_of_getElem? (i := 218) rfl)
theorem tw_793 : (Cond.selects RX13 yX13_smooth yX13_smooth) ∈ lw_tbl := tp_11 _ (List.mem_of_getElem? (i := 219) rfl)
theorem tw_794 : (Cond.code yX13_smooth cX13_smooth 4 (some .int)) ∈ lw_tbl := tp_11 _ (List.mem_of_getElem? (i := 220) rfl)
theorem in_wf_M_smooth : ∀ w ∈ wf_M_smooth, w ∈ lw_tbl := by
  show ∀ w ∈ .code yX13_smooth cX13_smooth 4 (some .int) :: ([.fieldLink RX13 1 "KnotHouseModel" "thrown" "I"] ++ wsX130 ++ (wsV RX13 423 RX13 yX13_has wf_Mhas ++ wsV RX13 403 RX13 yX13_fails wf_Mfails)), w ∈ lw_tbl
  exact (List.forall_mem_cons.mpr ⟨tw_794, (List.forall_mem_append.mpr ⟨(List.forall_mem_append.mpr ⟨(List.forall_mem_cons.mpr ⟨tw_625, (fun _ h => absurd h List.not_mem_nil)⟩), in_wsX130⟩), (List.forall_mem_append.mpr ⟨(List.forall_mem_append.mpr ⟨(List.forall_mem_cons.mpr ⟨tw_721, (List.forall_mem_cons.mpr ⟨tw_722, (List.forall_mem_cons.mpr ⟨tw_723, (List.forall_mem_cons.mpr ⟨tw_333, (fun _ h => absurd h List.not_mem_nil)⟩)⟩)⟩)⟩), in_wf_Mhas⟩), (List.forall_mem_append.mpr ⟨(List.forall_mem_cons.mpr ⟨tw_638, (List.forall_mem_cons.mpr ⟨tw_639, (List.forall_mem_cons.mpr ⟨tw_640, (List.forall_mem_cons.mpr ⟨tw_333, (fun _ h => absurd h List.not_mem_nil)⟩)⟩)⟩)⟩), in_wf_Mfails⟩)⟩)⟩)⟩)
theorem tw_795 : (Cond.methodLink RL 189 yL_apart) ∈ lw_tbl := tp_6 _ (List.mem_of_getElem? (i := 161) rfl)
theorem tw_796 : (Cond.static yL_apart) ∈ lw_tbl := tp_6 _ (List.mem_of_getElem? (i := 162) rfl)
theorem tw_797 : (Cond.codeWith yL_apart cL_apart 5 (some .int) [(0, 10, 13, 33), (0, 10, 17, 54), (0, 10, 21, 13)]) ∈ lw_tbl := tp_6 _ (List.mem_of_getElem? (i := 163) rfl)
theorem in_wf_L_apart : ∀ w ∈ wf_L_apart, w ∈ lw_tbl := by
  show ∀ w ∈ .codeWith yL_apart cL_apart 5 (some .int) [(0, 10, 13, 33), (0, 10, 17, 54), (0, 10, 21, 13)] :: (.classLink RL 33 "java/lang/IndexOutOfBoundsException" :: wsV RL 56 RX11 yX11_apart wf_apart), w ∈ lw_tbl
  exact (List.forall_mem_cons.mpr ⟨tw_797, (List.forall_mem_cons.mpr ⟨tw_740, (List.forall_mem_append.mpr ⟨(List.forall_mem_cons.mpr ⟨tw_511, (List.forall_mem_cons.mpr ⟨tw_512, (List.forall_mem_cons.mpr ⟨tw_513, (List.forall_mem_cons.mpr ⟨tw_362, (fun _ h => absurd h List.not_mem_nil)⟩)⟩)⟩)⟩), in_wf_apart⟩)⟩)⟩)
theorem tw_798 : (Cond.methodLink RL 191 yX13_apart) ∈ lw_tbl := tp_11 _ (List.mem_of_getElem? (i := 224) rfl)
theorem tw_799 : (Cond.instanceMethod yX13_apart) ∈ lw_tbl := tp_11 _ (List.mem_of_getElem? (i := 225) rfl)
theorem tw_800 : (Cond.selects RX13 yX13_apart yX13_apart) ∈ lw_tbl := tp_11 _ (List.mem_of_getElem? (i := 226) rfl)
theorem tw_801 : (Cond.code yX13_apart cX13_apart 3 (some .int)) ∈ lw_tbl := tp_11 _ (List.mem_of_getElem? (i := 227) rfl)
theorem in_wf_M_apart : ∀ w ∈ wf_M_apart, w ∈ lw_tbl := by
  show ∀ w ∈ .code yX13_apart cX13_apart 3 (some .int) :: ([.fieldLink RX13 1 "KnotHouseModel" "thrown" "I"] ++ wsX130 ++ (wsV RX13 423 RX13 yX13_has wf_Mhas ++ wsV RX13 403 RX13 yX13_fails wf_Mfails)), w ∈ lw_tbl
  exact (List.forall_mem_cons.mpr ⟨tw_801, (List.forall_mem_append.mpr ⟨(List.forall_mem_append.mpr ⟨(List.forall_mem_cons.mpr ⟨tw_625, (fun _ h => absurd h List.not_mem_nil)⟩), in_wsX130⟩), (List.forall_mem_append.mpr ⟨(List.forall_mem_append.mpr ⟨(List.forall_mem_cons.mpr ⟨tw_721, (List.forall_mem_cons.mpr ⟨tw_722, (List.forall_mem_cons.mpr ⟨tw_723, (List.forall_mem_cons.mpr ⟨tw_333, (fun _ h => absurd h List.not_mem_nil)⟩)⟩)⟩)⟩), in_wf_Mhas⟩), (List.forall_mem_append.mpr ⟨(List.forall_mem_cons.mpr ⟨tw_638, (List.forall_mem_cons.mpr ⟨tw_639, (List.forall_mem_cons.mpr ⟨tw_640, (List.forall_mem_cons.mpr ⟨tw_333, (fun _ h => absurd h List.not_mem_nil)⟩)⟩)⟩)⟩), in_wf_Mfails⟩)⟩)⟩)⟩)
theorem tw_802 : (Cond.methodLink RL 192 yL_join) ∈ lw_tbl := tp_6 _ (List.mem_of_getElem? (i := 178) rfl)
theorem tw_803 : (Cond.static yL_join) ∈ lw_tbl := tp_6 _ (List.mem_of_getElem? (i := 179) rfl)
theorem tw_804 : (Cond.codeWith yL_join cL_join 7 (some .int) [(0, 14, 17, 33), (0, 14, 21, 54), (0, 14, 25, 13)]) ∈ lw_tbl := tp_6 _ (List.mem_of_getElem? (i := 180) rfl)
theorem in_wf_L_join : ∀ w ∈ wf_L_join, w ∈ lw_tbl := by
  show ∀ w ∈ .codeWith yL_join cL_join 7 (some .int) [(0, 14, 17, 33), (0, 14, 21, 54), (0, 14, 25, 13)] :: (.classLink RL 33 "java/lang/IndexOutOfBoundsException" :: wsV RL 59 RX11 yX11_join wf_join), w ∈ lw_tbl
  exact (List.forall_mem_cons.mpr ⟨tw_804, (List.forall_mem_cons.mpr ⟨tw_740, (List.forall_mem_append.mpr ⟨(List.forall_mem_cons.mpr ⟨tw_515, (List.forall_mem_cons.mpr ⟨tw_516, (List.forall_mem_cons.mpr ⟨tw_517, (List.forall_mem_cons.mpr ⟨tw_362, (fun _ h => absurd h List.not_mem_nil)⟩)⟩)⟩)⟩), in_wf_join⟩)⟩)⟩)
theorem tw_805 : (Cond.methodLink RL 195 yX13_join) ∈ lw_tbl := tp_11 _ (List.mem_of_getElem? (i := 232) rfl)
theorem tw_806 : (Cond.instanceMethod yX13_join) ∈ lw_tbl := tp_11 _ (List.mem_of_getElem? (i := 233) rfl)
theorem tw_807 : (Cond.selects RX13 yX13_join yX13_join) ∈ lw_tbl := tp_11 _ (List.mem_of_getElem? (i := 234) rfl)
theorem tw_808 : (Cond.code yX13_join cX13_join 9 (some .int)) ∈ lw_tbl := tp_11 _ (List.mem_of_getElem? (i := 235) rfl)
theorem in_wf_M_join : ∀ w ∈ wf_M_join, w ∈ lw_tbl := by
  show ∀ w ∈ .code yX13_join cX13_join 9 (some .int) :: ([.fieldLink RX13 1 "KnotHouseModel" "thrown" "I"] ++ wsX130 ++ (wsV RX13 423 RX13 yX13_has wf_Mhas ++ wsV RX13 403 RX13 yX13_fails wf_Mfails)), w ∈ lw_tbl
  exact (List.forall_mem_cons.mpr ⟨tw_808, (List.forall_mem_append.mpr ⟨(List.forall_mem_append.mpr ⟨(List.forall_mem_cons.mpr ⟨tw_625, (fun _ h => absurd h List.not_mem_nil)⟩), in_wsX130⟩), (List.forall_mem_append.mpr ⟨(List.forall_mem_append.mpr ⟨(List.forall_mem_cons.mpr ⟨tw_721, (List.forall_mem_cons.mpr ⟨tw_722, (List.forall_mem_cons.mpr ⟨tw_723, (List.forall_mem_cons.mpr ⟨tw_333, (fun _ h => absurd h List.not_mem_nil)⟩)⟩)⟩)⟩), in_wf_Mhas⟩), (List.forall_mem_append.mpr ⟨(List.forall_mem_cons.mpr ⟨tw_638, (List.forall_mem_cons.mpr ⟨tw_639, (List.forall_mem_cons.mpr ⟨tw_640, (List.forall_mem_cons.mpr ⟨tw_333, (fun _ h => absurd h List.not_mem_nil)⟩)⟩)⟩)⟩), in_wf_Mfails⟩)⟩)⟩)⟩)
theorem tw_809 : (Cond.methodLink RL 196 yL_moves) ∈ lw_tbl := tp_6 _ (List.mem_of_getElem? (i := 186) rfl)
theorem tw_810 : (Cond.static yL_moves) ∈ lw_tbl := tp_6 _ (List.mem_of_getElem? (i := 187) rfl)
theorem tw_811 : (Cond.codeWith yL_moves cL_moves 5 (some .int) [(0, 10, 13, 33), (0, 10, 17, 19)]) ∈ lw_tbl := tp_6 _ (List.mem_of_getElem? (i := 188) rfl)
theorem in_wf_L_moves : ∀ w ∈ wf_L_moves, w ∈ lw_tbl := by
  show ∀ w ∈ .codeWith yL_moves cL_moves 5 (some .int) [(0, 10, 13, 33), (0, 10, 17, 19)] :: (.classLink RL 33 "java/lang/IndexOutOfBoundsException" :: wsV RL 63 RX11 yX11_moves wf_moves), w ∈ lw_tbl
  exact (List.forall_mem_cons.mpr ⟨tw_811, (List.forall_mem_cons.mpr ⟨tw_740, (List.forall_mem_append.mpr ⟨(List.forall_mem_cons.mpr ⟨tw_519, (List.forall_mem_cons.mpr ⟨tw_520, (List.forall_mem_cons.mpr ⟨tw_521, (List.forall_mem_cons.mpr ⟨tw_362, (fun _ h => absurd h List.not_mem_nil)⟩)⟩)⟩)⟩), in_wf_moves⟩)⟩)⟩)
theorem tw_812 : (Cond.methodLink RL 198 yX13_moves) ∈ lw_tbl := tp_11 _ (List.mem_of_getElem? (i := 236) rfl)
theorem tw_813 : (Cond.instanceMethod yX13_moves) ∈ lw_tbl := tp_11 _ (List.mem_of_getElem? (i := 237) rfl)
theorem tw_814 : (Cond.selects RX13 yX13_moves yX13_moves) ∈ lw_tbl := tp_11 _ (List.mem_of_getElem? (i := 238) rfl)
theorem tw_815 : (Cond.code yX13_moves cX13_moves 3 (some .int)) ∈ lw_tbl := tp_11 _ (List.mem_of_getElem? (i := 239) rfl)
theorem in_wf_M_moves : ∀ w ∈ wf_M_moves, w ∈ lw_tbl := by
  show ∀ w ∈ .code yX13_moves cX13_moves 3 (some .int) :: ([.fieldLink RX13 1 "KnotHouseModel" "thrown" "I"] ++ wsX130 ++ (wsV RX13 423 RX13 yX13_has wf_Mhas ++ wsV RX13 403 RX13 yX13_fails wf_Mfails)), w ∈ lw_tbl
  exact (List.forall_mem_cons.mpr ⟨tw_815, (List.forall_mem_append.mpr ⟨(List.forall_mem_append.mpr ⟨(List.forall_mem_cons.mpr ⟨tw_625, (fun _ h => absurd h List.not_mem_nil)⟩), in_wsX130⟩), (List.forall_mem_append.mpr ⟨(List.forall_mem_append.mpr ⟨(List.forall_mem_cons.mpr ⟨tw_721, (List.forall_mem_cons.mpr ⟨tw_722, (List.forall_mem_cons.mpr ⟨tw_723, (List.forall_mem_cons.mpr ⟨tw_333, (fun _ h => absurd h List.not_mem_nil)⟩)⟩)⟩)⟩), in_wf_Mhas⟩), (List.forall_mem_append.mpr ⟨(List.forall_mem_cons.mpr ⟨tw_638, (List.forall_mem_cons.mpr ⟨tw_639, (List.forall_mem_cons.mpr ⟨tw_640, (List.forall_mem_cons.mpr ⟨tw_333, (fun _ h => absurd h List.not_mem_nil)⟩)⟩)⟩)⟩), in_wf_Mfails⟩)⟩)⟩)⟩)
theorem tw_816 : (Cond.methodLink RL 199 yL_moved) ∈ lw_tbl := tp_7 _ (List.mem_of_getElem? (i := 38) rfl)
theorem tw_817 : (Cond.static yL_moved) ∈ lw_tbl := tp_7 _ (List.mem_of_getElem? (i := 39) rfl)
theorem tw_818 : (Cond.codeWith yL_moved cL_moved 4 (some .int) [(0, 9, 12, 33), (0, 9, 15, 13)]) ∈ lw_tbl := tp_7 _ (List.mem_of_getElem? (i := 40) rfl)
theorem in_wf_L_moved : ∀ w ∈ wf_L_moved, w ∈ lw_tbl := by
  show ∀ w ∈ .codeWith yL_moved cL_moved 4 (some .int) [(0, 9, 12, 33), (0, 9, 15, 13)] :: (.classLink RL 33 "java/lang/IndexOutOfBoundsException" :: wsV RL 66 RX11 yX11_moved wf_moved), w ∈ lw_tbl
  exact (List.forall_mem_cons.mpr ⟨tw_818, (List.forall_mem_cons.mpr ⟨tw_740, (List.forall_mem_append.mpr ⟨(List.forall_mem_cons.mpr ⟨tw_523, (List.forall_mem_cons.mpr ⟨tw_524, (List.forall_mem_cons.mpr ⟨tw_525, (List.forall_mem_cons.mpr ⟨tw_362, (fun _ h => absurd h List.not_mem_nil)⟩)⟩)⟩)⟩), in_wf_moved⟩)⟩)⟩)
theorem tw_819 : (Cond.methodLink RL 201 yX13_moved) ∈ lw_tbl := tp_12 _ (List.mem_of_getElem? (i := 70) rfl)
theorem tw_820 : (Cond.instanceMethod yX13_moved) ∈ lw_tbl := tp_12 _ (List.mem_of_getElem? (i := 71) rfl)
theorem tw_821 : (Cond.selects RX13 yX13_moved yX13_moved) ∈ lw_tbl := tp_12 _ (List.mem_of_getElem? (i := 72) rfl)
theorem tw_822 : (Cond.code yX13_moved cX13_moved 2 (some .int)) ∈ lw_tbl := tp_12 _ (List.mem_of_getElem? (i := 73) rfl)
theorem tw_823 : (Cond.fieldLink RX13 485 "KnotHouseModel" "listed" "I") ∈ lw_tbl := tp_9 _ (List.mem_of_getElem? (i := 215) rfl)
theorem in_wf_M_moved : ∀ w ∈ wf_M_moved, w ∈ lw_tbl := by
  show ∀ w ∈ .code yX13_moved cX13_moved 2 (some .int) :: ([.fieldLink RX13 1 "KnotHouseModel" "thrown" "I", .fieldLink RX13 485 "KnotHouseModel" "listed" "I"] ++ wsX130 ++ wsV RX13 403 RX13 yX13_fails wf_Mfails), w ∈ lw_tbl
  exact (List.forall_mem_cons.mpr ⟨tw_822, (List.forall_mem_append.mpr ⟨(List.forall_mem_append.mpr ⟨(List.forall_mem_cons.mpr ⟨tw_625, (List.forall_mem_cons.mpr ⟨tw_823, (fun _ h => absurd h List.not_mem_nil)⟩)⟩), in_wsX130⟩), (List.forall_mem_append.mpr ⟨(List.forall_mem_cons.mpr ⟨tw_638, (List.forall_mem_cons.mpr ⟨tw_639, (List.forall_mem_cons.mpr ⟨tw_640, (List.forall_mem_cons.mpr ⟨tw_333, (fun _ h => absurd h List.not_mem_nil)⟩)⟩)⟩)⟩), in_wf_Mfails⟩)⟩)⟩)
theorem tw_824 : (Cond.methodLink RL 202 yL_simplify) ∈ lw_tbl := tp_7 _ (List.mem_of_getElem? (i := 50) rfl)
theorem tw_825 : (Cond.static yL_simplify) ∈ lw_tbl := tp_7 _ (List.mem_of_getElem? (i := 51) rfl)
theorem tw_826 : (Cond.codeWith yL_simplify cL_simplify 4 (some .int) [(0, 9, 12, 33), (0, 9, 15, 13)]) ∈ lw_tbl := tp_7 _ (List.mem_of_getElem? (i := 52) rfl)
theorem in_wf_L_simplify : ∀ w ∈ wf_L_simplify, w ∈ lw_tbl := by
  show ∀ w ∈ .codeWith yL_simplify cL_simplify 4 (some .int) [(0, 9, 12, 33), (0, 9, 15, 13)] :: (.classLink RL 33 "java/lang/IndexOutOfBoundsException" :: wsV RL 69 RX11 yX11_simplify wf_simplify), w ∈ lw_tbl
  exact (List.forall_mem_cons.mpr ⟨tw_826, (List.forall_mem_cons.mpr ⟨tw_740, (List.forall_mem_append.mpr ⟨(List.forall_mem_cons.mpr ⟨tw_532, (List.forall_mem_cons.mpr ⟨tw_533, (List.forall_mem_cons.mpr ⟨tw_534, (List.forall_mem_cons.mpr ⟨tw_362, (fun _ h => absurd h List.not_mem_nil)⟩)⟩)⟩)⟩), in_wf_simplify⟩)⟩)⟩)
theorem tw_827 : (Cond.methodLink RL 204 yX13_simplify) ∈ lw_tbl := tp_12 _ (List.mem_of_getElem? (i := 78) rfl)
theorem tw_828 : (Cond.instanceMethod yX13_simplify) ∈ lw_tbl := tp_12 _ (List.mem_of_getElem? (i := 79) rfl)
theorem tw_829 : (Cond.selects RX13 yX13_simplify yX13_simplify) ∈ lw_tbl := tp_12 _ (List.mem_of_getElem? (i := 80) rfl)
theorem tw_830 : (Cond.code yX13_simplify cX13_simplify 5 (some .int)) ∈ lw_tbl := tp_12 _ (List.mem_of_getElem? (i := 81) rfl)
theorem in_wf_M_simplify : ∀ w ∈ wf_M_simplify, w ∈ lw_tbl := by
  show ∀ w ∈ .code yX13_simplify cX13_simplify 5 (some .int) :: ([.fieldLink RX13 1 "KnotHouseModel" "thrown" "I"] ++ wsX130 ++ (wsV RX13 423 RX13 yX13_has wf_Mhas ++ wsV RX13 403 RX13 yX13_fails wf_Mfails)), w ∈ lw_tbl
  exact (List.forall_mem_cons.mpr ⟨tw_830, (List.forall_mem_append.mpr ⟨(List.forall_mem_append.mpr ⟨(List.forall_mem_cons.mpr ⟨tw_625, (fun _ h => absurd h List.not_mem_nil)⟩), in_wsX130⟩), (List.forall_mem_append.mpr ⟨(List.forall_mem_append.mpr ⟨(List.forall_mem_cons.mpr ⟨tw_721, (List.forall_mem_cons.mpr ⟨tw_722, (List.forall_mem_cons.mpr ⟨tw_723, (List.forall_mem_cons.mpr ⟨tw_333, (fun _ h => absurd h List.not_mem_nil)⟩)⟩)⟩)⟩), in_wf_Mhas⟩), (List.forall_mem_append.mpr ⟨(List.forall_mem_cons.mpr ⟨tw_638, (List.forall_mem_cons.mpr ⟨tw_639, (List.forall_mem_cons.mpr ⟨tw_640, (List.forall_mem_cons.mpr ⟨tw_333, (fun _ h => absurd h List.not_mem_nil)⟩)⟩)⟩)⟩), in_wf_Mfails⟩)⟩)⟩)⟩)
theorem tw_831 : (Cond.methodLink RL 205 yL_way) ∈ lw_tbl := tp_7 _ (List.mem_of_getElem? (i := 62) rfl)
theorem tw_832 : (Cond.static yL_way) ∈ lw_tbl := tp_7 _ (List.mem_of_getElem? (i := 63) rfl)
theorem tw_833 : (Cond.codeWith yL_way cL_way 5 (some .int) [(0, 10, 13, 33), (0, 10, 17, 54)]) ∈ lw_tbl := tp_7 _ (List.mem_of_getElem? (i := 64) rfl)
theorem in_wf_L_way : ∀ w ∈ wf_L_way, w ∈ lw_tbl := by
  show ∀ w ∈ .codeWith yL_way cL_way 5 (some .int) [(0, 10, 13, 33), (0, 10, 17, 54)] :: (.classLink RL 33 "java/lang/IndexOutOfBoundsException" :: wsV RL 72 RX11 yX11_way wf_way), w ∈ lw_tbl
  exact (List.forall_mem_cons.mpr ⟨tw_833, (List.forall_mem_cons.mpr ⟨tw_740, (List.forall_mem_append.mpr ⟨(List.forall_mem_cons.mpr ⟨tw_536, (List.forall_mem_cons.mpr ⟨tw_537, (List.forall_mem_cons.mpr ⟨tw_538, (List.forall_mem_cons.mpr ⟨tw_362, (fun _ h => absurd h List.not_mem_nil)⟩)⟩)⟩)⟩), in_wf_way⟩)⟩)⟩)
theorem tw_834 : (Cond.methodLink RL 207 yX13_way) ∈ lw_tbl := tp_12 _ (List.mem_of_getElem? (i := 82) rfl)
theorem tw_835 : (Cond.instanceMethod yX13_way) ∈ lw_tbl := tp_12 _ (List.mem_of_getElem? (i := 83) rfl)
theorem tw_836 : (Cond.selects RX13 yX13_way yX13_way) ∈ lw_tbl := tp_12 _ (List.mem_of_getElem? (i := 84) rfl)
theorem tw_837 : (Cond.code yX13_way cX13_way 7 (some .int)) ∈ lw_tbl := tp_12 _ (List.mem_of_getElem? (i := 85) rfl)
theorem in_wf_M_way : ∀ w ∈ wf_M_way, w ∈ lw_tbl := by
  show ∀ w ∈ .code yX13_way cX13_way 7 (some .int) :: ([.fieldLink RX13 1 "KnotHouseModel" "thrown" "I"] ++ wsX130 ++ (wsV RX13 423 RX13 yX13_has wf_Mhas ++ wsV RX13 403 RX13 yX13_fails wf_Mfails)), w ∈ lw_tbl
  exact (List.forall_mem_cons.mpr ⟨tw_837, (List.forall_mem_append.mpr ⟨(List.forall_mem_append.mpr ⟨(List.forall_mem_cons.mpr ⟨tw_625, (fun _ h => absurd h List.not_mem_nil)⟩), in_wsX130⟩), (List.forall_mem_append.mpr ⟨(List.forall_mem_append.mpr ⟨(List.forall_mem_cons.mpr ⟨tw_721, (List.forall_mem_cons.mpr ⟨tw_722, (List.forall_mem_cons.mpr ⟨tw_723, (List.forall_mem_cons.mpr ⟨tw_333, (fun _ h => absurd h List.not_mem_nil)⟩)⟩)⟩)⟩), in_wf_Mhas⟩), (List.forall_mem_append.mpr ⟨(List.forall_mem_cons.mpr ⟨tw_638, (List.forall_mem_cons.mpr ⟨tw_639, (List.forall_mem_cons.mpr ⟨tw_640, (List.forall_mem_cons.mpr ⟨tw_333, (fun _ h => absurd h List.not_mem_nil)⟩)⟩)⟩)⟩), in_wf_Mfails⟩)⟩)⟩)⟩)
theorem tw_838 : (Cond.methodLink RL 208 yL_summands) ∈ lw_tbl := tp_7 _ (List.mem_of_getElem? (i := 79) rfl)
theorem tw_839 : (Cond.static yL_summands) ∈ lw_tbl := tp_7 _ (List.mem_of_getElem? (i := 80) rfl)
theorem tw_840 : (Cond.codeWith yL_summands cL_summands 4 (some .int) [(0, 9, 12, 33)]) ∈ lw_tbl := tp_7 _ (List.mem_of_getElem? (i := 81) rfl)
theorem in_wf_L_summands : ∀ w ∈ wf_L_summands, w ∈ lw_tbl := by
  show ∀ w ∈ .codeWith yL_summands cL_summands 4 (some .int) [(0, 9, 12, 33)] :: (.classLink RL 33 "java/lang/IndexOutOfBoundsException" :: wsV RL 75 RX11 yX11_summands wf_summands), w ∈ lw_tbl
  exact (List.forall_mem_cons.mpr ⟨tw_840, (List.forall_mem_cons.mpr ⟨tw_740, (List.forall_mem_append.mpr ⟨(List.forall_mem_cons.mpr ⟨tw_540, (List.forall_mem_cons.mpr ⟨tw_541, (List.forall_mem_cons.mpr ⟨tw_542, (List.forall_mem_cons.mpr ⟨tw_362, (fun _ h => absurd h List.not_mem_nil)⟩)⟩)⟩)⟩), in_wf_summands⟩)⟩)⟩)
theorem tw_841 : (Cond.methodLink RL 210 yX13_summands) ∈ lw_tbl := tp_12 _ (List.mem_of_getElem? (i := 87) rfl)
theorem tw_842 : (Cond.instanceMethod yX13_summands) ∈ lw_tbl := tp_12 _ (List.mem_of_getElem? (i := 88) rfl)
theorem tw_843 : (Cond.selects RX13 yX13_summands yX13_summands) ∈ lw_tbl := tp_12 _ (List.mem_of_getElem? (i := 89) rfl)
theorem tw_844 : (Cond.code yX13_summands cX13_summands 7 (some .int)) ∈ lw_tbl := tp_12 _ (List.mem_of_getElem? (i := 90) rfl)
theorem in_wf_M_summands : ∀ w ∈ wf_M_summands, w ∈ lw_tbl := by
  show ∀ w ∈ .code yX13_summands cX13_summands 7 (some .int) :: ([.fieldLink RX13 1 "KnotHouseModel" "thrown" "I"] ++ wsX130 ++ (wsV RX13 423 RX13 yX13_has wf_Mhas ++ wsV RX13 403 RX13 yX13_fails wf_Mfails)), w ∈ lw_tbl
  exact (List.forall_mem_cons.mpr ⟨tw_844, (List.forall_mem_append.mpr ⟨(List.forall_mem_append.mpr ⟨(List.forall_mem_cons.mpr ⟨tw_625, (fun _ h => absurd h List.not_mem_nil)⟩), in_wsX130⟩), (List.forall_mem_append.mpr ⟨(List.forall_mem_append.mpr ⟨(List.forall_mem_cons.mpr ⟨tw_721, (List.forall_mem_cons.mpr ⟨tw_722, (List.forall_mem_cons.mpr ⟨tw_723, (List.forall_mem_cons.mpr ⟨tw_333, (fun _ h => absurd h List.not_mem_nil)⟩)⟩)⟩)⟩), in_wf_Mhas⟩), (List.forall_mem_append.mpr ⟨(List.forall_mem_cons.mpr ⟨tw_638, (List.forall_mem_cons.mpr ⟨tw_639, (List.forall_mem_cons.mpr ⟨tw_640, (List.forall_mem_cons.mpr ⟨tw_333, (fun _ h => absurd h List.not_mem_nil)⟩)⟩)⟩)⟩), in_wf_Mfails⟩)⟩)⟩)⟩)
theorem tw_845 : (Cond.methodLink RL 211 yL_summand) ∈ lw_tbl := tp_7 _ (List.mem_of_getElem? (i := 97) rfl)
theorem tw_846 : (Cond.static yL_summand) ∈ lw_tbl := tp_7 _ (List.mem_of_getElem? (i := 98) rfl)
theorem tw_847 : (Cond.codeWith yL_summand cL_summand 4 (some .int) [(0, 9, 12, 33), (0, 9, 15, 13)]) ∈ lw_tbl := tp_7 _ (List.mem_of_getElem? (i := 99) rfl)
theorem in_wf_L_summand : ∀ w ∈ wf_L_summand, w ∈ lw_tbl := by
  show ∀ w ∈ .codeWith yL_summand cL_summand 4 (some .int) [(0, 9, 12, 33), (0, 9, 15, 13)] :: (.classLink RL 33 "java/lang/IndexOutOfBoundsException" :: wsV RL 78 RX11 yX11_summand wf_summand), w ∈ lw_tbl
  exact (List.forall_mem_cons.mpr ⟨tw_847, (List.forall_mem_cons.mpr ⟨tw_740, (List.forall_mem_append.mpr ⟨(List.forall_mem_cons.mpr ⟨tw_544, (List.forall_mem_cons.mpr ⟨tw_545, (List.forall_mem_cons.mpr ⟨tw_546, (List.forall_mem_cons.mpr ⟨tw_362, (fun _ h => absurd h List.not_mem_nil)⟩)⟩)⟩)⟩), in_wf_summand⟩)⟩)⟩)
theorem tw_848 : (Cond.methodLink RL 213 yX13_summand) ∈ lw_tbl := tp_12 _ (List.mem_of_getElem? (i := 103) rfl)
theorem tw_849 : (Cond.instanceMethod yX13_summand) ∈ lw_tbl := tp_12 _ (List.mem_of_getElem? (i := 104) rfl)
theorem tw_850 : (Cond.selects RX13 yX13_summand yX13_summand) ∈ lw_tbl := tp_12 _ (List.mem_of_getElem? (i := 105) rfl)
theorem tw_851 : (Cond.code yX13_summand cX13_summand 2 (some .int)) ∈ lw_tbl := tp_12 _ (List.mem_of_getElem? (i := 106) rfl)
theorem tw_852 : (Cond.fieldLink RX13 553 "KnotHouseModel" "summandCount" "I") ∈ lw_tbl := tp_9 _ (List.mem_of_getElem? (i := 229) rfl)
theorem in_wf_M_summand : ∀ w ∈ wf_M_summand, w ∈ lw_tbl := by
  show ∀ w ∈ .code yX13_summand cX13_summand 2 (some .int) :: ([.fieldLink RX13 1 "KnotHouseModel" "thrown" "I", .fieldLink RX13 553 "KnotHouseModel" "summandCount" "I"] ++ wsX130 ++ wsV RX13 403 RX13 yX13_fails wf_Mfails), w ∈ lw_tbl
  exact (List.forall_mem_cons.mpr ⟨tw_851, (List.forall_mem_append.mpr ⟨(List.forall_mem_append.mpr ⟨(List.forall_mem_cons.mpr ⟨tw_625, (List.forall_mem_cons.mpr ⟨tw_852, (fun _ h => absurd h List.not_mem_nil)⟩)⟩), in_wsX130⟩), (List.forall_mem_append.mpr ⟨(List.forall_mem_cons.mpr ⟨tw_638, (List.forall_mem_cons.mpr ⟨tw_639, (List.forall_mem_cons.mpr ⟨tw_640, (List.forall_mem_cons.mpr ⟨tw_333, (fun _ h => absurd h List.not_mem_nil)⟩)⟩)⟩)⟩), in_wf_Mfails⟩)⟩)⟩)
theorem tw_853 : (Cond.methodLink RL 214 yL_conway) ∈ lw_tbl := tp_7 _ (List.mem_of_getElem? (i := 104) rfl)
theorem tw_854 : (Cond.static yL_conway) ∈ lw_tbl := tp_7 _ (List.mem_of_getElem? (i := 105) rfl)
theorem tw_855 : (Cond.codeWith yL_conway cL_conway 5 (some .int) [(0, 10, 13, 33)]) ∈ lw_tbl := tp_7 _ (List.mem_of_getElem? (i := 106) rfl)
theorem in_wf_L_conway : ∀ w ∈ wf_L_conway, w ∈ lw_tbl := by
  show ∀ w ∈ .codeWith yL_conway cL_conway 5 (some .int) [(0, 10, 13, 33)] :: (.classLink RL 33 "java/lang/IndexOutOfBoundsException" :: wsV RL 81 RX11 yX11_conway wf_conway), w ∈ lw_tbl
  exact (List.forall_mem_cons.mpr ⟨tw_855, (List.forall_mem_cons.mpr ⟨tw_740, (List.forall_mem_append.mpr ⟨(List.forall_mem_cons.mpr ⟨tw_548, (List.forall_mem_cons.mpr ⟨tw_549, (List.forall_mem_cons.mpr ⟨tw_550, (List.forall_mem_cons.mpr ⟨tw_362, (fun _ h => absurd h List.not_mem_nil)⟩)⟩)⟩)⟩), in_wf_conway⟩)⟩)⟩)
theorem tw_856 : (Cond.methodLink RL 216 yX13_conway) ∈ lw_tbl := tp_12 _ (List.mem_of_getElem? (i := 107) rfl)
theorem tw_857 : (Cond.instanceMethod yX13_conway) ∈ lw_tbl := tp_12 _ (List.mem_of_getElem? (i := 108) rfl)
theorem tw_858 : (Cond.selects RX13 yX13_conway yX13_conway) ∈ lw_tbl := tp_12 _ (List.mem_of_getElem? (i := 109) rfl)
theorem tw_859 : (Cond.code yX13_conway cX13_conway 4 (some .int)) ∈ lw_tbl := tp_12 _ (List.mem_of_getElem? (i := 110) rfl)
theorem in_wf_M_conway : ∀ w ∈ wf_M_conway, w ∈ lw_tbl := by
  show ∀ w ∈ .code yX13_conway cX13_conway 4 (some .int) :: ([.fieldLink RX13 1 "KnotHouseModel" "thrown" "I"] ++ wsX130 ++ (wsV RX13 423 RX13 yX13_has wf_Mhas ++ wsV RX13 403 RX13 yX13_fails wf_Mfails)), w ∈ lw_tbl
  exact (List.forall_mem_cons.mpr ⟨tw_859, (List.forall_mem_append.mpr ⟨(List.forall_mem_append.mpr ⟨(List.forall_mem_cons.mpr ⟨tw_625, (fun _ h => absurd h List.not_mem_nil)⟩), in_wsX130⟩), (List.forall_mem_append.mpr ⟨(List.forall_mem_append.mpr ⟨(List.forall_mem_cons.mpr ⟨tw_721, (List.forall_mem_cons.mpr ⟨tw_722, (List.forall_mem_cons.mpr ⟨tw_723, (List.forall_mem_cons.mpr ⟨tw_333, (fun _ h => absurd h List.not_mem_nil)⟩)⟩)⟩)⟩), in_wf_Mhas⟩), (List.forall_mem_append.mpr ⟨(List.forall_mem_cons.mpr ⟨tw_638, (List.forall_mem_cons.mpr ⟨tw_639, (List.forall_mem_cons.mpr ⟨tw_640, (List.forall_mem_cons.mpr ⟨tw_333, (fun _ h => absurd h List.not_mem_nil)⟩)⟩)⟩)⟩), in_wf_Mfails⟩)⟩)⟩)⟩)
theorem tw_860 : (Cond.methodLink RL 217 yL_jones) ∈ lw_tbl := tp_7 _ (List.mem_of_getElem? (i := 145) rfl)
theorem tw_861 : (Cond.static yL_jones) ∈ lw_tbl := tp_7 _ (List.mem_of_getElem? (i := 146) rfl)
theorem tw_862 : (Cond.codeWith yL_jones cL_jones 5 (some .int) [(0, 10, 13, 33)]) ∈ lw_tbl := tp_7 _ (List.mem_of_getElem? (i := 147) rfl)
theorem in_wf_L_jones : ∀ w ∈ wf_L_jones, w ∈ lw_tbl := by
  show ∀ w ∈ .codeWith yL_jones cL_jones 5 (some .int) [(0, 10, 13, 33)] :: (.classLink RL 33 "java/lang/IndexOutOfBoundsException" :: wsV RL 84 RX11 yX11_jones wf_jones), w ∈ lw_tbl
  exact (List.forall_mem_cons.mpr ⟨tw_862, (List.forall_mem_cons.mpr ⟨tw_740, (List.forall_mem_append.mpr ⟨(List.forall_mem_cons.mpr ⟨tw_552, (List.forall_mem_cons.mpr ⟨tw_553, (List.forall_mem_cons.mpr ⟨tw_554, (List.forall_mem_cons.mpr ⟨tw_362, (fun _ h => absurd h List.not_mem_nil)⟩)⟩)⟩)⟩), in_wf_jones⟩)⟩)⟩)
theorem tw_863 : (Cond.methodLink RL 219 yX13_jones) ∈ lw_tbl := tp_12 _ (List.mem_of_getElem? (i := 119) rfl)
theorem tw_864 : (Cond.instanceMethod yX13_jones) ∈ lw_tbl := tp_12 _ (List.mem_of_getElem? (i := 120) rfl)
theorem tw_865 : (Cond.selects RX13 yX13_jones yX13_jones) ∈ lw_tbl := tp_12 _ (List.mem_of_getElem? (i := 121) rfl)
theorem tw_866 : (Cond.code yX13_jones cX13_jones 4 (some .int)) ∈ lw_tbl := tp_12 _ (List.mem_of_getElem? (i := 122) rfl)
theorem in_wf_M_jones : ∀ w ∈ wf_M_jones, w ∈ lw_tbl := by
  show ∀ w ∈ .code yX13_jones cX13_jones 4 (some .int) :: ([.fieldLink RX13 1 "KnotHouseModel" "thrown" "I"] ++ wsX130 ++ (wsV RX13 423 RX13 yX13_has wf_Mhas ++ wsV RX13 403 RX13 yX13_fails wf_Mfails)), w ∈ lw_tbl
  exact (List.forall_mem_cons.mpr ⟨tw_866, (List.forall_mem_append.mpr ⟨(List.forall_mem_append.mpr ⟨(List.forall_mem_cons.mpr ⟨tw_625, (fun _ h => absurd h List.not_mem_nil)⟩), in_wsX130⟩), (List.forall_mem_append.mpr ⟨(List.forall_mem_append.mpr ⟨(List.forall_mem_cons.mpr ⟨tw_721, (List.forall_mem_cons.mpr ⟨tw_722, (List.forall_mem_cons.mpr ⟨tw_723, (List.forall_mem_cons.mpr ⟨tw_333, (fun _ h => absurd h List.not_mem_nil)⟩)⟩)⟩)⟩), in_wf_Mhas⟩), (List.forall_mem_append.mpr ⟨(List.forall_mem_cons.mpr ⟨tw_638, (List.forall_mem_cons.mpr ⟨tw_639, (List.forall_mem_cons.mpr ⟨tw_640, (List.forall_mem_cons.mpr ⟨tw_333, (fun _ h => absurd h List.not_mem_nil)⟩)⟩)⟩)⟩), in_wf_Mfails⟩)⟩)⟩)⟩)
theorem tw_867 : (Cond.methodLink RL 220 yL_signature) ∈ lw_tbl := tp_7 _ (List.mem_of_getElem? (i := 174) rfl)
theorem tw_868 : (Cond.static yL_signature) ∈ lw_tbl := tp_7 _ (List.mem_of_getElem? (i := 175) rfl)
theorem tw_869 : (Cond.codeWith yL_signature cL_signature 4 (some .int) [(0, 9, 12, 33)]) ∈ lw_tbl := tp_7 _ (List.mem_of_getElem? (i := 176) rfl)
theorem in_wf_L_signature : ∀ w ∈ wf_L_signature, w ∈ lw_tbl := by
  show ∀ w ∈ .codeWith yL_signature cL_signature 4 (some .int) [(0, 9, 12, 33)] :: (.classLink RL 33 "java/lang/IndexOutOfBoundsException" :: wsV RL 87 RX11 yX11_signature wf_signature), w ∈ lw_tbl
  exact (List.forall_mem_cons.mpr ⟨tw_869, (List.forall_mem_cons.mpr ⟨tw_740, (List.forall_mem_append.mpr ⟨(List.forall_mem_cons.mpr ⟨tw_556, (List.forall_mem_cons.mpr ⟨tw_557, (List.forall_mem_cons.mpr ⟨tw_558, (List.forall_mem_cons.mpr ⟨tw_362, (fun _ h => absurd h List.not_mem_nil)⟩)⟩)⟩)⟩), in_wf_signature⟩)⟩)⟩)
theorem tw_870 : (Cond.methodLink RL 222 yX13_signature) ∈ lw_tbl := tp_12 _ (List.mem_of_getElem? (i := 145) rfl)
theorem tw_871 : (Cond.instanceMethod yX13_signature) ∈ lw_tbl := tp_12 _ (List.mem_of_getElem? (i := 146) rfl)
theorem tw_872 : (Cond.selects RX13 yX13_signature yX13_signature) ∈ lw_tbl := tp_12 _ (List.mem_of_getElem? (i := 147) rfl)
theorem tw_873 : (Cond.code yX13_signature cX13_signature 6 (some .int)) ∈ lw_tbl := tp_12 _ (List.mem_of_getElem? (i := 148) rfl)
theorem in_wf_M_signature : ∀ w ∈ wf_M_signature, w ∈ lw_tbl := by
  show ∀ w ∈ .code yX13_signature cX13_signature 6 (some .int) :: ([.fieldLink RX13 1 "KnotHouseModel" "thrown" "I"] ++ wsX130 ++ (wsV RX13 423 RX13 yX13_has wf_Mhas ++ wsV RX13 403 RX13 yX13_fails wf_Mfails)), w ∈ lw_tbl
  exact (List.forall_mem_cons.mpr ⟨tw_873, (List.forall_mem_append.mpr ⟨(List.forall_mem_append.mpr ⟨(List.forall_mem_cons.mpr ⟨tw_625, (fun _ h => absurd h List.not_mem_nil)⟩), in_wsX130⟩), (List.forall_mem_append.mpr ⟨(List.forall_mem_append.mpr ⟨(List.forall_mem_cons.mpr ⟨tw_721, (List.forall_mem_cons.mpr ⟨tw_722, (List.forall_mem_cons.mpr ⟨tw_723, (List.forall_mem_cons.mpr ⟨tw_333, (fun _ h => absurd h List.not_mem_nil)⟩)⟩)⟩)⟩), in_wf_Mhas⟩), (List.forall_mem_append.mpr ⟨(List.forall_mem_cons.mpr ⟨tw_638, (List.forall_mem_cons.mpr ⟨tw_639, (List.forall_mem_cons.mpr ⟨tw_640, (List.forall_mem_cons.mpr ⟨tw_333, (fun _ h => absurd h List.not_mem_nil)⟩)⟩)⟩)⟩), in_wf_Mfails⟩)⟩)⟩)⟩)
theorem tw_874 : (Cond.methodLink RL 223 yL_cover) ∈ lw_tbl := tp_7 _ (List.mem_of_getElem? (i := 221) rfl)
theorem tw_875 : (Cond.static yL_cover) ∈ lw_tbl := tp_7 _ (List.mem_of_getElem? (i := 222) rfl)
theorem tw_876 : (Cond.codeWith yL_cover cL_cover 5 (some .int) [(0, 10, 13, 33)]) ∈ lw_tbl := tp_7 _ (List.mem_of_getElem? (i := 223) rfl)
theorem in_wf_L_cover : ∀ w ∈ wf_L_cover, w ∈ lw_tbl := by
  show ∀ w ∈ .codeWith yL_cover cL_cover 5 (some .int) [(0, 10, 13, 33)] :: (.classLink RL 33 "java/lang/IndexOutOfBoundsException" :: wsV RL 90 RX11 yX11_cover wf_cover), w ∈ lw_tbl
  exact (List.forall_mem_cons.mpr ⟨tw_876, (List.forall_mem_cons.mpr ⟨tw_740, (List.forall_mem_append.mpr ⟨(List.forall_mem_cons.mpr ⟨tw_560, (List.forall_mem_cons.mpr ⟨tw_561, (List.forall_mem_cons.mpr ⟨tw_562, (List.forall_mem_cons.mpr ⟨tw_362, (fun _ h => absurd h List.not_mem_nil)⟩)⟩)⟩)⟩), in_wf_cover⟩)⟩)⟩)
theorem tw_877 : (Cond.methodLink RL 225 yX13_cover) ∈ lw_tbl := tp_12 _ (List.mem_of_getElem? (i := 172) rfl)
theorem tw_878 : (Cond.instanceMethod yX13_cover) ∈ lw_tbl := tp_12 _ (List.mem_of_getElem? (i := 173) rfl)
theorem tw_879 : (Cond.selects RX13 yX13_cover yX13_cover) ∈ lw_tbl := tp_12 _ (List.mem_of_getElem? (i := 174) rfl)
theorem tw_880 : (Cond.code yX13_cover cX13_cover 3 (some .int)) ∈ lw_tbl := tp_12 _ (List.mem_of_getElem? (i := 175) rfl)
theorem in_wf_M_cover : ∀ w ∈ wf_M_cover, w ∈ lw_tbl := by
  show ∀ w ∈ .code yX13_cover cX13_cover 3 (some .int) :: ([.fieldLink RX13 1 "KnotHouseModel" "thrown" "I"] ++ wsX130 ++ (wsV RX13 423 RX13 yX13_has wf_Mhas ++ wsV RX13 403 RX13 yX13_fails wf_Mfails)), w ∈ lw_tbl
  exact (List.forall_mem_cons.mpr ⟨tw_880, (List.forall_mem_append.mpr ⟨(List.forall_mem_append.mpr ⟨(List.forall_mem_cons.mpr ⟨tw_625, (fun _ h => absurd h List.not_mem_nil)⟩), in_wsX130⟩), (List.forall_mem_append.mpr ⟨(List.forall_mem_append.mpr ⟨(List.forall_mem_cons.mpr ⟨tw_721, (List.forall_mem_cons.mpr ⟨tw_722, (List.forall_mem_cons.mpr ⟨tw_723, (List.forall_mem_cons.mpr ⟨tw_333, (fun _ h => absurd h List.not_mem_nil)⟩)⟩)⟩)⟩), in_wf_Mhas⟩), (List.forall_mem_append.mpr ⟨(List.forall_mem_cons.mpr ⟨tw_638, (List.forall_mem_cons.mpr ⟨tw_639, (List.forall_mem_cons.mpr ⟨tw_640, (List.forall_mem_cons.mpr ⟨tw_333, (fun _ h => absurd h List.not_mem_nil)⟩)⟩)⟩)⟩), in_wf_Mfails⟩)⟩)⟩)⟩)
theorem tw_881 : (Cond.methodLink RL 226 yL_colours) ∈ lw_tbl := tp_8 _ (List.mem_of_getElem? (i := 22) rfl)
theorem tw_882 : (Cond.static yL_colours) ∈ lw_tbl := tp_8 _ (List.mem_of_getElem? (i := 23) rfl)
theorem tw_883 : (Cond.codeWith yL_colours cL_colours 5 (some .int) [(0, 9, 12, 33), (0, 9, 16, 19)]) ∈ lw_tbl := tp_8 _ (List.mem_of_getElem? (i := 24) rfl)
theorem in_wf_L_colours : ∀ w ∈ wf_L_colours, w ∈ lw_tbl := by
  show ∀ w ∈ .codeWith yL_colours cL_colours 5 (some .int) [(0, 9, 12, 33), (0, 9, 16, 19)] :: (.classLink RL 33 "java/lang/IndexOutOfBoundsException" :: wsV RL 93 RX11 yX11_colours wf_colours), w ∈ lw_tbl
  exact (List.forall_mem_cons.mpr ⟨tw_883, (List.forall_mem_cons.mpr ⟨tw_740, (List.forall_mem_append.mpr ⟨(List.forall_mem_cons.mpr ⟨tw_564, (List.forall_mem_cons.mpr ⟨tw_565, (List.forall_mem_cons.mpr ⟨tw_566, (List.forall_mem_cons.mpr ⟨tw_362, (fun _ h => absurd h List.not_mem_nil)⟩)⟩)⟩)⟩), in_wf_colours⟩)⟩)⟩)
theorem tw_884 : (Cond.methodLink RL 228 yX13_colours) ∈ lw_tbl := tp_12 _ (List.mem_of_getElem? (i := 209) rfl)
theorem tw_885 : (Cond.instanceMethod yX13_colours) ∈ lw_tbl := tp_12 _ (List.mem_of_getElem? (i := 210) rfl)
theorem tw_886 : (Cond.selects RX13 yX13_colours yX13_colours) ∈ lw_tbl := tp_12 _ (List.mem_of_getElem? (i := 211) rfl)
theorem tw_887 : (Cond.code yX13_colours cX13_colours 6 (some .long)) ∈ lw_tbl := tp_12 _ (List.mem_of_getElem? (i := 212) rfl)
theorem in_wf_M_colours : ∀ w ∈ wf_M_colours, w ∈ lw_tbl := by
  show ∀ w ∈ .code yX13_colours cX13_colours 6 (some .long) :: ([.fieldLink RX13 1 "KnotHouseModel" "thrown" "I"] ++ wsX130 ++ (wsV RX13 423 RX13 yX13_has wf_Mhas ++ wsV RX13 403 RX13 yX13_fails wf_Mfails)), w ∈ lw_tbl
  exact (List.forall_mem_cons.mpr ⟨tw_887, (List.forall_mem_append.mpr ⟨(List.forall_mem_append.mpr ⟨(List.forall_mem_cons.mpr ⟨tw_625, (fun _ h => absurd h List.not_mem_nil)⟩), in_wsX130⟩), (List.forall_mem_append.mpr ⟨(List.forall_mem_append.mpr ⟨(List.forall_mem_cons.mpr ⟨tw_721, (List.forall_mem_cons.mpr ⟨tw_722, (List.forall_mem_cons.mpr ⟨tw_723, (List.forall_mem_cons.mpr ⟨tw_333, (fun _ h => absurd h List.not_mem_nil)⟩)⟩)⟩)⟩), in_wf_Mhas⟩), (List.forall_mem_append.mpr ⟨(List.forall_mem_cons.mpr ⟨tw_638, (List.forall_mem_cons.mpr ⟨tw_639, (List.forall_mem_cons.mpr ⟨tw_640, (List.forall_mem_cons.mpr ⟨tw_333, (fun _ h => absurd h List.not_mem_nil)⟩)⟩)⟩)⟩), in_wf_Mfails⟩)⟩)⟩)⟩)
theorem tw_888 : (Cond.methodLink RL 229 yL_maps) ∈ lw_tbl := tp_8 _ (List.mem_of_getElem? (i := 37) rfl)
theorem tw_889 : (Cond.static yL_maps) ∈ lw_tbl := tp_8 _ (List.mem_of_getElem? (i := 38) rfl)
theorem tw_890 : (Cond.codeWith yL_maps cL_maps 5 (some .int) [(0, 10, 13, 33), (0, 10, 17, 19), (0, 10, 21, 54)]) ∈ lw_tbl := tp_8 _ (List.mem_of_getElem? (i := 39) rfl)
theorem in_wf_L_maps : ∀ w ∈ wf_L_maps, w ∈ lw_tbl := by
  show ∀ w ∈ .codeWith yL_maps cL_maps 5 (some .int) [(0, 10, 13, 33), (0, 10, 17, 19), (0, 10, 21, 54)] :: (.classLink RL 33 "java/lang/IndexOutOfBoundsException" :: wsV RL 97 RX11 yX11_maps wf_maps), w ∈ lw_tbl
  exact (List.forall_mem_cons.mpr ⟨tw_890, (List.forall_mem_cons.mpr ⟨tw_740, (List.forall_mem_append.mpr ⟨(List.forall_mem_cons.mpr ⟨tw_568, (List.forall_mem_cons.mpr ⟨tw_569, (List.forall_mem_cons.mpr ⟨tw_570, (List.forall_mem_cons.mpr ⟨tw_362, (fun _ h => absurd h List.not_mem_nil)⟩)⟩)⟩)⟩), in_wf_maps⟩)⟩)⟩)
theorem tw_891 : (Cond.methodLink RL 231 yX13_maps) ∈ lw_tbl := tp_12 _ (List.mem_of_getElem? (i := 213) rfl)
theorem tw_892 : (Cond.instanceMethod yX13_maps) ∈ lw_tbl := tp_12 _ (List.mem_of_getElem? (i := 214) rfl)
theorem tw_893 : (Cond.selects RX13 yX13_maps yX13_maps) ∈ lw_tbl := tp_12 _ (List.mem_of_getElem? (i := 215) rfl)
theorem tw_894 : (Cond.code yX13_maps cX13_maps 8 (some .int)) ∈ lw_tbl := tp_12 _ (List.mem_of_getElem? (i := 216) rfl)
theorem in_wf_M_maps : ∀ w ∈ wf_M_maps, w ∈ lw_tbl := by
  show ∀ w ∈ .code yX13_maps cX13_maps 8 (some .int) :: ([.fieldLink RX13 1 "KnotHouseModel" "thrown" "I"] ++ wsX130 ++ (wsV RX13 423 RX13 yX13_has wf_Mhas ++ wsV RX13 403 RX13 yX13_fails wf_Mfails)), w ∈ lw_tbl
  exact (List.forall_mem_cons.mpr ⟨tw_894, (List.forall_mem_append.mpr ⟨(List.forall_mem_append.mpr ⟨(List.forall_mem_cons.mpr ⟨tw_625, (fun _ h => absurd h List.not_mem_nil)⟩), in_wsX130⟩), (List.forall_mem_append.mpr ⟨(List.forall_mem_append.mpr ⟨(List.forall_mem_cons.mpr ⟨tw_721, (List.forall_mem_cons.mpr ⟨tw_722, (List.forall_mem_cons.mpr ⟨tw_723, (List.forall_mem_cons.mpr ⟨tw_333, (fun _ h => absurd h List.not_mem_nil)⟩)⟩)⟩)⟩), in_wf_Mhas⟩), (List.forall_mem_append.mpr ⟨(List.forall_mem_cons.mpr ⟨tw_638, (List.forall_mem_cons.mpr ⟨tw_639, (List.forall_mem_cons.mpr ⟨tw_640, (List.forall_mem_cons.mpr ⟨tw_333, (fun _ h => absurd h List.not_mem_nil)⟩)⟩)⟩)⟩), in_wf_Mfails⟩)⟩)⟩)⟩)
theorem tw_895 : (Cond.methodLink RL 232 yL_chain) ∈ lw_tbl := tp_8 _ (List.mem_of_getElem? (i := 77) rfl)
theorem tw_896 : (Cond.static yL_chain) ∈ lw_tbl := tp_8 _ (List.mem_of_getElem? (i := 78) rfl)
theorem tw_897 : (Cond.codeWith yL_chain cL_chain 5 (some .int) [(0, 10, 13, 33), (0, 10, 17, 19), (0, 10, 21, 54)]) ∈ lw_tbl := tp_8 _ (List.mem_of_getElem? (i := 79) rfl)
theorem in_wf_L_chain : ∀ w ∈ wf_L_chain, w ∈ lw_tbl := by
  show ∀ w ∈ .codeWith yL_chain cL_chain 5 (some .int) [(0, 10, 13, 33), (0, 10, 17, 19), (0, 10, 21, 54)] :: (.classLink RL 33 "java/lang/IndexOutOfBoundsException" :: wsV RL 100 RX11 yX11_chain wf_chain), w ∈ lw_tbl
  exact (List.forall_mem_cons.mpr ⟨tw_897, (List.forall_mem_cons.mpr ⟨tw_740, (List.forall_mem_append.mpr ⟨(List.forall_mem_cons.mpr ⟨tw_572, (List.forall_mem_cons.mpr ⟨tw_573, (List.forall_mem_cons.mpr ⟨tw_574, (List.forall_mem_cons.mpr ⟨tw_362, (fun _ h => absurd h List.not_mem_nil)⟩)⟩)⟩)⟩), in_wf_chain⟩)⟩)⟩)
theorem tw_898 : (Cond.methodLink RL 234 yX13_chain) ∈ lw_tbl := tp_12 _ (List.mem_of_getElem? (i := 233) rfl)
theorem tw_899 : (Cond.instanceMethod yX13_chain) ∈ lw_tbl := tp_12 _ (List.mem_of_getElem? (i := 234) rfl)
theorem tw_900 : (Cond.selects RX13 yX13_chain yX13_chain) ∈ lw_tbl := tp_12 _ (List.mem_of_getElem? (i := 235) rfl)
theorem tw_901 : (Cond.code yX13_chain cX13_chain 8 (some .int)) ∈ lw_tbl := tp_12 _ (List.mem_of_getElem? (i := 236) rfl)
theorem in_wf_M_chain : ∀ w ∈ wf_M_chain, w ∈ lw_tbl := by
  show ∀ w ∈ .code yX13_chain cX13_chain 8 (some .int) :: ([.fieldLink RX13 1 "KnotHouseModel" "thrown" "I"] ++ wsX130 ++ (wsV RX13 423 RX13 yX13_has wf_Mhas ++ wsV RX13 403 RX13 yX13_fails wf_Mfails)), w ∈ lw_tbl
  exact (List.forall_mem_cons.mpr ⟨tw_901, (List.forall_mem_append.mpr ⟨(List.forall_mem_append.mpr ⟨(List.forall_mem_cons.mpr ⟨tw_625, (fun _ h => absurd h List.not_mem_nil)⟩), in_wsX130⟩), (List.forall_mem_append.mpr ⟨(List.forall_mem_append.mpr ⟨(List.forall_mem_cons.mpr ⟨tw_721, (List.forall_mem_cons.mpr ⟨tw_722, (List.forall_mem_cons.mpr ⟨tw_723, (List.forall_mem_cons.mpr ⟨tw_333, (fun _ h => absurd h List.not_mem_nil)⟩)⟩)⟩)⟩), in_wf_Mhas⟩), (List.forall_mem_append.mpr ⟨(List.forall_mem_cons.mpr ⟨tw_638, (List.forall_mem_cons.mpr ⟨tw_639, (List.forall_mem_cons.mpr ⟨tw_640, (List.forall_mem_cons.mpr ⟨tw_333, (fun _ h => absurd h List.not_mem_nil)⟩)⟩)⟩)⟩), in_wf_Mfails⟩)⟩)⟩)⟩)
theorem tw_902 : (Cond.methodLink RL 235 yX11_rank) ∈ lw_tbl := tp_3 _ (List.mem_of_getElem? (i := 162) rfl)
theorem tw_903 : (Cond.instanceMethod yX11_rank) ∈ lw_tbl := tp_3 _ (List.mem_of_getElem? (i := 163) rfl)
theorem tw_904 : (Cond.selects RX11 yX11_rank yX11_rank) ∈ lw_tbl := tp_3 _ (List.mem_of_getElem? (i := 164) rfl)
theorem tw_905 : (Cond.code yX11_rank cX11_rank 3 (some .int)) ∈ lw_tbl := tp_3 _ (List.mem_of_getElem? (i := 165) rfl)
theorem tw_906 : (Cond.methodLink RX11 375 yX1_rankAt) ∈ lw_tbl := tp_3 _ (List.mem_of_getElem? (i := 166) rfl)
theorem tw_907 : (Cond.instanceMethod yX1_rankAt) ∈ lw_tbl := tp_3 _ (List.mem_of_getElem? (i := 167) rfl)
theorem tw_908 : (Cond.selects RX1 yX1_rankAt yX1_rankAt) ∈ lw_tbl := tp_3 _ (List.mem_of_getElem? (i := 168) rfl)
theorem tw_909 : (Cond.code yX1_rankAt cX1_rankAt 7 (some .int)) ∈ lw_tbl := tp_3 _ (List.mem_of_getElem? (i := 169) rfl)
theorem tw_910 : (Cond.constantLong RX1 119 (56)) ∈ lw_tbl := tp_3 _ (List.mem_of_getElem? (i := 172) rfl)
theorem tw_911 : (Cond.constantLong RX1 117 (8)) ∈ lw_tbl := tp_3 _ (List.mem_of_getElem? (i := 171) rfl)
theorem tw_912 : (Cond.constantLong RX1 115 (-20)) ∈ lw_tbl := tp_3 _ (List.mem_of_getElem? (i := 170) rfl)
theorem tw_913 : (Cond.fieldLink RX1 88 "KnotHouse$Chains" "writhe" "I") ∈ lw_tbl := tp_2 _ (List.mem_of_getElem? (i := 200) rfl)
theorem tw_914 : (Cond.fieldLink RX1 93 "KnotHouse$Chains" "negatives" "I") ∈ lw_tbl := tp_2 _ (List.mem_of_getElem? (i := 201) rfl)
theorem in_wf_rankAt : ∀ w ∈ wf_rankAt, w ∈ lw_tbl := by
  show ∀ w ∈ .code yX1_rankAt cX1_rankAt 7 (some .int) :: ([.fieldLink RX1 93 "KnotHouse$Chains" "negatives" "I", .fieldLink RX1 88 "KnotHouse$Chains" "writhe" "I", .fieldLink RX1 64 "KnotHouse$Chains" "ranks" "[I", .constantLong RX1 115 (-20), .constantLong RX1 117 (8), .constantLong RX1 119 (56)] ++ wsX10), w ∈ lw_tbl
  exact (List.forall_mem_cons.mpr ⟨tw_909, (List.forall_mem_append.mpr ⟨(List.forall_mem_cons.mpr ⟨tw_914, (List.forall_mem_cons.mpr ⟨tw_913, (List.forall_mem_cons.mpr ⟨tw_173, (List.forall_mem_cons.mpr ⟨tw_912, (List.forall_mem_cons.mpr ⟨tw_911, (List.forall_mem_cons.mpr ⟨tw_910, (fun _ h => absurd h List.not_mem_nil)⟩)⟩)⟩)⟩)⟩)⟩), in_wsX10⟩)⟩)
theorem in_wf_rank : ∀ w ∈ wf_rank, w ∈ lw_tbl := by
  show ∀ w ∈ .code yX11_rank cX11_rank 3 (some .int) :: ((.fieldLink RX11 79 "KnotHouse" "chains" "LKnotHouse$Chains;" :: wsX110) ++ wsV RX11 375 RX1 yX1_rankAt wf_rankAt), w ∈ lw_tbl
  exact (List.forall_mem_cons.mpr ⟨tw_905, (List.forall_mem_append.mpr ⟨(List.forall_mem_cons.mpr ⟨tw_31, in_wsX110⟩), (List.forall_mem_append.mpr ⟨(List.forall_mem_cons.mpr ⟨tw_906, (List.forall_mem_cons.mpr ⟨tw_907, (List.forall_mem_cons.mpr ⟨tw_908, (List.forall_mem_cons.mpr ⟨tw_32, (fun _ h => absurd h List.not_mem_nil)⟩)⟩)⟩)⟩), in_wf_rankAt⟩)⟩)⟩)
theorem tw_915 : (Cond.methodLink RL 238 yX13_rank) ∈ lw_tbl := tp_13 _ (List.mem_of_getElem? (i := 27) rfl)
theorem tw_916 : (Cond.instanceMethod yX13_rank) ∈ lw_tbl := tp_13 _ (List.mem_of_getElem? (i := 28) rfl)
theorem tw_917 : (Cond.selects RX13 yX13_rank yX13_rank) ∈ lw_tbl := tp_13 _ (List.mem_of_getElem? (i := 29) rfl)
theorem tw_918 : (Cond.code yX13_rank cX13_rank 5 (some .int)) ∈ lw_tbl := tp_13 _ (List.mem_of_getElem? (i := 30) rfl)
theorem tw_919 : (Cond.constantLong RX13 722 (9)) ∈ lw_tbl := tp_13 _ (List.mem_of_getElem? (i := 31) rfl)
theorem tw_920 : (Cond.fieldLink RX13 690 "KnotHouseModel" "minus" "I") ∈ lw_tbl := tp_10 _ (List.mem_of_getElem? (i := 41) rfl)
theorem in_wf_M_rank : ∀ w ∈ wf_M_rank, w ∈ lw_tbl := by
  show ∀ w ∈ .code yX13_rank cX13_rank 5 (some .int) :: ([.fieldLink RX13 1 "KnotHouseModel" "thrown" "I", .fieldLink RX13 690 "KnotHouseModel" "minus" "I", .fieldLink RX13 304 "KnotHouseModel" "ranks" "[I", .constantLong RX13 722 (9)] ++ wsX130), w ∈ lw_tbl
  exact (List.forall_mem_cons.mpr ⟨tw_918, (List.forall_mem_append.mpr ⟨(List.forall_mem_cons.mpr ⟨tw_625, (List.forall_mem_cons.mpr ⟨tw_920, (List.forall_mem_cons.mpr ⟨tw_310, (List.forall_mem_cons.mpr ⟨tw_919, (fun _ h => absurd h List.not_mem_nil)⟩)⟩)⟩)⟩), in_wsX130⟩)⟩)
theorem tw_921 : (Cond.methodLink RL 239 yL_closure) ∈ lw_tbl := tp_8 _ (List.mem_of_getElem? (i := 175) rfl)
theorem tw_922 : (Cond.static yL_closure) ∈ lw_tbl := tp_8 _ (List.mem_of_getElem? (i := 176) rfl)
theorem tw_923 : (Cond.codeWith yL_closure cL_closure 4 (some .int) [(0, 9, 12, 33), (0, 9, 15, 54), (0, 9, 18, 13)]) ∈ lw_tbl := tp_8 _ (List.mem_of_getElem? (i := 177) rfl)
theorem in_wf_L_closure : ∀ w ∈ wf_L_closure, w ∈ lw_tbl := by
  show ∀ w ∈ .codeWith yL_closure cL_closure 4 (some .int) [(0, 9, 12, 33), (0, 9, 15, 54), (0, 9, 18, 13)] :: (.classLink RL 33 "java/lang/IndexOutOfBoundsException" :: wsV RL 103 RX11 yX11_closure wf_closure), w ∈ lw_tbl
  exact (List.forall_mem_cons.mpr ⟨tw_923, (List.forall_mem_cons.mpr ⟨tw_740, (List.forall_mem_append.mpr ⟨(List.forall_mem_cons.mpr ⟨tw_576, (List.forall_mem_cons.mpr ⟨tw_577, (List.forall_mem_cons.mpr ⟨tw_578, (List.forall_mem_cons.mpr ⟨tw_362, (fun _ h => absurd h List.not_mem_nil)⟩)⟩)⟩)⟩), in_wf_closure⟩)⟩)⟩)
theorem tw_924 : (Cond.methodLink RL 241 yX13_closure) ∈ lw_tbl := tp_13 _ (List.mem_of_getElem? (i := 119) rfl)
theorem tw_925 : (Cond.instanceMethod yX13_closure) ∈ lw_tbl := tp_13 _ (List.mem_of_getElem? (i := 120) rfl)
theorem tw_926 : (Cond.selects RX13 yX13_closure yX13_closure) ∈ lw_tbl := tp_13 _ (List.mem_of_getElem? (i := 121) rfl)
theorem tw_927 : (Cond.code yX13_closure cX13_closure 2 (some .int)) ∈ lw_tbl := tp_13 _ (List.mem_of_getElem? (i := 122) rfl)
theorem in_wf_M_closure : ∀ w ∈ wf_M_closure, w ∈ lw_tbl := by
  show ∀ w ∈ .code yX13_closure cX13_closure 2 (some .int) :: ([.fieldLink RX13 1 "KnotHouseModel" "thrown" "I"] ++ wsX130 ++ (wsV RX13 739 RX13 yX13_hasBraid wf_MhasBraid ++ wsV RX13 403 RX13 yX13_fails wf_Mfails)), w ∈ lw_tbl
  exact (List.forall_mem_cons.mpr ⟨tw_927, (List.forall_mem_append.mpr ⟨(List.forall_mem_append.mpr ⟨(List.forall_mem_cons.mpr ⟨tw_625, (fun _ h => absurd h List.not_mem_nil)⟩), in_wsX130⟩), (List.forall_mem_append.mpr ⟨(List.forall_mem_append.mpr ⟨(List.forall_mem_cons.mpr ⟨tw_733, (List.forall_mem_cons.mpr ⟨tw_734, (List.forall_mem_cons.mpr ⟨tw_735, (List.forall_mem_cons.mpr ⟨tw_333, (fun _ h => absurd h List.not_mem_nil)⟩)⟩)⟩)⟩), in_wf_MhasBraid⟩), (List.forall_mem_append.mpr ⟨(List.forall_mem_cons.mpr ⟨tw_638, (List.forall_mem_cons.mpr ⟨tw_639, (List.forall_mem_cons.mpr ⟨tw_640, (List.forall_mem_cons.mpr ⟨tw_333, (fun _ h => absurd h List.not_mem_nil)⟩)⟩)⟩)⟩), in_wf_Mfails⟩)⟩)⟩)⟩)
theorem tw_928 : (Cond.methodLink RL 242 yL_product) ∈ lw_tbl := tp_8 _ (List.mem_of_getElem? (i := 198) rfl)
theorem tw_929 : (Cond.static yL_product) ∈ lw_tbl := tp_8 _ (List.mem_of_getElem? (i := 199) rfl)
theorem tw_930 : (Cond.codeWith yL_product cL_product 5 (some .int) [(0, 10, 13, 33), (0, 10, 17, 19), (0, 10, 21, 54), (0, 10, 25, 13)]) ∈ lw_tbl := tp_8 _ (List.mem_of_getElem? (i := 200) rfl)
theorem in_wf_L_product : ∀ w ∈ wf_L_product, w ∈ lw_tbl := by
  show ∀ w ∈ .codeWith yL_product cL_product 5 (some .int) [(0, 10, 13, 33), (0, 10, 17, 19), (0, 10, 21, 54), (0, 10, 25, 13)] :: (.classLink RL 33 "java/lang/IndexOutOfBoundsException" :: wsV RL 106 RX11 yX11_product wf_product), w ∈ lw_tbl
  exact (List.forall_mem_cons.mpr ⟨tw_930, (List.forall_mem_cons.mpr ⟨tw_740, (List.forall_mem_append.mpr ⟨(List.forall_mem_cons.mpr ⟨tw_588, (List.forall_mem_cons.mpr ⟨tw_589, (List.forall_mem_cons.mpr ⟨tw_590, (List.forall_mem_cons.mpr ⟨tw_362, (fun _ h => absurd h List.not_mem_nil)⟩)⟩)⟩)⟩), in_wf_product⟩)⟩)⟩)
theorem tw_931 : (Cond.methodLink RL 244 yX13_product) ∈ lw_tbl := tp_13 _ (List.mem_of_getElem? (i := 48) rfl)
theorem tw_932 : (Cond.instanceMethod yX13_product) ∈ lw_tbl := tp_13 _ (List.mem_of_getElem? (i := 49) rfl)
theorem tw_933 : (Cond.selects RX13 yX13_product yX13_product) ∈ lw_tbl := tp_13 _ (List.mem_of_getElem? (i := 50) rfl)
theorem tw_934 : (Cond.code yX13_product cX13_product 5 (some .int)) ∈ lw_tbl := tp_13 _ (List.mem_of_getElem? (i := 51) rfl)
theorem in_wf_M_product : ∀ w ∈ wf_M_product, w ∈ lw_tbl := by
  show ∀ w ∈ .code yX13_product cX13_product 5 (some .int) :: ([.fieldLink RX13 1 "KnotHouseModel" "thrown" "I"] ++ wsX130 ++ (wsV RX13 739 RX13 yX13_hasBraid wf_MhasBraid ++ wsV RX13 403 RX13 yX13_fails wf_Mfails)), w ∈ lw_tbl
  exact (List.forall_mem_cons.mpr ⟨tw_934, (List.forall_mem_append.mpr ⟨(List.forall_mem_append.mpr ⟨(List.forall_mem_cons.mpr ⟨tw_625, (fun _ h => absurd h List.not_mem_nil)⟩), in_wsX130⟩), (List.forall_mem_append.mpr ⟨(List.forall_mem_append.mpr ⟨(List.forall_mem_cons.mpr ⟨tw_733, (List.forall_mem_cons.mpr ⟨tw_734, (List.forall_mem_cons.mpr ⟨tw_735, (List.forall_mem_cons.mpr ⟨tw_333, (fun _ h => absurd h List.not_mem_nil)⟩)⟩)⟩)⟩), in_wf_MhasBraid⟩), (List.forall_mem_append.mpr ⟨(List.forall_mem_cons.mpr ⟨tw_638, (List.forall_mem_cons.mpr ⟨tw_639, (List.forall_mem_cons.mpr ⟨tw_640, (List.forall_mem_cons.mpr ⟨tw_333, (fun _ h => absurd h List.not_mem_nil)⟩)⟩)⟩)⟩), in_wf_Mfails⟩)⟩)⟩)⟩)
theorem tw_935 : (Cond.methodLink RL 245 yL_inverse) ∈ lw_tbl := tp_8 _ (List.mem_of_getElem? (i := 208) rfl)
theorem tw_936 : (Cond.static yL_inverse) ∈ lw_tbl := tp_8 _ (List.mem_of_getElem? (i := 209) rfl)
theorem tw_937 : (Cond.codeWith yL_inverse cL_inverse 4 (some .int) [(0, 9, 12, 33), (0, 9, 15, 13)]) ∈ lw_tbl := tp_8 _ (List.mem_of_getElem? (i := 210) rfl)
theorem in_wf_L_inverse : ∀ w ∈ wf_L_inverse, w ∈ lw_tbl := by
  show ∀ w ∈ .codeWith yL_inverse cL_inverse 4 (some .int) [(0, 9, 12, 33), (0, 9, 15, 13)] :: (.classLink RL 33 "java/lang/IndexOutOfBoundsException" :: wsV RL 109 RX11 yX11_inverse wf_inverse), w ∈ lw_tbl
  exact (List.forall_mem_cons.mpr ⟨tw_937, (List.forall_mem_cons.mpr ⟨tw_740, (List.forall_mem_append.mpr ⟨(List.forall_mem_cons.mpr ⟨tw_592, (List.forall_mem_cons.mpr ⟨tw_593, (List.forall_mem_cons.mpr ⟨tw_594, (List.forall_mem_cons.mpr ⟨tw_362, (fun _ h => absurd h List.not_mem_nil)⟩)⟩)⟩)⟩), in_wf_inverse⟩)⟩)⟩)
theorem tw_938 : (Cond.methodLink RL 247 yX13_inverse) ∈ lw_tbl := tp_13 _ (List.mem_of_getElem? (i := 52) rfl)
theorem tw_939 : (Cond.instanceMethod yX13_inverse) ∈ lw_tbl := tp_13 _ (List.mem_of_getElem? (i := 53) rfl)
theorem tw_940 : (Cond.selects RX13 yX13_inverse yX13_inverse) ∈ lw_tbl := tp_13 _ (List.mem_of_getElem? (i := 54) rfl)
theorem tw_941 : (Cond.code yX13_inverse cX13_inverse 4 (some .int)) ∈ lw_tbl := tp_13 _ (List.mem_of_getElem? (i := 55) rfl)
theorem in_wf_M_inverse : ∀ w ∈ wf_M_inverse, w ∈ lw_tbl := by
  show ∀ w ∈ .code yX13_inverse cX13_inverse 4 (some .int) :: ([.fieldLink RX13 1 "KnotHouseModel" "thrown" "I"] ++ wsX130 ++ (wsV RX13 739 RX13 yX13_hasBraid wf_MhasBraid ++ wsV RX13 403 RX13 yX13_fails wf_Mfails)), w ∈ lw_tbl
  exact (List.forall_mem_cons.mpr ⟨tw_941, (List.forall_mem_append.mpr ⟨(List.forall_mem_append.mpr ⟨(List.forall_mem_cons.mpr ⟨tw_625, (fun _ h => absurd h List.not_mem_nil)⟩), in_wsX130⟩), (List.forall_mem_append.mpr ⟨(List.forall_mem_append.mpr ⟨(List.forall_mem_cons.mpr ⟨tw_733, (List.forall_mem_cons.mpr ⟨tw_734, (List.forall_mem_cons.mpr ⟨tw_735, (List.forall_mem_cons.mpr ⟨tw_333, (fun _ h => absurd h List.not_mem_nil)⟩)⟩)⟩)⟩), in_wf_MhasBraid⟩), (List.forall_mem_append.mpr ⟨(List.forall_mem_cons.mpr ⟨tw_638, (List.forall_mem_cons.mpr ⟨tw_639, (List.forall_mem_cons.mpr ⟨tw_640, (List.forall_mem_cons.mpr ⟨tw_333, (fun _ h => absurd h List.not_mem_nil)⟩)⟩)⟩)⟩), in_wf_Mfails⟩)⟩)⟩)⟩)
theorem tw_942 : (Cond.methodLink RL 248 yL_normal) ∈ lw_tbl := tp_8 _ (List.mem_of_getElem? (i := 215) rfl)
theorem tw_943 : (Cond.static yL_normal) ∈ lw_tbl := tp_8 _ (List.mem_of_getElem? (i := 216) rfl)
theorem tw_944 : (Cond.codeWith yL_normal cL_normal 5 (some .int) [(0, 10, 13, 33), (0, 10, 17, 19)]) ∈ lw_tbl := tp_8 _ (List.mem_of_getElem? (i := 217) rfl)
theorem in_wf_L_normal : ∀ w ∈ wf_L_normal, w ∈ lw_tbl := by
  show ∀ w ∈ .codeWith yL_normal cL_normal 5 (some .int) [(0, 10, 13, 33), (0, 10, 17, 19)] :: (.classLink RL 33 "java/lang/IndexOutOfBoundsException" :: wsV RL 112 RX11 yX11_normal wf_normal), w ∈ lw_tbl
  exact (List.forall_mem_cons.mpr ⟨tw_944, (List.forall_mem_cons.mpr ⟨tw_740, (List.forall_mem_append.mpr ⟨(List.forall_mem_cons.mpr ⟨tw_596, (List.forall_mem_cons.mpr ⟨tw_597, (List.forall_mem_cons.mpr ⟨tw_598, (List.forall_mem_cons.mpr ⟨tw_362, (fun _ h => absurd h List.not_mem_nil)⟩)⟩)⟩)⟩), in_wf_normal⟩)⟩)⟩)
theorem tw_945 : (Cond.methodLink RL 250 yX13_normal) ∈ lw_tbl := tp_13 _ (List.mem_of_getElem? (i := 56) rfl)
theorem tw_946 : (Cond.instanceMethod yX13_normal) ∈ lw_tbl := tp_13 _ (List.mem_of_getElem? (i := 57) rfl)
theorem tw_947 : (Cond.selects RX13 yX13_normal yX13_normal) ∈ lw_tbl := tp_13 _ (List.mem_of_getElem? (i := 58) rfl)
theorem tw_948 : (Cond.code yX13_normal cX13_normal 3 (some .int)) ∈ lw_tbl := tp_13 _ (List.mem_of_getElem? (i := 59) rfl)
theorem in_wf_M_normal : ∀ w ∈ wf_M_normal, w ∈ lw_tbl := by
  show ∀ w ∈ .code yX13_normal cX13_normal 3 (some .int) :: ([.fieldLink RX13 1 "KnotHouseModel" "thrown" "I"] ++ wsX130 ++ (wsV RX13 739 RX13 yX13_hasBraid wf_MhasBraid ++ wsV RX13 403 RX13 yX13_fails wf_Mfails)), w ∈ lw_tbl
  exact (List.forall_mem_cons.mpr ⟨tw_948, (List.forall_mem_append.mpr ⟨(List.forall_mem_append.mpr ⟨(List.forall_mem_cons.mpr ⟨tw_625, (fun _ h => absurd h List.not_mem_nil)⟩), in_wsX130⟩), (List.forall_mem_append.mpr ⟨(List.forall_mem_append.mpr ⟨(List.forall_mem_cons.mpr ⟨tw_733, (List.forall_mem_cons.mpr ⟨tw_734, (List.forall_mem_cons.mpr ⟨tw_735, (List.forall_mem_cons.mpr ⟨tw_333, (fun _ h => absurd h List.not_mem_nil)⟩)⟩)⟩)⟩), in_wf_MhasBraid⟩), (List.forall_mem_append.mpr ⟨(List.forall_mem_cons.mpr ⟨tw_638, (List.forall_mem_cons.mpr ⟨tw_639, (List.forall_mem_cons.mpr ⟨tw_640, (List.forall_mem_cons.mpr ⟨tw_333, (fun _ h => absurd h List.not_mem_nil)⟩)⟩)⟩)⟩), in_wf_Mfails⟩)⟩)⟩)⟩)
theorem tw_949 : (Cond.methodLink RL 251 yL_factor) ∈ lw_tbl := tp_8 _ (List.mem_of_getElem? (i := 223) rfl)
theorem tw_950 : (Cond.static yL_factor) ∈ lw_tbl := tp_8 _ (List.mem_of_getElem? (i := 224) rfl)
theorem tw_951 : (Cond.codeWith yL_factor cL_factor 6 (some .int) [(0, 12, 15, 33)]) ∈ lw_tbl := tp_8 _ (List.mem_of_getElem? (i := 225) rfl)
theorem in_wf_L_factor : ∀ w ∈ wf_L_factor, w ∈ lw_tbl := by
  show ∀ w ∈ .codeWith yL_factor cL_factor 6 (some .int) [(0, 12, 15, 33)] :: (.classLink RL 33 "java/lang/IndexOutOfBoundsException" :: wsV RL 115 RX11 yX11_factor wf_factor), w ∈ lw_tbl
  exact (List.forall_mem_cons.mpr ⟨tw_951, (List.forall_mem_cons.mpr ⟨tw_740, (List.forall_mem_append.mpr ⟨(List.forall_mem_cons.mpr ⟨tw_600, (List.forall_mem_cons.mpr ⟨tw_601, (List.forall_mem_cons.mpr ⟨tw_602, (List.forall_mem_cons.mpr ⟨tw_362, (fun _ h => absurd h List.not_mem_nil)⟩)⟩)⟩)⟩), in_wf_factor⟩)⟩)⟩)
theorem tw_952 : (Cond.methodLink RL 253 yX13_factor) ∈ lw_tbl := tp_13 _ (List.mem_of_getElem? (i := 76) rfl)
theorem tw_953 : (Cond.instanceMethod yX13_factor) ∈ lw_tbl := tp_13 _ (List.mem_of_getElem? (i := 77) rfl)
theorem tw_954 : (Cond.selects RX13 yX13_factor yX13_factor) ∈ lw_tbl := tp_13 _ (List.mem_of_getElem? (i := 78) rfl)
theorem tw_955 : (Cond.code yX13_factor cX13_factor 4 (some .int)) ∈ lw_tbl := tp_13 _ (List.mem_of_getElem? (i := 79) rfl)
theorem in_wf_M_factor : ∀ w ∈ wf_M_factor, w ∈ lw_tbl := by
  show ∀ w ∈ .code yX13_factor cX13_factor 4 (some .int) :: ([.fieldLink RX13 1 "KnotHouseModel" "thrown" "I"] ++ wsX130 ++ (wsV RX13 739 RX13 yX13_hasBraid wf_MhasBraid ++ wsV RX13 403 RX13 yX13_fails wf_Mfails)), w ∈ lw_tbl
  exact (List.forall_mem_cons.mpr ⟨tw_955, (List.forall_mem_append.mpr ⟨(List.forall_mem_append.mpr ⟨(List.forall_mem_cons.mpr ⟨tw_625, (fun _ h => absurd h List.not_mem_nil)⟩), in_wsX130⟩), (List.forall_mem_append.mpr ⟨(List.forall_mem_append.mpr ⟨(List.forall_mem_cons.mpr ⟨tw_733, (List.forall_mem_cons.mpr ⟨tw_734, (List.forall_mem_cons.mpr ⟨tw_735, (List.forall_mem_cons.mpr ⟨tw_333, (fun _ h => absurd h List.not_mem_nil)⟩)⟩)⟩)⟩), in_wf_MhasBraid⟩), (List.forall_mem_append.mpr ⟨(List.forall_mem_cons.mpr ⟨tw_638, (List.forall_mem_cons.mpr ⟨tw_639, (List.forall_mem_cons.mpr ⟨tw_640, (List.forall_mem_cons.mpr ⟨tw_333, (fun _ h => absurd h List.not_mem_nil)⟩)⟩)⟩)⟩), in_wf_Mfails⟩)⟩)⟩)⟩)
theorem tw_956 : (Cond.methodLink RL 254 yX11_equal) ∈ lw_tbl := tp_3 _ (List.mem_of_getElem? (i := 173) rfl)
theorem tw_957 : (Cond.instanceMethod yX11_equal) ∈ lw_tbl := tp_3 _ (List.mem_of_getElem? (i := 174) rfl)
theorem tw_958 : (Cond.selects RX11 yX11_equal yX11_equal) ∈ lw_tbl := tp_3 _ (List.mem_of_getElem? (i := 175) rfl)
theorem tw_959 : (Cond.code yX11_equal cX11_equal 3 (some .boolean)) ∈ lw_tbl := tp_3 _ (List.mem_of_getElem? (i := 176) rfl)
theorem in_wf_equal : ∀ w ∈ wf_equal, w ∈ lw_tbl := by
  show ∀ w ∈ .code yX11_equal cX11_equal 3 (some .boolean) :: wsV RX11 169 RX11 yX11_hasBraid wf_hasBraid, w ∈ lw_tbl
  exact (List.forall_mem_cons.mpr ⟨tw_959, (List.forall_mem_append.mpr ⟨(List.forall_mem_cons.mpr ⟨tw_584, (List.forall_mem_cons.mpr ⟨tw_585, (List.forall_mem_cons.mpr ⟨tw_586, (List.forall_mem_cons.mpr ⟨tw_362, (fun _ h => absurd h List.not_mem_nil)⟩)⟩)⟩)⟩), in_wf_hasBraid⟩)⟩)
theorem tw_960 : (Cond.methodLink RL 257 yX13_equal) ∈ lw_tbl := tp_13 _ (List.mem_of_getElem? (i := 80) rfl)
theorem tw_961 : (Cond.instanceMethod yX13_equal) ∈ lw_tbl := tp_13 _ (List.mem_of_getElem? (i := 81) rfl)
theorem tw_962 : (Cond.selects RX13 yX13_equal yX13_equal) ∈ lw_tbl := tp_13 _ (List.mem_of_getElem? (i := 82) rfl)
theorem tw_963 : (Cond.code yX13_equal cX13_equal 3 (some .boolean)) ∈ lw_tbl := tp_13 _ (List.mem_of_getElem? (i := 83) rfl)
theorem in_wf_M_equal : ∀ w ∈ wf_M_equal, w ∈ lw_tbl := by
  show ∀ w ∈ .code yX13_equal cX13_equal 3 (some .boolean) :: ([.fieldLink RX13 1 "KnotHouseModel" "thrown" "I"] ++ wsX130 ++ (wsV RX13 739 RX13 yX13_hasBraid wf_MhasBraid ++ wsV RX13 403 RX13 yX13_fails wf_Mfails)), w ∈ lw_tbl
  exact (List.forall_mem_cons.mpr ⟨tw_963, (List.forall_mem_append.mpr ⟨(List.forall_mem_append.mpr ⟨(List.forall_mem_cons.mpr ⟨tw_625, (fun _ h => absurd h List.not_mem_nil)⟩), in_wsX130⟩), (List.forall_mem_append.mpr ⟨(List.forall_mem_append.mpr ⟨(List.forall_mem_cons.mpr ⟨tw_733, (List.forall_mem_cons.mpr ⟨tw_734, (List.forall_mem_cons.mpr ⟨tw_735, (List.forall_mem_cons.mpr ⟨tw_333, (fun _ h => absurd h List.not_mem_nil)⟩)⟩)⟩)⟩), in_wf_MhasBraid⟩), (List.forall_mem_append.mpr ⟨(List.forall_mem_cons.mpr ⟨tw_638, (List.forall_mem_cons.mpr ⟨tw_639, (List.forall_mem_cons.mpr ⟨tw_640, (List.forall_mem_cons.mpr ⟨tw_333, (fun _ h => absurd h List.not_mem_nil)⟩)⟩)⟩)⟩), in_wf_Mfails⟩)⟩)⟩)⟩)
theorem tw_964 : (Cond.methodLink RL 258 yL_summit) ∈ lw_tbl := tp_8 _ (List.mem_of_getElem? (i := 231) rfl)
theorem tw_965 : (Cond.static yL_summit) ∈ lw_tbl := tp_8 _ (List.mem_of_getElem? (i := 232) rfl)
theorem tw_966 : (Cond.codeWith yL_summit cL_summit 4 (some .int) [(0, 9, 12, 33), (0, 9, 15, 54)]) ∈ lw_tbl := tp_8 _ (List.mem_of_getElem? (i := 233) rfl)
theorem in_wf_L_summit : ∀ w ∈ wf_L_summit, w ∈ lw_tbl := by
  show ∀ w ∈ .codeWith yL_summit cL_summit 4 (some .int) [(0, 9, 12, 33), (0, 9, 15, 54)] :: (.classLink RL 33 "java/lang/IndexOutOfBoundsException" :: wsV RL 118 RX11 yX11_summit wf_summit), w ∈ lw_tbl
  exact (List.forall_mem_cons.mpr ⟨tw_966, (List.forall_mem_cons.mpr ⟨tw_740, (List.forall_mem_append.mpr ⟨(List.forall_mem_cons.mpr ⟨tw_604, (List.forall_mem_cons.mpr ⟨tw_605, (List.forall_mem_cons.mpr ⟨tw_606, (List.forall_mem_cons.mpr ⟨tw_362, (fun _ h => absurd h List.not_mem_nil)⟩)⟩)⟩)⟩), in_wf_summit⟩)⟩)⟩)
theorem tw_967 : (Cond.methodLink RL 260 yX13_summit) ∈ lw_tbl := tp_13 _ (List.mem_of_getElem? (i := 91) rfl)
theorem tw_968 : (Cond.instanceMethod yX13_summit) ∈ lw_tbl := tp_13 _ (List.mem_of_getElem? (i := 92) rfl)
theorem tw_969 : (Cond.selects RX13 yX13_summit yX13_summit) ∈ lw_tbl := tp_13 _ (List.mem_of_getElem? (i := 93) rfl)
theorem tw_970 : (Cond.code yX13_summit cX13_summit 2 (some .int)) ∈ lw_tbl := tp_13 _ (List.mem_of_getElem? (i := 94) rfl)
theorem in_wf_M_summit : ∀ w ∈ wf_M_summit, w ∈ lw_tbl := by
  show ∀ w ∈ .code yX13_summit cX13_summit 2 (some .int) :: ([.fieldLink RX13 1 "KnotHouseModel" "thrown" "I"] ++ wsX130 ++ (wsV RX13 739 RX13 yX13_hasBraid wf_MhasBraid ++ wsV RX13 403 RX13 yX13_fails wf_Mfails)), w ∈ lw_tbl
  exact (List.forall_mem_cons.mpr ⟨tw_970, (List.forall_mem_append.mpr ⟨(List.forall_mem_append.mpr ⟨(List.forall_mem_cons.mpr ⟨tw_625, (fun _ h => absurd h List.not_mem_nil)⟩), in_wsX130⟩), (List.forall_mem_append.mpr ⟨(List.forall_mem_append.mpr ⟨(List.forall_mem_cons.mpr ⟨tw_733, (List.forall_mem_cons.mpr ⟨tw_734, (List.forall_mem_cons.mpr ⟨tw_735, (List.forall_mem_cons.mpr ⟨tw_333, (fun _ h => absurd h List.not_mem_nil)⟩)⟩)⟩)⟩), in_wf_MhasBraid⟩), (List.forall_mem_append.mpr ⟨(List.forall_mem_cons.mpr ⟨tw_638, (List.forall_mem_cons.mpr ⟨tw_639, (List.forall_mem_cons.mpr ⟨tw_640, (List.forall_mem_cons.mpr ⟨tw_333, (fun _ h => absurd h List.not_mem_nil)⟩)⟩)⟩)⟩), in_wf_Mfails⟩)⟩)⟩)⟩)
theorem tw_971 : (Cond.methodLink RL 261 yL_conjugate) ∈ lw_tbl := tp_9 _ (List.mem_of_getElem? (i := 63) rfl)
theorem tw_972 : (Cond.static yL_conjugate) ∈ lw_tbl := tp_9 _ (List.mem_of_getElem? (i := 64) rfl)
theorem tw_973 : (Cond.codeWith yL_conjugate cL_conjugate 5 (some .int) [(0, 10, 13, 33), (0, 10, 17, 19), (0, 10, 21, 54)]) ∈ lw_tbl := tp_9 _ (List.mem_of_getElem? (i := 65) rfl)
theorem in_wf_L_conjugate : ∀ w ∈ wf_L_conjugate, w ∈ lw_tbl := by
  show ∀ w ∈ .codeWith yL_conjugate cL_conjugate 5 (some .int) [(0, 10, 13, 33), (0, 10, 17, 19), (0, 10, 21, 54)] :: (.classLink RL 33 "java/lang/IndexOutOfBoundsException" :: wsV RL 121 RX11 yX11_conjugate wf_conjugate), w ∈ lw_tbl
  exact (List.forall_mem_cons.mpr ⟨tw_973, (List.forall_mem_cons.mpr ⟨tw_740, (List.forall_mem_append.mpr ⟨(List.forall_mem_cons.mpr ⟨tw_608, (List.forall_mem_cons.mpr ⟨tw_609, (List.forall_mem_cons.mpr ⟨tw_610, (List.forall_mem_cons.mpr ⟨tw_362, (fun _ h => absurd h List.not_mem_nil)⟩)⟩)⟩)⟩), in_wf_conjugate⟩)⟩)⟩)
theorem tw_974 : (Cond.methodLink RL 263 yX13_conjugate) ∈ lw_tbl := tp_13 _ (List.mem_of_getElem? (i := 115) rfl)
theorem tw_975 : (Cond.instanceMethod yX13_conjugate) ∈ lw_tbl := tp_13 _ (List.mem_of_getElem? (i := 116) rfl)
theorem tw_976 : (Cond.selects RX13 yX13_conjugate yX13_conjugate) ∈ lw_tbl := tp_13 _ (List.mem_of_getElem? (i := 117) rfl)
theorem tw_977 : (Cond.code yX13_conjugate cX13_conjugate 4 (some .int)) ∈ lw_tbl := tp_13 _ (List.mem_of_getElem? (i := 118) rfl)
theorem in_wf_M_conjugate : ∀ w ∈ wf_M_conjugate, w ∈ lw_tbl := by
  show ∀ w ∈ .code yX13_conjugate cX13_conjugate 4 (some .int) :: ([.fieldLink RX13 1 "KnotHouseModel" "thrown" "I"] ++ wsX130 ++ (wsV RX13 739 RX13 yX13_hasBraid wf_MhasBraid ++ wsV RX13 403 RX13 yX13_fails wf_Mfails)), w ∈ lw_tbl
  exact (List.forall_mem_cons.mpr ⟨tw_977, (List.forall_mem_append.mpr ⟨(List.forall_mem_append.mpr ⟨(List.forall_mem_cons.mpr ⟨tw_625, (fun _ h => absurd h List.not_mem_nil)⟩), in_wsX130⟩), (List.forall_mem_append.mpr ⟨(List.forall_mem_append.mpr ⟨(List.forall_mem_cons.mpr ⟨tw_733, (List.forall_mem_cons.mpr ⟨tw_734, (List.forall_mem_cons.mpr ⟨tw_735, (List.forall_mem_cons.mpr ⟨tw_333, (fun _ h => absurd h List.not_mem_nil)⟩)⟩)⟩)⟩), in_wf_MhasBraid⟩), (List.forall_mem_append.mpr ⟨(List.forall_mem_cons.mpr ⟨tw_638, (List.forall_mem_cons.mpr ⟨tw_639, (List.forall_mem_cons.mpr ⟨tw_640, (List.forall_mem_cons.mpr ⟨tw_333, (fun _ h => absurd h List.not_mem_nil)⟩)⟩)⟩)⟩), in_wf_Mfails⟩)⟩)⟩)⟩)
theorem tw_978 : (Cond.methodLink RL 264 yL_two) ∈ lw_tbl := tp_9 _ (List.mem_of_getElem? (i := 74) rfl)
theorem tw_979 : (Cond.static yL_two) ∈ lw_tbl := tp_9 _ (List.mem_of_getElem? (i := 75) rfl)
theorem tw_980 : (Cond.codeWith yL_two cL_two 6 (some .int) [(0, 12, 15, 33), (0, 12, 19, 54)]) ∈ lw_tbl := tp_9 _ (List.mem_of_getElem? (i := 76) rfl)
theorem in_wf_L_two : ∀ w ∈ wf_L_two, w ∈ lw_tbl := by
  show ∀ w ∈ .codeWith yL_two cL_two 6 (some .int) [(0, 12, 15, 33), (0, 12, 19, 54)] :: (.classLink RL 33 "java/lang/IndexOutOfBoundsException" :: wsV RL 124 RX11 yX11_two wf_two), w ∈ lw_tbl
  exact (List.forall_mem_cons.mpr ⟨tw_980, (List.forall_mem_cons.mpr ⟨tw_740, (List.forall_mem_append.mpr ⟨(List.forall_mem_cons.mpr ⟨tw_612, (List.forall_mem_cons.mpr ⟨tw_613, (List.forall_mem_cons.mpr ⟨tw_614, (List.forall_mem_cons.mpr ⟨tw_362, (fun _ h => absurd h List.not_mem_nil)⟩)⟩)⟩)⟩), in_wf_two⟩)⟩)⟩)
theorem tw_981 : (Cond.methodLink RL 266 yX13_two) ∈ lw_tbl := tp_13 _ (List.mem_of_getElem? (i := 131) rfl)
theorem tw_982 : (Cond.instanceMethod yX13_two) ∈ lw_tbl := tp_13 _ (List.mem_of_getElem? (i := 132) rfl)
theorem tw_983 : (Cond.selects RX13 yX13_two yX13_two) ∈ lw_tbl := tp_13 _ (List.mem_of_getElem? (i := 133) rfl)
theorem tw_984 : (Cond.code yX13_two cX13_two 5 (some .int)) ∈ lw_tbl := tp_13 _ (List.mem_of_getElem? (i := 134) rfl)
theorem in_wf_M_two : ∀ w ∈ wf_M_two, w ∈ lw_tbl := by
  show ∀ w ∈ .code yX13_two cX13_two 5 (some .int) :: ([.fieldLink RX13 1 "KnotHouseModel" "thrown" "I"] ++ wsX130 ++ (wsV RX13 739 RX13 yX13_hasBraid wf_MhasBraid ++ wsV RX13 403 RX13 yX13_fails wf_Mfails)), w ∈ lw_tbl
  exact (List.forall_mem_cons.mpr ⟨tw_984, (List.forall_mem_append.mpr ⟨(List.forall_mem_append.mpr ⟨(List.forall_mem_cons.mpr ⟨tw_625, (fun _ h => absurd h List.not_mem_nil)⟩), in_wsX130⟩), (List.forall_mem_append.mpr ⟨(List.forall_mem_append.mpr ⟨(List.forall_mem_cons.mpr ⟨tw_733, (List.forall_mem_cons.mpr ⟨tw_734, (List.forall_mem_cons.mpr ⟨tw_735, (List.forall_mem_cons.mpr ⟨tw_333, (fun _ h => absurd h List.not_mem_nil)⟩)⟩)⟩)⟩), in_wf_MhasBraid⟩), (List.forall_mem_append.mpr ⟨(List.forall_mem_cons.mpr ⟨tw_638, (List.forall_mem_cons.mpr ⟨tw_639, (List.forall_mem_cons.mpr ⟨tw_640, (List.forall_mem_cons.mpr ⟨tw_333, (fun _ h => absurd h List.not_mem_nil)⟩)⟩)⟩)⟩), in_wf_Mfails⟩)⟩)⟩)⟩)
theorem gw_X11_feed : GoodIn lw_tbl (wsV RL 7 RX11 yX11_feed wf_feed) := goodIn_sub (List.forall_mem_append.mpr ⟨(List.forall_mem_cons.mpr ⟨tw_359, (List.forall_mem_cons.mpr ⟨tw_360, (List.forall_mem_cons.mpr ⟨tw_361, (List.forall_mem_cons.mpr ⟨tw_362, (fun _ h => absurd h List.not_mem_nil)⟩)⟩)⟩)⟩), in_wf_feed⟩) (by decide +kernel)
theorem gw_X11_end : GoodIn lw_tbl (wsV RL 15 RX11 yX11_end wf_end) := goodIn_sub (List.forall_mem_append.mpr ⟨(List.forall_mem_cons.mpr ⟨tw_370, (List.forall_mem_cons.mpr ⟨tw_371, (List.forall_mem_cons.mpr ⟨tw_372, (List.forall_mem_cons.mpr ⟨tw_362, (fun _ h => absurd h List.not_mem_nil)⟩)⟩)⟩)⟩), in_wf_end⟩) (by decide +kernel)
theorem gw_X11_diagram : GoodIn lw_tbl (wsV RL 21 RX11 yX11_diagram wf_diagram) := goodIn_sub (List.forall_mem_append.mpr ⟨(List.forall_mem_cons.mpr ⟨tw_376, (List.forall_mem_cons.mpr ⟨tw_377, (List.forall_mem_cons.mpr ⟨tw_378, (List.forall_mem_cons.mpr ⟨tw_362, (fun _ h => absurd h List.not_mem_nil)⟩)⟩)⟩)⟩), in_wf_diagram⟩) (by decide +kernel)
theorem gw_X11_braid : GoodIn lw_tbl (wsV RL 25 RX11 yX11_braid wf_braid) := goodIn_sub (List.forall_mem_append.mpr ⟨(List.forall_mem_cons.mpr ⟨tw_461, (List.forall_mem_cons.mpr ⟨tw_462, (List.forall_mem_cons.mpr ⟨tw_463, (List.forall_mem_cons.mpr ⟨tw_362, (fun _ h => absurd h List.not_mem_nil)⟩)⟩)⟩)⟩), in_wf_braid⟩) (by decide +kernel)
theorem gw_X11_figure : GoodIn lw_tbl (wsV RL 29 RX11 yX11_figure wf_figure) := goodIn_sub (List.forall_mem_append.mpr ⟨(List.forall_mem_cons.mpr ⟨tw_473, (List.forall_mem_cons.mpr ⟨tw_474, (List.forall_mem_cons.mpr ⟨tw_475, (List.forall_mem_cons.mpr ⟨tw_362, (fun _ h => absurd h List.not_mem_nil)⟩)⟩)⟩)⟩), in_wf_figure⟩) (by decide +kernel)
theorem gw_X11_visit : GoodIn lw_tbl (wsV RL 35 RX11 yX11_visit wf_visit) := goodIn_sub (List.forall_mem_append.mpr ⟨(List.forall_mem_cons.mpr ⟨tw_487, (List.forall_mem_cons.mpr ⟨tw_488, (List.forall_mem_cons.mpr ⟨tw_489, (List.forall_mem_cons.mpr ⟨tw_362, (fun _ h => absurd h List.not_mem_nil)⟩)⟩)⟩)⟩), in_wf_visit⟩) (by decide +kernel)
theorem gw_X11_linking : GoodIn lw_tbl (wsV RL 39 RX11 yX11_linking wf_linking) := goodIn_sub (List.forall_mem_append.mpr ⟨(List.forall_mem_cons.mpr ⟨tw_491, (List.forall_mem_cons.mpr ⟨tw_492, (List.forall_mem_cons.mpr ⟨tw_493, (List.forall_mem_cons.mpr ⟨tw_362, (fun _ h => absurd h List.not_mem_nil)⟩)⟩)⟩)⟩), in_wf_linking⟩) (by decide +kernel)
theorem gw_X11_mirror : GoodIn lw_tbl (wsV RL 42 RX11 yX11_mirror wf_mirror) := goodIn_sub (List.forall_mem_append.mpr ⟨(List.forall_mem_cons.mpr ⟨tw_495, (List.forall_mem_cons.mpr ⟨tw_496, (List.forall_mem_cons.mpr ⟨tw_497, (List.forall_mem_cons.mpr ⟨tw_362, (fun _ h => absurd h List.not_mem_nil)⟩)⟩)⟩)⟩), in_wf_mirror⟩) (by decide +kernel)
theorem gw_X11_reverse : GoodIn lw_tbl (wsV RL 45 RX11 yX11_reverse wf_reverse) := goodIn_sub (List.forall_mem_append.mpr ⟨(List.forall_mem_cons.mpr ⟨tw_499, (List.forall_mem_cons.mpr ⟨tw_500, (List.forall_mem_cons.mpr ⟨tw_501, (List.forall_mem_cons.mpr ⟨tw_362, (fun _ h => absurd h List.not_mem_nil)⟩)⟩)⟩)⟩), in_wf_reverse⟩) (by decide +kernel)
theorem gw_X11_change : GoodIn lw_tbl (wsV RL 48 RX11 yX11_change wf_change) := goodIn_sub (List.forall_mem_append.mpr ⟨(List.forall_mem_cons.mpr ⟨tw_503, (List.forall_mem_cons.mpr ⟨tw_504, (List.forall_mem_cons.mpr ⟨tw_505, (List.forall_mem_cons.mpr ⟨tw_362, (fun _ h => absurd h List.not_mem_nil)⟩)⟩)⟩)⟩), in_wf_change⟩) (by decide +kernel)
theorem gw_X11_smooth : GoodIn lw_tbl (wsV RL 51 RX11 yX11_smooth wf_smooth) := goodIn_sub (List.forall_mem_append.mpr ⟨(List.forall_mem_cons.mpr ⟨tw_507, (List.forall_mem_cons.mpr ⟨tw_508, (List.forall_mem_cons.mpr ⟨tw_509, (List.forall_mem_cons.mpr ⟨tw_362, (fun _ h => absurd h List.not_mem_nil)⟩)⟩)⟩)⟩), in_wf_smooth⟩) (by decide +kernel)
theorem gw_X11_apart : GoodIn lw_tbl (wsV RL 56 RX11 yX11_apart wf_apart) := goodIn_sub (List.forall_mem_append.mpr ⟨(List.forall_mem_cons.mpr ⟨tw_511, (List.forall_mem_cons.mpr ⟨tw_512, (List.forall_mem_cons.mpr ⟨tw_513, (List.forall_mem_cons.mpr ⟨tw_362, (fun _ h => absurd h List.not_mem_nil)⟩)⟩)⟩)⟩), in_wf_apart⟩) (by decide +kernel)
theorem gw_X11_join : GoodIn lw_tbl (wsV RL 59 RX11 yX11_join wf_join) := goodIn_sub (List.forall_mem_append.mpr ⟨(List.forall_mem_cons.mpr ⟨tw_515, (List.forall_mem_cons.mpr ⟨tw_516, (List.forall_mem_cons.mpr ⟨tw_517, (List.forall_mem_cons.mpr ⟨tw_362, (fun _ h => absurd h List.not_mem_nil)⟩)⟩)⟩)⟩), in_wf_join⟩) (by decide +kernel)
theorem gw_X11_moves : GoodIn lw_tbl (wsV RL 63 RX11 yX11_moves wf_moves) := goodIn_sub (List.forall_mem_append.mpr ⟨(List.forall_mem_cons.mpr ⟨tw_519, (List.forall_mem_cons.mpr ⟨tw_520, (List.forall_mem_cons.mpr ⟨tw_521, (List.forall_mem_cons.mpr ⟨tw_362, (fun _ h => absurd h List.not_mem_nil)⟩)⟩)⟩)⟩), in_wf_moves⟩) (by decide +kernel)
theorem gw_X11_moved : GoodIn lw_tbl (wsV RL 66 RX11 yX11_moved wf_moved) := goodIn_sub (List.forall_mem_append.mpr ⟨(List.forall_mem_cons.mpr ⟨tw_523, (List.forall_mem_cons.mpr ⟨tw_524, (List.forall_mem_cons.mpr ⟨tw_525, (List.forall_mem_cons.mpr ⟨tw_362, (fun _ h => absurd h List.not_mem_nil)⟩)⟩)⟩)⟩), in_wf_moved⟩) (by decide +kernel)
theorem gw_X11_simplify : GoodIn lw_tbl (wsV RL 69 RX11 yX11_simplify wf_simplify) := goodIn_sub (List.forall_mem_append.mpr ⟨(List.forall_mem_cons.mpr ⟨tw_532, (List.forall_mem_cons.mpr ⟨tw_533, (List.forall_mem_cons.mpr ⟨tw_534, (List.forall_mem_cons.mpr ⟨tw_362, (fun _ h => absurd h List.not_mem_nil)⟩)⟩)⟩)⟩), in_wf_simplify⟩) (by decide +kernel)
theorem gw_X11_way : GoodIn lw_tbl (wsV RL 72 RX11 yX11_way wf_way) := goodIn_sub (List.forall_mem_append.mpr ⟨(List.forall_mem_cons.mpr ⟨tw_536, (List.forall_mem_cons.mpr ⟨tw_537, (List.forall_mem_cons.mpr ⟨tw_538, (List.forall_mem_cons.mpr ⟨tw_362, (fun _ h => absurd h List.not_mem_nil)⟩)⟩)⟩)⟩), in_wf_way⟩) (by decide +kernel)
theorem gw_X11_summands : GoodIn lw_tbl (wsV RL 75 RX11 yX11_summands wf_summands) := goodIn_sub (List.forall_mem_append.mpr ⟨(List.forall_mem_cons.mpr ⟨tw_540, (List.forall_mem_cons.mpr ⟨tw_541, (List.forall_mem_cons.mpr ⟨tw_542, (List.forall_mem_cons.mpr ⟨tw_362, (fun _ h => absurd h List.not_mem_nil)⟩)⟩)⟩)⟩), in_wf_summands⟩) (by decide +kernel)
theorem gw_X11_summand : GoodIn lw_tbl (wsV RL 78 RX11 yX11_summand wf_summand) := goodIn_sub (List.forall_mem_append.mpr ⟨(List.forall_mem_cons.mpr ⟨tw_544, (List.forall_mem_cons.mpr ⟨tw_545, (List.forall_mem_cons.mpr ⟨tw_546, (List.forall_mem_cons.mpr ⟨tw_362, (fun _ h => absurd h List.not_mem_nil)⟩)⟩)⟩)⟩), in_wf_summand⟩) (by decide +kernel)
theorem gw_X11_conway : GoodIn lw_tbl (wsV RL 81 RX11 yX11_conway wf_conway) := goodIn_sub (List.forall_mem_append.mpr ⟨(List.forall_mem_cons.mpr ⟨tw_548, (List.forall_mem_cons.mpr ⟨tw_549, (List.forall_mem_cons.mpr ⟨tw_550, (List.forall_mem_cons.mpr ⟨tw_362, (fun _ h => absurd h List.not_mem_nil)⟩)⟩)⟩)⟩), in_wf_conway⟩) (by decide +kernel)
theorem gw_X11_jones : GoodIn lw_tbl (wsV RL 84 RX11 yX11_jones wf_jones) := goodIn_sub (List.forall_mem_append.mpr ⟨(List.forall_mem_cons.mpr ⟨tw_552, (List.forall_mem_cons.mpr ⟨tw_553, (List.forall_mem_cons.mpr ⟨tw_554, (List.forall_mem_cons.mpr ⟨tw_362, (fun _ h => absurd h List.not_mem_nil)⟩)⟩)⟩)⟩), in_wf_jones⟩) (by decide +kernel)
theorem gw_X11_signature : GoodIn lw_tbl (wsV RL 87 RX11 yX11_signature wf_signature) := goodIn_sub (List.forall_mem_append.mpr ⟨(List.forall_mem_cons.mpr ⟨tw_556, (List.forall_mem_cons.mpr ⟨tw_557, (List.forall_mem_cons.mpr ⟨tw_558, (List.forall_mem_cons.mpr ⟨tw_362, (fun _ h => absurd h List.not_mem_nil)⟩)⟩)⟩)⟩), in_wf_signature⟩) (by decide +kernel)
theorem gw_X11_cover : GoodIn lw_tbl (wsV RL 90 RX11 yX11_cover wf_cover) := goodIn_sub (List.forall_mem_append.mpr ⟨(List.forall_mem_cons.mpr ⟨tw_560, (List.forall_mem_cons.mpr ⟨tw_561, (List.forall_mem_cons.mpr ⟨tw_562, (List.forall_mem_cons.mpr ⟨tw_362, (fun _ h => absurd h List.not_mem_nil)⟩)⟩)⟩)⟩), in_wf_cover⟩) (by decide +kernel)
theorem gw_X11_colours : GoodIn lw_tbl (wsV RL 93 RX11 yX11_colours wf_colours) := goodIn_sub (List.forall_mem_append.mpr ⟨(List.forall_mem_cons.mpr ⟨tw_564, (List.forall_mem_cons.mpr ⟨tw_565, (List.forall_mem_cons.mpr ⟨tw_566, (List.forall_mem_cons.mpr ⟨tw_362, (fun _ h => absurd h List.not_mem_nil)⟩)⟩)⟩)⟩), in_wf_colours⟩) (by decide +kernel)
theorem gw_X11_maps : GoodIn lw_tbl (wsV RL 97 RX11 yX11_maps wf_maps) := goodIn_sub (List.forall_mem_append.mpr ⟨(List.forall_mem_cons.mpr ⟨tw_568, (List.forall_mem_cons.mpr ⟨tw_569, (List.forall_mem_cons.mpr ⟨tw_570, (List.forall_mem_cons.mpr ⟨tw_362, (fun _ h => absurd h List.not_mem_nil)⟩)⟩)⟩)⟩), in_wf_maps⟩) (by decide +kernel)
theorem gw_X11_chain : GoodIn lw_tbl (wsV RL 100 RX11 yX11_chain wf_chain) := goodIn_sub (List.forall_mem_append.mpr ⟨(List.forall_mem_cons.mpr ⟨tw_572, (List.forall_mem_cons.mpr ⟨tw_573, (List.forall_mem_cons.mpr ⟨tw_574, (List.forall_mem_cons.mpr ⟨tw_362, (fun _ h => absurd h List.not_mem_nil)⟩)⟩)⟩)⟩), in_wf_chain⟩) (by decide +kernel)
theorem gw_X11_closure : GoodIn lw_tbl (wsV RL 103 RX11 yX11_closure wf_closure) := goodIn_sub (List.forall_mem_append.mpr ⟨(List.forall_mem_cons.mpr ⟨tw_576, (List.forall_mem_cons.mpr ⟨tw_577, (List.forall_mem_cons.mpr ⟨tw_578, (List.forall_mem_cons.mpr ⟨tw_362, (fun _ h => absurd h List.not_mem_nil)⟩)⟩)⟩)⟩), in_wf_closure⟩) (by decide +kernel)
theorem gw_X11_product : GoodIn lw_tbl (wsV RL 106 RX11 yX11_product wf_product) := goodIn_sub (List.forall_mem_append.mpr ⟨(List.forall_mem_cons.mpr ⟨tw_588, (List.forall_mem_cons.mpr ⟨tw_589, (List.forall_mem_cons.mpr ⟨tw_590, (List.forall_mem_cons.mpr ⟨tw_362, (fun _ h => absurd h List.not_mem_nil)⟩)⟩)⟩)⟩), in_wf_product⟩) (by decide +kernel)
theorem gw_X11_inverse : GoodIn lw_tbl (wsV RL 109 RX11 yX11_inverse wf_inverse) := goodIn_sub (List.forall_mem_append.mpr ⟨(List.forall_mem_cons.mpr ⟨tw_592, (List.forall_mem_cons.mpr ⟨tw_593, (List.forall_mem_cons.mpr ⟨tw_594, (List.forall_mem_cons.mpr ⟨tw_362, (fun _ h => absurd h List.not_mem_nil)⟩)⟩)⟩)⟩), in_wf_inverse⟩) (by decide +kernel)
theorem gw_X11_normal : GoodIn lw_tbl (wsV RL 112 RX11 yX11_normal wf_normal) := goodIn_sub (List.forall_mem_append.mpr ⟨(List.forall_mem_cons.mpr ⟨tw_596, (List.forall_mem_cons.mpr ⟨tw_597, (List.forall_mem_cons.mpr ⟨tw_598, (List.forall_mem_cons.mpr ⟨tw_362, (fun _ h => absurd h List.not_mem_nil)⟩)⟩)⟩)⟩), in_wf_normal⟩) (by decide +kernel)
theorem gw_X11_factor : GoodIn lw_tbl (wsV RL 115 RX11 yX11_factor wf_factor) := goodIn_sub (List.forall_mem_append.mpr ⟨(List.forall_mem_cons.mpr ⟨tw_600, (List.forall_mem_cons.mpr ⟨tw_601, (List.forall_mem_cons.mpr ⟨tw_602, (List.forall_mem_cons.mpr ⟨tw_362, (fun _ h => absurd h List.not_mem_nil)⟩)⟩)⟩)⟩), in_wf_factor⟩) (by decide +kernel)
theorem gw_X11_summit : GoodIn lw_tbl (wsV RL 118 RX11 yX11_summit wf_summit) := goodIn_sub (List.forall_mem_append.mpr ⟨(List.forall_mem_cons.mpr ⟨tw_604, (List.forall_mem_cons.mpr ⟨tw_605, (List.forall_mem_cons.mpr ⟨tw_606, (List.forall_mem_cons.mpr ⟨tw_362, (fun _ h => absurd h List.not_mem_nil)⟩)⟩)⟩)⟩), in_wf_summit⟩) (by decide +kernel)
theorem gw_X11_conjugate : GoodIn lw_tbl (wsV RL 121 RX11 yX11_conjugate wf_conjugate) := goodIn_sub (List.forall_mem_append.mpr ⟨(List.forall_mem_cons.mpr ⟨tw_608, (List.forall_mem_cons.mpr ⟨tw_609, (List.forall_mem_cons.mpr ⟨tw_610, (List.forall_mem_cons.mpr ⟨tw_362, (fun _ h => absurd h List.not_mem_nil)⟩)⟩)⟩)⟩), in_wf_conjugate⟩) (by decide +kernel)
theorem gw_X11_two : GoodIn lw_tbl (wsV RL 124 RX11 yX11_two wf_two) := goodIn_sub (List.forall_mem_append.mpr ⟨(List.forall_mem_cons.mpr ⟨tw_612, (List.forall_mem_cons.mpr ⟨tw_613, (List.forall_mem_cons.mpr ⟨tw_614, (List.forall_mem_cons.mpr ⟨tw_362, (fun _ h => absurd h List.not_mem_nil)⟩)⟩)⟩)⟩), in_wf_two⟩) (by decide +kernel)
theorem gw_X11_init : GoodIn lw_tbl wsX11_init := goodIn_sub in_wsX11_init (by decide +kernel)
theorem gw_X13_init : GoodIn lw_tbl wf_Minit := goodIn_sub in_wf_Minit (by decide +kernel)
theorem gw_L_feed : GoodIn lw_tbl (va_wsS RL 131 yL_feed wf_L_feed) := goodIn_sub (List.forall_mem_append.mpr ⟨(List.forall_mem_cons.mpr ⟨tw_616, (List.forall_mem_cons.mpr ⟨tw_617, (List.forall_mem_cons.mpr ⟨tw_618, (fun _ h => absurd h List.not_mem_nil)⟩)⟩)⟩), in_wf_L_feed⟩) (by decide +kernel)
theorem gw_X13_feed : GoodIn lw_tbl (wsV RL 136 RX13 yX13_feed wf_M_feed) := goodIn_sub (List.forall_mem_append.mpr ⟨(List.forall_mem_cons.mpr ⟨tw_620, (List.forall_mem_cons.mpr ⟨tw_621, (List.forall_mem_cons.mpr ⟨tw_622, (List.forall_mem_cons.mpr ⟨tw_333, (fun _ h => absurd h List.not_mem_nil)⟩)⟩)⟩)⟩), in_wf_M_feed⟩) (by decide +kernel)
theorem gw_X13_thrown : GoodIn lw_tbl (wsV RL 137 RX13 yX13_thrown wf_Mthrown) := goodIn_sub (List.forall_mem_append.mpr ⟨(List.forall_mem_cons.mpr ⟨tw_626, (List.forall_mem_cons.mpr ⟨tw_627, (List.forall_mem_cons.mpr ⟨tw_628, (List.forall_mem_cons.mpr ⟨tw_333, (fun _ h => absurd h List.not_mem_nil)⟩)⟩)⟩)⟩), in_wf_Mthrown⟩) (by decide +kernel)
theorem gw_L_end : GoodIn lw_tbl (va_wsS RL 140 yL_end wf_L_end) := goodIn_sub (List.forall_mem_append.mpr ⟨(List.forall_mem_cons.mpr ⟨tw_630, (List.forall_mem_cons.mpr ⟨tw_631, (List.forall_mem_cons.mpr ⟨tw_618, (fun _ h => absurd h List.not_mem_nil)⟩)⟩)⟩), in_wf_L_end⟩) (by decide +kernel)
theorem gw_X13_end : GoodIn lw_tbl (wsV RL 143 RX13 yX13_end wf_M_end) := goodIn_sub (List.forall_mem_append.mpr ⟨(List.forall_mem_cons.mpr ⟨tw_634, (List.forall_mem_cons.mpr ⟨tw_635, (List.forall_mem_cons.mpr ⟨tw_636, (List.forall_mem_cons.mpr ⟨tw_333, (fun _ h => absurd h List.not_mem_nil)⟩)⟩)⟩)⟩), in_wf_M_end⟩) (by decide +kernel)
theorem gw_L_diagram : GoodIn lw_tbl (va_wsS RL 144 yL_diagram wf_L_diagram) := goodIn_sub (List.forall_mem_append.mpr ⟨(List.forall_mem_cons.mpr ⟨tw_642, (List.forall_mem_cons.mpr ⟨tw_643, (List.forall_mem_cons.mpr ⟨tw_618, (fun _ h => absurd h List.not_mem_nil)⟩)⟩)⟩), in_wf_L_diagram⟩) (by decide +kernel)
theorem gw_X13_diagram : GoodIn lw_tbl (wsV RL 147 RX13 yX13_diagram wf_N_diagram) := goodIn_sub (List.forall_mem_append.mpr ⟨(List.forall_mem_cons.mpr ⟨tw_645, (List.forall_mem_cons.mpr ⟨tw_646, (List.forall_mem_cons.mpr ⟨tw_647, (List.forall_mem_cons.mpr ⟨tw_333, (fun _ h => absurd h List.not_mem_nil)⟩)⟩)⟩)⟩), in_wf_N_diagram⟩) (by decide +kernel)
theorem gw_L_braid : GoodIn lw_tbl (va_wsS RL 148 yL_braid wf_L_braid) := goodIn_sub (List.forall_mem_append.mpr ⟨(List.forall_mem_cons.mpr ⟨tw_702, (List.forall_mem_cons.mpr ⟨tw_703, (List.forall_mem_cons.mpr ⟨tw_618, (fun _ h => absurd h List.not_mem_nil)⟩)⟩)⟩), in_wf_L_braid⟩) (by decide +kernel)
theorem gw_X13_braid : GoodIn lw_tbl (wsV RL 151 RX13 yX13_braid wf_M_braid) := goodIn_sub (List.forall_mem_append.mpr ⟨(List.forall_mem_cons.mpr ⟨tw_705, (List.forall_mem_cons.mpr ⟨tw_706, (List.forall_mem_cons.mpr ⟨tw_707, (List.forall_mem_cons.mpr ⟨tw_333, (fun _ h => absurd h List.not_mem_nil)⟩)⟩)⟩)⟩), in_wf_M_braid⟩) (by decide +kernel)
theorem gw_X11_drop : GoodIn lw_tbl (wsV RL 152 RX11 yX11_drop wf_drop) := goodIn_sub (List.forall_mem_append.mpr ⟨(List.forall_mem_cons.mpr ⟨tw_713, (List.forall_mem_cons.mpr ⟨tw_714, (List.forall_mem_cons.mpr ⟨tw_715, (List.forall_mem_cons.mpr ⟨tw_362, (fun _ h => absurd h List.not_mem_nil)⟩)⟩)⟩)⟩), in_wf_drop⟩) (by decide +kernel)
theorem gw_X13_drop : GoodIn lw_tbl (wsV RL 156 RX13 yX13_drop wf_M_drop) := goodIn_sub (List.forall_mem_append.mpr ⟨(List.forall_mem_cons.mpr ⟨tw_717, (List.forall_mem_cons.mpr ⟨tw_718, (List.forall_mem_cons.mpr ⟨tw_719, (List.forall_mem_cons.mpr ⟨tw_333, (fun _ h => absurd h List.not_mem_nil)⟩)⟩)⟩)⟩), in_wf_M_drop⟩) (by decide +kernel)
theorem gw_X11_dropBraid : GoodIn lw_tbl (wsV RL 157 RX11 yX11_dropBraid wf_dropBraid) := goodIn_sub (List.forall_mem_append.mpr ⟨(List.forall_mem_cons.mpr ⟨tw_725, (List.forall_mem_cons.mpr ⟨tw_726, (List.forall_mem_cons.mpr ⟨tw_727, (List.forall_mem_cons.mpr ⟨tw_362, (fun _ h => absurd h List.not_mem_nil)⟩)⟩)⟩)⟩), in_wf_dropBraid⟩) (by decide +kernel)
theorem gw_X13_dropBraid : GoodIn lw_tbl (wsV RL 160 RX13 yX13_dropBraid wf_M_dropBraid) := goodIn_sub (List.forall_mem_append.mpr ⟨(List.forall_mem_cons.mpr ⟨tw_729, (List.forall_mem_cons.mpr ⟨tw_730, (List.forall_mem_cons.mpr ⟨tw_731, (List.forall_mem_cons.mpr ⟨tw_333, (fun _ h => absurd h List.not_mem_nil)⟩)⟩)⟩)⟩), in_wf_M_dropBraid⟩) (by decide +kernel)
theorem gw_L_figure : GoodIn lw_tbl (va_wsS RL 161 yL_figure wf_L_figure) := goodIn_sub (List.forall_mem_append.mpr ⟨(List.forall_mem_cons.mpr ⟨tw_737, (List.forall_mem_cons.mpr ⟨tw_738, (List.forall_mem_cons.mpr ⟨tw_618, (fun _ h => absurd h List.not_mem_nil)⟩)⟩)⟩), in_wf_L_figure⟩) (by decide +kernel)
theorem gw_X13_figure : GoodIn lw_tbl (wsV RL 164 RX13 yX13_figure wf_M_figure) := goodIn_sub (List.forall_mem_append.mpr ⟨(List.forall_mem_cons.mpr ⟨tw_741, (List.forall_mem_cons.mpr ⟨tw_742, (List.forall_mem_cons.mpr ⟨tw_743, (List.forall_mem_cons.mpr ⟨tw_333, (fun _ h => absurd h List.not_mem_nil)⟩)⟩)⟩)⟩), in_wf_M_figure⟩) (by decide +kernel)
theorem gw_L_visit : GoodIn lw_tbl (va_wsS RL 165 yL_visit wf_L_visit) := goodIn_sub (List.forall_mem_append.mpr ⟨(List.forall_mem_cons.mpr ⟨tw_745, (List.forall_mem_cons.mpr ⟨tw_746, (List.forall_mem_cons.mpr ⟨tw_618, (fun _ h => absurd h List.not_mem_nil)⟩)⟩)⟩), in_wf_L_visit⟩) (by decide +kernel)
theorem gw_X13_visit : GoodIn lw_tbl (wsV RL 168 RX13 yX13_visit wf_M_visit) := goodIn_sub (List.forall_mem_append.mpr ⟨(List.forall_mem_cons.mpr ⟨tw_748, (List.forall_mem_cons.mpr ⟨tw_749, (List.forall_mem_cons.mpr ⟨tw_750, (List.forall_mem_cons.mpr ⟨tw_333, (fun _ h => absurd h List.not_mem_nil)⟩)⟩)⟩)⟩), in_wf_M_visit⟩) (by decide +kernel)
theorem gw_L_linking : GoodIn lw_tbl (va_wsS RL 169 yL_linking wf_L_linking) := goodIn_sub (List.forall_mem_append.mpr ⟨(List.forall_mem_cons.mpr ⟨tw_752, (List.forall_mem_cons.mpr ⟨tw_753, (List.forall_mem_cons.mpr ⟨tw_618, (fun _ h => absurd h List.not_mem_nil)⟩)⟩)⟩), in_wf_L_linking⟩) (by decide +kernel)
theorem gw_X13_linking : GoodIn lw_tbl (wsV RL 171 RX13 yX13_linking wf_M_linking) := goodIn_sub (List.forall_mem_append.mpr ⟨(List.forall_mem_cons.mpr ⟨tw_755, (List.forall_mem_cons.mpr ⟨tw_756, (List.forall_mem_cons.mpr ⟨tw_757, (List.forall_mem_cons.mpr ⟨tw_333, (fun _ h => absurd h List.not_mem_nil)⟩)⟩)⟩)⟩), in_wf_M_linking⟩) (by decide +kernel)
theorem gw_X11_alike : GoodIn lw_tbl (wsV RL 172 RX11 yX11_alike wf_alike) := goodIn_sub (List.forall_mem_append.mpr ⟨(List.forall_mem_cons.mpr ⟨tw_759, (List.forall_mem_cons.mpr ⟨tw_760, (List.forall_mem_cons.mpr ⟨tw_761, (List.forall_mem_cons.mpr ⟨tw_362, (fun _ h => absurd h List.not_mem_nil)⟩)⟩)⟩)⟩), in_wf_alike⟩) (by decide +kernel)
theorem gw_X13_alike : GoodIn lw_tbl (wsV RL 176 RX13 yX13_alike wf_M_alike) := goodIn_sub (List.forall_mem_append.mpr ⟨(List.forall_mem_cons.mpr ⟨tw_763, (List.forall_mem_cons.mpr ⟨tw_764, (List.forall_mem_cons.mpr ⟨tw_765, (List.forall_mem_cons.mpr ⟨tw_333, (fun _ h => absurd h List.not_mem_nil)⟩)⟩)⟩)⟩), in_wf_M_alike⟩) (by decide +kernel)
theorem gw_L_mirror : GoodIn lw_tbl (va_wsS RL 177 yL_mirror wf_L_mirror) := goodIn_sub (List.forall_mem_append.mpr ⟨(List.forall_mem_cons.mpr ⟨tw_767, (List.forall_mem_cons.mpr ⟨tw_768, (List.forall_mem_cons.mpr ⟨tw_618, (fun _ h => absurd h List.not_mem_nil)⟩)⟩)⟩), in_wf_L_mirror⟩) (by decide +kernel)
theorem gw_X13_mirror : GoodIn lw_tbl (wsV RL 179 RX13 yX13_mirror wf_M_mirror) := goodIn_sub (List.forall_mem_append.mpr ⟨(List.forall_mem_cons.mpr ⟨tw_770, (List.forall_mem_cons.mpr ⟨tw_771, (List.forall_mem_cons.mpr ⟨tw_772, (List.forall_mem_cons.mpr ⟨tw_333, (fun _ h => absurd h List.not_mem_nil)⟩)⟩)⟩)⟩), in_wf_M_mirror⟩) (by decide +kernel)
theorem gw_L_reverse : GoodIn lw_tbl (va_wsS RL 180 yL_reverse wf_L_reverse) := goodIn_sub (List.forall_mem_append.mpr ⟨(List.forall_mem_cons.mpr ⟨tw_774, (List.forall_mem_cons.mpr ⟨tw_775, (List.forall_mem_cons.mpr ⟨tw_618, (fun _ h => absurd h List.not_mem_nil)⟩)⟩)⟩), in_wf_L_reverse⟩) (by decide +kernel)
theorem gw_X13_reverse : GoodIn lw_tbl (wsV RL 182 RX13 yX13_reverse wf_M_reverse) := goodIn_sub (List.forall_mem_append.mpr ⟨(List.forall_mem_cons.mpr ⟨tw_777, (List.forall_mem_cons.mpr ⟨tw_778, (List.forall_mem_cons.mpr ⟨tw_779, (List.forall_mem_cons.mpr ⟨tw_333, (fun _ h => absurd h List.not_mem_nil)⟩)⟩)⟩)⟩), in_wf_M_reverse⟩) (by decide +kernel)
theorem gw_L_change : GoodIn lw_tbl (va_wsS RL 183 yL_change wf_L_change) := goodIn_sub (List.forall_mem_append.mpr ⟨(List.forall_mem_cons.mpr ⟨tw_781, (List.forall_mem_cons.mpr ⟨tw_782, (List.forall_mem_cons.mpr ⟨tw_618, (fun _ h => absurd h List.not_mem_nil)⟩)⟩)⟩), in_wf_L_change⟩) (by decide +kernel)
theorem gw_X13_change : GoodIn lw_tbl (wsV RL 185 RX13 yX13_change wf_M_change) := goodIn_sub (List.forall_mem_append.mpr ⟨(List.forall_mem_cons.mpr ⟨tw_784, (List.forall_mem_cons.mpr ⟨tw_785, (List.forall_mem_cons.mpr ⟨tw_786, (List.forall_mem_cons.mpr ⟨tw_333, (fun _ h => absurd h List.not_mem_nil)⟩)⟩)⟩)⟩), in_wf_M_change⟩) (by decide +kernel)
theorem gw_L_smooth : GoodIn lw_tbl (va_wsS RL 186 yL_smooth wf_L_smooth) := goodIn_sub (List.forall_mem_append.mpr ⟨(List.forall_mem_cons.mpr ⟨tw_788, (List.forall_mem_cons.mpr ⟨tw_789, (List.forall_mem_cons.mpr ⟨tw_618, (fun _ h => absurd h List.not_mem_nil)⟩)⟩)⟩), in_wf_L_smooth⟩) (by decide +kernel)
theorem gw_X13_smooth : GoodIn lw_tbl (wsV RL 188 RX13 yX13_smooth wf_M_smooth) := goodIn_sub (List.forall_mem_append.mpr ⟨(List.forall_mem_cons.mpr ⟨tw_791, (List.forall_mem_cons.mpr ⟨tw_792, (List.forall_mem_cons.mpr ⟨tw_793, (List.forall_mem_cons.mpr ⟨tw_333, (fun _ h => absurd h List.not_mem_nil)⟩)⟩)⟩)⟩), in_wf_M_smooth⟩) (by decide +kernel)
theorem gw_L_apart : GoodIn lw_tbl (va_wsS RL 189 yL_apart wf_L_apart) := goodIn_sub (List.forall_mem_append.mpr ⟨(List.forall_mem_cons.mpr ⟨tw_795, (List.forall_mem_cons.mpr ⟨tw_796, (List.forall_mem_cons.mpr ⟨tw_618, (fun _ h => absurd h List.not_mem_nil)⟩)⟩)⟩), in_wf_L_apart⟩) (by decide +kernel)
theorem gw_X13_apart : GoodIn lw_tbl (wsV RL 191 RX13 yX13_apart wf_M_apart) := goodIn_sub (List.forall_mem_append.mpr ⟨(List.forall_mem_cons.mpr ⟨tw_798, (List.forall_mem_cons.mpr ⟨tw_799, (List.forall_mem_cons.mpr ⟨tw_800, (List.forall_mem_cons.mpr ⟨tw_333, (fun _ h => absurd h List.not_mem_nil)⟩)⟩)⟩)⟩), in_wf_M_apart⟩) (by decide +kernel)
theorem gw_L_join : GoodIn lw_tbl (va_wsS RL 192 yL_join wf_L_join) := goodIn_sub (List.forall_mem_append.mpr ⟨(List.forall_mem_cons.mpr ⟨tw_802, (List.forall_mem_cons.mpr ⟨tw_803, (List.forall_mem_cons.mpr ⟨tw_618, (fun _ h => absurd h List.not_mem_nil)⟩)⟩)⟩), in_wf_L_join⟩) (by decide +kernel)
theorem gw_X13_join : GoodIn lw_tbl (wsV RL 195 RX13 yX13_join wf_M_join) := goodIn_sub (List.forall_mem_append.mpr ⟨(List.forall_mem_cons.mpr ⟨tw_805, (List.forall_mem_cons.mpr ⟨tw_806, (List.forall_mem_cons.mpr ⟨tw_807, (List.forall_mem_cons.mpr ⟨tw_333, (fun _ h => absurd h List.not_mem_nil)⟩)⟩)⟩)⟩), in_wf_M_join⟩) (by decide +kernel)
theorem gw_L_moves : GoodIn lw_tbl (va_wsS RL 196 yL_moves wf_L_moves) := goodIn_sub (List.forall_mem_append.mpr ⟨(List.forall_mem_cons.mpr ⟨tw_809, (List.forall_mem_cons.mpr ⟨tw_810, (List.forall_mem_cons.mpr ⟨tw_618, (fun _ h => absurd h List.not_mem_nil)⟩)⟩)⟩), in_wf_L_moves⟩) (by decide +kernel)
theorem gw_X13_moves : GoodIn lw_tbl (wsV RL 198 RX13 yX13_moves wf_M_moves) := goodIn_sub (List.forall_mem_append.mpr ⟨(List.forall_mem_cons.mpr ⟨tw_812, (List.forall_mem_cons.mpr ⟨tw_813, (List.forall_mem_cons.mpr ⟨tw_814, (List.forall_mem_cons.mpr ⟨tw_333, (fun _ h => absurd h List.not_mem_nil)⟩)⟩)⟩)⟩), in_wf_M_moves⟩) (by decide +kernel)
theorem gw_L_moved : GoodIn lw_tbl (va_wsS RL 199 yL_moved wf_L_moved) := goodIn_sub (List.forall_mem_append.mpr ⟨(List.forall_mem_cons.mpr ⟨tw_816, (List.forall_mem_cons.mpr ⟨tw_817, (List.forall_mem_cons.mpr ⟨tw_618, (fun _ h => absurd h List.not_mem_nil)⟩)⟩)⟩), in_wf_L_moved⟩) (by decide +kernel)
theorem gw_X13_moved : GoodIn lw_tbl (wsV RL 201 RX13 yX13_moved wf_M_moved) := goodIn_sub (List.forall_mem_append.mpr ⟨(List.forall_mem_cons.mpr ⟨tw_819, (List.forall_mem_cons.mpr ⟨tw_820, (List.forall_mem_cons.mpr ⟨tw_821, (List.forall_mem_cons.mpr ⟨tw_333, (fun _ h => absurd h List.not_mem_nil)⟩)⟩)⟩)⟩), in_wf_M_moved⟩) (by decide +kernel)
theorem gw_L_simplify : GoodIn lw_tbl (va_wsS RL 202 yL_simplify wf_L_simplify) := goodIn_sub (List.forall_mem_append.mpr ⟨(List.forall_mem_cons.mpr ⟨tw_824, (List.forall_mem_cons.mpr ⟨tw_825, (List.forall_mem_cons.mpr ⟨tw_618, (fun _ h => absurd h List.not_mem_nil)⟩)⟩)⟩), in_wf_L_simplify⟩) (by decide +kernel)
theorem gw_X13_simplify : GoodIn lw_tbl (wsV RL 204 RX13 yX13_simplify wf_M_simplify) := goodIn_sub (List.forall_mem_append.mpr ⟨(List.forall_mem_cons.mpr ⟨tw_827, (List.forall_mem_cons.mpr ⟨tw_828, (List.forall_mem_cons.mpr ⟨tw_829, (List.forall_mem_cons.mpr ⟨tw_333, (fun _ h => absurd h List.not_mem_nil)⟩)⟩)⟩)⟩), in_wf_M_simplify⟩) (by decide +kernel)
theorem gw_L_way : GoodIn lw_tbl (va_wsS RL 205 yL_way wf_L_way) := goodIn_sub (List.forall_mem_append.mpr ⟨(List.forall_mem_cons.mpr ⟨tw_831, (List.forall_mem_cons.mpr ⟨tw_832, (List.forall_mem_cons.mpr ⟨tw_618, (fun _ h => absurd h List.not_mem_nil)⟩)⟩)⟩), in_wf_L_way⟩) (by decide +kernel)
theorem gw_X13_way : GoodIn lw_tbl (wsV RL 207 RX13 yX13_way wf_M_way) := goodIn_sub (List.forall_mem_append.mpr ⟨(List.forall_mem_cons.mpr ⟨tw_834, (List.forall_mem_cons.mpr ⟨tw_835, (List.forall_mem_cons.mpr ⟨tw_836, (List.forall_mem_cons.mpr ⟨tw_333, (fun _ h => absurd h List.not_mem_nil)⟩)⟩)⟩)⟩), in_wf_M_way⟩) (by decide +kernel)
theorem gw_L_summands : GoodIn lw_tbl (va_wsS RL 208 yL_summands wf_L_summands) := goodIn_sub (List.forall_mem_append.mpr ⟨(List.forall_mem_cons.mpr ⟨tw_838, (List.forall_mem_cons.mpr ⟨tw_839, (List.forall_mem_cons.mpr ⟨tw_618, (fun _ h => absurd h List.not_mem_nil)⟩)⟩)⟩), in_wf_L_summands⟩) (by decide +kernel)
theorem gw_X13_summands : GoodIn lw_tbl (wsV RL 210 RX13 yX13_summands wf_M_summands) := goodIn_sub (List.forall_mem_append.mpr ⟨(List.forall_mem_cons.mpr ⟨tw_841, (List.forall_mem_cons.mpr ⟨tw_842, (List.forall_mem_cons.mpr ⟨tw_843, (List.forall_mem_cons.mpr ⟨tw_333, (fun _ h => absurd h List.not_mem_nil)⟩)⟩)⟩)⟩), in_wf_M_summands⟩) (by decide +kernel)
theorem gw_L_summand : GoodIn lw_tbl (va_wsS RL 211 yL_summand wf_L_summand) := goodIn_sub (List.forall_mem_append.mpr ⟨(List.forall_mem_cons.mpr ⟨tw_845, (List.forall_mem_cons.mpr ⟨tw_846, (List.forall_mem_cons.mpr ⟨tw_618, (fun _ h => absurd h List.not_mem_nil)⟩)⟩)⟩), in_wf_L_summand⟩) (by decide +kernel)
theorem gw_X13_summand : GoodIn lw_tbl (wsV RL 213 RX13 yX13_summand wf_M_summand) := goodIn_sub (List.forall_mem_append.mpr ⟨(List.forall_mem_cons.mpr ⟨tw_848, (List.forall_mem_cons.mpr ⟨tw_849, (List.forall_mem_cons.mpr ⟨tw_850, (List.forall_mem_cons.mpr ⟨tw_333, (fun _ h => absurd h List.not_mem_nil)⟩)⟩)⟩)⟩), in_wf_M_summand⟩) (by decide +kernel)
theorem gw_L_conway : GoodIn lw_tbl (va_wsS RL 214 yL_conway wf_L_conway) := goodIn_sub (List.forall_mem_append.mpr ⟨(List.forall_mem_cons.mpr ⟨tw_853, (List.forall_mem_cons.mpr ⟨tw_854, (List.forall_mem_cons.mpr ⟨tw_618, (fun _ h => absurd h List.not_mem_nil)⟩)⟩)⟩), in_wf_L_conway⟩) (by decide +kernel)
theorem gw_X13_conway : GoodIn lw_tbl (wsV RL 216 RX13 yX13_conway wf_M_conway) := goodIn_sub (List.forall_mem_append.mpr ⟨(List.forall_mem_cons.mpr ⟨tw_856, (List.forall_mem_cons.mpr ⟨tw_857, (List.forall_mem_cons.mpr ⟨tw_858, (List.forall_mem_cons.mpr ⟨tw_333, (fun _ h => absurd h List.not_mem_nil)⟩)⟩)⟩)⟩), in_wf_M_conway⟩) (by decide +kernel)
theorem gw_L_jones : GoodIn lw_tbl (va_wsS RL 217 yL_jones wf_L_jones) := goodIn_sub (List.forall_mem_append.mpr ⟨(List.forall_mem_cons.mpr ⟨tw_860, (List.forall_mem_cons.mpr ⟨tw_861, (List.forall_mem_cons.mpr ⟨tw_618, (fun _ h => absurd h List.not_mem_nil)⟩)⟩)⟩), in_wf_L_jones⟩) (by decide +kernel)
theorem gw_X13_jones : GoodIn lw_tbl (wsV RL 219 RX13 yX13_jones wf_M_jones) := goodIn_sub (List.forall_mem_append.mpr ⟨(List.forall_mem_cons.mpr ⟨tw_863, (List.forall_mem_cons.mpr ⟨tw_864, (List.forall_mem_cons.mpr ⟨tw_865, (List.forall_mem_cons.mpr ⟨tw_333, (fun _ h => absurd h List.not_mem_nil)⟩)⟩)⟩)⟩), in_wf_M_jones⟩) (by decide +kernel)
theorem gw_L_signature : GoodIn lw_tbl (va_wsS RL 220 yL_signature wf_L_signature) := goodIn_sub (List.forall_mem_append.mpr ⟨(List.forall_mem_cons.mpr ⟨tw_867, (List.forall_mem_cons.mpr ⟨tw_868, (List.forall_mem_cons.mpr ⟨tw_618, (fun _ h => absurd h List.not_mem_nil)⟩)⟩)⟩), in_wf_L_signature⟩) (by decide +kernel)
theorem gw_X13_signature : GoodIn lw_tbl (wsV RL 222 RX13 yX13_signature wf_M_signature) := goodIn_sub (List.forall_mem_append.mpr ⟨(List.forall_mem_cons.mpr ⟨tw_870, (List.forall_mem_cons.mpr ⟨tw_871, (List.forall_mem_cons.mpr ⟨tw_872, (List.forall_mem_cons.mpr ⟨tw_333, (fun _ h => absurd h List.not_mem_nil)⟩)⟩)⟩)⟩), in_wf_M_signature⟩) (by decide +kernel)
theorem gw_L_cover : GoodIn lw_tbl (va_wsS RL 223 yL_cover wf_L_cover) := goodIn_sub (List.forall_mem_append.mpr ⟨(List.forall_mem_cons.mpr ⟨tw_874, (List.forall_mem_cons.mpr ⟨tw_875, (List.forall_mem_cons.mpr ⟨tw_618, (fun _ h => absurd h List.not_mem_nil)⟩)⟩)⟩), in_wf_L_cover⟩) (by decide +kernel)
theorem gw_X13_cover : GoodIn lw_tbl (wsV RL 225 RX13 yX13_cover wf_M_cover) := goodIn_sub (List.forall_mem_append.mpr ⟨(List.forall_mem_cons.mpr ⟨tw_877, (List.forall_mem_cons.mpr ⟨tw_878, (List.forall_mem_cons.mpr ⟨tw_879, (List.forall_mem_cons.mpr ⟨tw_333, (fun _ h => absurd h List.not_mem_nil)⟩)⟩)⟩)⟩), in_wf_M_cover⟩) (by decide +kernel)
theorem gw_L_colours : GoodIn lw_tbl (va_wsS RL 226 yL_colours wf_L_colours) := goodIn_sub (List.forall_mem_append.mpr ⟨(List.forall_mem_cons.mpr ⟨tw_881, (List.forall_mem_cons.mpr ⟨tw_882, (List.forall_mem_cons.mpr ⟨tw_618, (fun _ h => absurd h List.not_mem_nil)⟩)⟩)⟩), in_wf_L_colours⟩) (by decide +kernel)
theorem gw_X13_colours : GoodIn lw_tbl (wsV RL 228 RX13 yX13_colours wf_M_colours) := goodIn_sub (List.forall_mem_append.mpr ⟨(List.forall_mem_cons.mpr ⟨tw_884, (List.forall_mem_cons.mpr ⟨tw_885, (List.forall_mem_cons.mpr ⟨tw_886, (List.forall_mem_cons.mpr ⟨tw_333, (fun _ h => absurd h List.not_mem_nil)⟩)⟩)⟩)⟩), in_wf_M_colours⟩) (by decide +kernel)
theorem gw_L_maps : GoodIn lw_tbl (va_wsS RL 229 yL_maps wf_L_maps) := goodIn_sub (List.forall_mem_append.mpr ⟨(List.forall_mem_cons.mpr ⟨tw_888, (List.forall_mem_cons.mpr ⟨tw_889, (List.forall_mem_cons.mpr ⟨tw_618, (fun _ h => absurd h List.not_mem_nil)⟩)⟩)⟩), in_wf_L_maps⟩) (by decide +kernel)
theorem gw_X13_maps : GoodIn lw_tbl (wsV RL 231 RX13 yX13_maps wf_M_maps) := goodIn_sub (List.forall_mem_append.mpr ⟨(List.forall_mem_cons.mpr ⟨tw_891, (List.forall_mem_cons.mpr ⟨tw_892, (List.forall_mem_cons.mpr ⟨tw_893, (List.forall_mem_cons.mpr ⟨tw_333, (fun _ h => absurd h List.not_mem_nil)⟩)⟩)⟩)⟩), in_wf_M_maps⟩) (by decide +kernel)
theorem gw_L_chain : GoodIn lw_tbl (va_wsS RL 232 yL_chain wf_L_chain) := goodIn_sub (List.forall_mem_append.mpr ⟨(List.forall_mem_cons.mpr ⟨tw_895, (List.forall_mem_cons.mpr ⟨tw_896, (List.forall_mem_cons.mpr ⟨tw_618, (fun _ h => absurd h List.not_mem_nil)⟩)⟩)⟩), in_wf_L_chain⟩) (by decide +kernel)
theorem gw_X13_chain : GoodIn lw_tbl (wsV RL 234 RX13 yX13_chain wf_M_chain) := goodIn_sub (List.forall_mem_append.mpr ⟨(List.forall_mem_cons.mpr ⟨tw_898, (List.forall_mem_cons.mpr ⟨tw_899, (List.forall_mem_cons.mpr ⟨tw_900, (List.forall_mem_cons.mpr ⟨tw_333, (fun _ h => absurd h List.not_mem_nil)⟩)⟩)⟩)⟩), in_wf_M_chain⟩) (by decide +kernel)
theorem gw_X11_rank : GoodIn lw_tbl (wsV RL 235 RX11 yX11_rank wf_rank) := goodIn_sub (List.forall_mem_append.mpr ⟨(List.forall_mem_cons.mpr ⟨tw_902, (List.forall_mem_cons.mpr ⟨tw_903, (List.forall_mem_cons.mpr ⟨tw_904, (List.forall_mem_cons.mpr ⟨tw_362, (fun _ h => absurd h List.not_mem_nil)⟩)⟩)⟩)⟩), in_wf_rank⟩) (by decide +kernel)
theorem gw_X13_rank : GoodIn lw_tbl (wsV RL 238 RX13 yX13_rank wf_M_rank) := goodIn_sub (List.forall_mem_append.mpr ⟨(List.forall_mem_cons.mpr ⟨tw_915, (List.forall_mem_cons.mpr ⟨tw_916, (List.forall_mem_cons.mpr ⟨tw_917, (List.forall_mem_cons.mpr ⟨tw_333, (fun _ h => absurd h List.not_mem_nil)⟩)⟩)⟩)⟩), in_wf_M_rank⟩) (by decide +kernel)
theorem gw_L_closure : GoodIn lw_tbl (va_wsS RL 239 yL_closure wf_L_closure) := goodIn_sub (List.forall_mem_append.mpr ⟨(List.forall_mem_cons.mpr ⟨tw_921, (List.forall_mem_cons.mpr ⟨tw_922, (List.forall_mem_cons.mpr ⟨tw_618, (fun _ h => absurd h List.not_mem_nil)⟩)⟩)⟩), in_wf_L_closure⟩) (by decide +kernel)
theorem gw_X13_closure : GoodIn lw_tbl (wsV RL 241 RX13 yX13_closure wf_M_closure) := goodIn_sub (List.forall_mem_append.mpr ⟨(List.forall_mem_cons.mpr ⟨tw_924, (List.forall_mem_cons.mpr ⟨tw_925, (List.forall_mem_cons.mpr ⟨tw_926, (List.forall_mem_cons.mpr ⟨tw_333, (fun _ h => absurd h List.not_mem_nil)⟩)⟩)⟩)⟩), in_wf_M_closure⟩) (by decide +kernel)
theorem gw_L_product : GoodIn lw_tbl (va_wsS RL 242 yL_product wf_L_product) := goodIn_sub (List.forall_mem_append.mpr ⟨(List.forall_mem_cons.mpr ⟨tw_928, (List.forall_mem_cons.mpr ⟨tw_929, (List.forall_mem_cons.mpr ⟨tw_618, (fun _ h => absurd h List.not_mem_nil)⟩)⟩)⟩), in_wf_L_product⟩) (by decide +kernel)
theorem gw_X13_product : GoodIn lw_tbl (wsV RL 244 RX13 yX13_product wf_M_product) := goodIn_sub (List.forall_mem_append.mpr ⟨(List.forall_mem_cons.mpr ⟨tw_931, (List.forall_mem_cons.mpr ⟨tw_932, (List.forall_mem_cons.mpr ⟨tw_933, (List.forall_mem_cons.mpr ⟨tw_333, (fun _ h => absurd h List.not_mem_nil)⟩)⟩)⟩)⟩), in_wf_M_product⟩) (by decide +kernel)
theorem gw_L_inverse : GoodIn lw_tbl (va_wsS RL 245 yL_inverse wf_L_inverse) := goodIn_sub (List.forall_mem_append.mpr ⟨(List.forall_mem_cons.mpr ⟨tw_935, (List.forall_mem_cons.mpr ⟨tw_936, (List.forall_mem_cons.mpr ⟨tw_618, (fun _ h => absurd h List.not_mem_nil)⟩)⟩)⟩), in_wf_L_inverse⟩) (by decide +kernel)
theorem gw_X13_inverse : GoodIn lw_tbl (wsV RL 247 RX13 yX13_inverse wf_M_inverse) := goodIn_sub (List.forall_mem_append.mpr ⟨(List.forall_mem_cons.mpr ⟨tw_938, (List.forall_mem_cons.mpr ⟨tw_939, (List.forall_mem_cons.mpr ⟨tw_940, (List.forall_mem_cons.mpr ⟨tw_333, (fun _ h => absurd h List.not_mem_nil)⟩)⟩)⟩)⟩), in_wf_M_inverse⟩) (by decide +kernel)
theorem gw_L_normal : GoodIn lw_tbl (va_wsS RL 248 yL_normal wf_L_normal) := goodIn_sub (List.forall_mem_append.mpr ⟨(List.forall_mem_cons.mpr ⟨tw_942, (List.forall_mem_cons.mpr ⟨tw_943, (List.forall_mem_cons.mpr ⟨tw_618, (fun _ h => absurd h List.not_mem_nil)⟩)⟩)⟩), in_wf_L_normal⟩) (by decide +kernel)
theorem gw_X13_normal : GoodIn lw_tbl (wsV RL 250 RX13 yX13_normal wf_M_normal) := goodIn_sub (List.forall_mem_append.mpr ⟨(List.forall_mem_cons.mpr ⟨tw_945, (List.forall_mem_cons.mpr ⟨tw_946, (List.forall_mem_cons.mpr ⟨tw_947, (List.forall_mem_cons.mpr ⟨tw_333, (fun _ h => absurd h List.not_mem_nil)⟩)⟩)⟩)⟩), in_wf_M_normal⟩) (by decide +kernel)
theorem gw_L_factor : GoodIn lw_tbl (va_wsS RL 251 yL_factor wf_L_factor) := goodIn_sub (List.forall_mem_append.mpr ⟨(List.forall_mem_cons.mpr ⟨tw_949, (List.forall_mem_cons.mpr ⟨tw_950, (List.forall_mem_cons.mpr ⟨tw_618, (fun _ h => absurd h List.not_mem_nil)⟩)⟩)⟩), in_wf_L_factor⟩) (by decide +kernel)
theorem gw_X13_factor : GoodIn lw_tbl (wsV RL 253 RX13 yX13_factor wf_M_factor) := goodIn_sub (List.forall_mem_append.mpr ⟨(List.forall_mem_cons.mpr ⟨tw_952, (List.forall_mem_cons.mpr ⟨tw_953, (List.forall_mem_cons.mpr ⟨tw_954, (List.forall_mem_cons.mpr ⟨tw_333, (fun _ h => absurd h List.not_mem_nil)⟩)⟩)⟩)⟩), in_wf_M_factor⟩) (by decide +kernel)
theorem gw_X11_equal : GoodIn lw_tbl (wsV RL 254 RX11 yX11_equal wf_equal) := goodIn_sub (List.forall_mem_append.mpr ⟨(List.forall_mem_cons.mpr ⟨tw_956, (List.forall_mem_cons.mpr ⟨tw_957, (List.forall_mem_cons.mpr ⟨tw_958, (List.forall_mem_cons.mpr ⟨tw_362, (fun _ h => absurd h List.not_mem_nil)⟩)⟩)⟩)⟩), in_wf_equal⟩) (by decide +kernel)
theorem gw_X13_equal : GoodIn lw_tbl (wsV RL 257 RX13 yX13_equal wf_M_equal) := goodIn_sub (List.forall_mem_append.mpr ⟨(List.forall_mem_cons.mpr ⟨tw_960, (List.forall_mem_cons.mpr ⟨tw_961, (List.forall_mem_cons.mpr ⟨tw_962, (List.forall_mem_cons.mpr ⟨tw_333, (fun _ h => absurd h List.not_mem_nil)⟩)⟩)⟩)⟩), in_wf_M_equal⟩) (by decide +kernel)
theorem gw_L_summit : GoodIn lw_tbl (va_wsS RL 258 yL_summit wf_L_summit) := goodIn_sub (List.forall_mem_append.mpr ⟨(List.forall_mem_cons.mpr ⟨tw_964, (List.forall_mem_cons.mpr ⟨tw_965, (List.forall_mem_cons.mpr ⟨tw_618, (fun _ h => absurd h List.not_mem_nil)⟩)⟩)⟩), in_wf_L_summit⟩) (by decide +kernel)
theorem gw_X13_summit : GoodIn lw_tbl (wsV RL 260 RX13 yX13_summit wf_M_summit) := goodIn_sub (List.forall_mem_append.mpr ⟨(List.forall_mem_cons.mpr ⟨tw_967, (List.forall_mem_cons.mpr ⟨tw_968, (List.forall_mem_cons.mpr ⟨tw_969, (List.forall_mem_cons.mpr ⟨tw_333, (fun _ h => absurd h List.not_mem_nil)⟩)⟩)⟩)⟩), in_wf_M_summit⟩) (by decide +kernel)
theorem gw_L_conjugate : GoodIn lw_tbl (va_wsS RL 261 yL_conjugate wf_L_conjugate) := goodIn_sub (List.forall_mem_append.mpr ⟨(List.forall_mem_cons.mpr ⟨tw_971, (List.forall_mem_cons.mpr ⟨tw_972, (List.forall_mem_cons.mpr ⟨tw_618, (fun _ h => absurd h List.not_mem_nil)⟩)⟩)⟩), in_wf_L_conjugate⟩) (by decide +kernel)
theorem gw_X13_conjugate : GoodIn lw_tbl (wsV RL 263 RX13 yX13_conjugate wf_M_conjugate) := goodIn_sub (List.forall_mem_append.mpr ⟨(List.forall_mem_cons.mpr ⟨tw_974, (List.forall_mem_cons.mpr ⟨tw_975, (List.forall_mem_cons.mpr ⟨tw_976, (List.forall_mem_cons.mpr ⟨tw_333, (fun _ h => absurd h List.not_mem_nil)⟩)⟩)⟩)⟩), in_wf_M_conjugate⟩) (by decide +kernel)
theorem gw_L_two : GoodIn lw_tbl (va_wsS RL 264 yL_two wf_L_two) := goodIn_sub (List.forall_mem_append.mpr ⟨(List.forall_mem_cons.mpr ⟨tw_978, (List.forall_mem_cons.mpr ⟨tw_979, (List.forall_mem_cons.mpr ⟨tw_618, (fun _ h => absurd h List.not_mem_nil)⟩)⟩)⟩), in_wf_L_two⟩) (by decide +kernel)
theorem gw_X13_two : GoodIn lw_tbl (wsV RL 266 RX13 yX13_two wf_M_two) := goodIn_sub (List.forall_mem_append.mpr ⟨(List.forall_mem_cons.mpr ⟨tw_981, (List.forall_mem_cons.mpr ⟨tw_982, (List.forall_mem_cons.mpr ⟨tw_983, (List.forall_mem_cons.mpr ⟨tw_333, (fun _ h => absurd h List.not_mem_nil)⟩)⟩)⟩)⟩), in_wf_M_two⟩) (by decide +kernel)
