/-! words of Math; what a place in a method that writes nothing keeps -/
theorem fm_i : Cond.initialized "java/lang/Math" ∈ e_gd := e_memt t301 rfl
theorem fm_s_mminI : Cond.static Lib.Math.min.name ∈ e_gd := e_memt t1028 rfl
theorem fm_c_mminI : Cond.code Lib.Math.min.name Lib.Math.min.code 2 (some .int) ∈ e_gd := e_memt t1029 rfl
theorem fm_s_mmaxI : Cond.static Lib.Math.max.name ∈ e_gd := e_memt t1437 rfl
theorem fm_c_mmaxI : Cond.code Lib.Math.max.name Lib.Math.max.code 2 (some .int) ∈ e_gd := e_memt t1438 rfl
theorem fm_s_mminJ : Cond.static Lib.MathLoose.min_long.x ∈ e_gd := e_memt t1422 rfl
theorem fm_c_mminJ : Cond.code Lib.MathLoose.min_long.x Lib.MathLoose.min_long.code 4 (some .long) ∈ e_gd := e_memt t1423 rfl
theorem fm_s_mmaxJ : Cond.static Lib.MathLoose.max_long.x ∈ e_gd := e_memt t1425 rfl
theorem fm_c_mmaxJ : Cond.code Lib.MathLoose.max_long.x Lib.MathLoose.max_long.code 4 (some .long) ∈ e_gd := e_memt t1426 rfl
theorem fm_s_abs : Cond.static Lib.Math.abs.name ∈ e_gd := e_memt t1463 rfl
theorem fm_c_abs : Cond.code Lib.Math.abs.name Lib.Math.abs.code 1 (some .int) ∈ e_gd := e_memt t1464 rfl
theorem fm_s_absL : Cond.static Lib.MathLoose.abs_long.x ∈ e_gd := e_memt t2867 rfl
theorem fm_c_absL : Cond.code Lib.MathLoose.abs_long.x Lib.MathLoose.abs_long.code 2 (some .long) ∈ e_gd := e_memt t2868 rfl
theorem tx284 : (Jvm.Cond.initialized "LandHouse") ∈ lw_tbl := u1 (List.mem_of_getElem? (i := 1) (by decide +kernel))
theorem tx292 : (Jvm.Cond.initialized "LandHouse$World") ∈ lw_tbl := u1 (List.mem_of_getElem? (i := 9) (by decide +kernel))
theorem tx297 : (Jvm.Cond.initialized "LandHouse$Acts") ∈ lw_tbl := u1 (List.mem_of_getElem? (i := 14) (by decide +kernel))
theorem tx299 : (Jvm.Cond.initialized "LandHouse$Asker") ∈ lw_tbl := u1 (List.mem_of_getElem? (i := 16) (by decide +kernel))
theorem tx1190 : (Jvm.Cond.instanceMethod ({ cls := "LandHouse", name := "viewOf", desc := "(LLandHouse$World;II)LLandHouse$World;" } : Jvm.MethodName)) ∈ lw_tbl := u4 (List.mem_of_getElem? (i := 187) (by decide +kernel))
theorem tx1191 : (Jvm.Cond.code ({ cls := "LandHouse", name := "viewOf", desc := "(LLandHouse$World;II)LLandHouse$World;" } : Jvm.MethodName) prog_1_method_11_code (5 : Nat) (Option.some (Jvm.ClassFile.FieldType.object "LandHouse$World"))) ∈ lw_tbl := u4 (List.mem_of_getElem? (i := 188) rfl)
theorem tx1203 : (Jvm.Cond.instanceMethod ({ cls := "LandHouse$World", name := "add", desc := "(IJLLandHouse$Deed;I)LLandHouse$Thing;" } : Jvm.MethodName)) ∈ lw_tbl := u4 (List.mem_of_getElem? (i := 200) (by decide +kernel))
theorem tx1204 : (Jvm.Cond.selects "LandHouse$World" ({ cls := "LandHouse$World", name := "add", desc := "(IJLLandHouse$Deed;I)LLandHouse$Thing;" } : Jvm.MethodName) ({ cls := "LandHouse$World", name := "add", desc := "(IJLLandHouse$Deed;I)LLandHouse$Thing;" } : Jvm.MethodName)) ∈ lw_tbl := u4 (List.mem_of_getElem? (i := 201) (by decide +kernel))
theorem tx1205 : (Jvm.Cond.code ({ cls := "LandHouse$World", name := "add", desc := "(IJLLandHouse$Deed;I)LLandHouse$Thing;" } : Jvm.MethodName) prog_12_method_12_code (7 : Nat) (Option.some (Jvm.ClassFile.FieldType.object "LandHouse$Thing"))) ∈ lw_tbl := u4 (List.mem_of_getElem? (i := 202) rfl)
theorem tx1217 : (Jvm.Cond.instanceMethod ({ cls := "LandHouse$World", name := "at", desc := "(II)LLandHouse$Thing;" } : Jvm.MethodName)) ∈ lw_tbl := u4 (List.mem_of_getElem? (i := 214) (by decide +kernel))
theorem tx1218 : (Jvm.Cond.selects "LandHouse$World" ({ cls := "LandHouse$World", name := "at", desc := "(II)LLandHouse$Thing;" } : Jvm.MethodName) ({ cls := "LandHouse$World", name := "at", desc := "(II)LLandHouse$Thing;" } : Jvm.MethodName)) ∈ lw_tbl := u4 (List.mem_of_getElem? (i := 215) (by decide +kernel))
theorem tx1219 : (Jvm.Cond.code ({ cls := "LandHouse$World", name := "at", desc := "(II)LLandHouse$Thing;" } : Jvm.MethodName) prog_12_method_9_code (3 : Nat) (Option.some (Jvm.ClassFile.FieldType.object "LandHouse$Thing"))) ∈ lw_tbl := u4 (List.mem_of_getElem? (i := 216) rfl)
theorem tx1238 : (Jvm.Cond.instanceMethod ({ cls := "LandHouse$World", name := "lot", desc := "(I)LLandHouse$Lot;" } : Jvm.MethodName)) ∈ lw_tbl := u4 (List.mem_of_getElem? (i := 235) (by decide +kernel))
theorem tx1239 : (Jvm.Cond.selects "LandHouse$World" ({ cls := "LandHouse$World", name := "lot", desc := "(I)LLandHouse$Lot;" } : Jvm.MethodName) ({ cls := "LandHouse$World", name := "lot", desc := "(I)LLandHouse$Lot;" } : Jvm.MethodName)) ∈ lw_tbl := u4 (List.mem_of_getElem? (i := 236) (by decide +kernel))
theorem tx1240 : (Jvm.Cond.code ({ cls := "LandHouse$World", name := "lot", desc := "(I)LLandHouse$Lot;" } : Jvm.MethodName) prog_12_method_8_code (2 : Nat) (Option.some (Jvm.ClassFile.FieldType.object "LandHouse$Lot"))) ∈ lw_tbl := u4 (List.mem_of_getElem? (i := 237) rfl)
theorem tx1306 : (Jvm.Cond.instanceMethod ({ cls := "LandHouse$Acts", name := "make", desc := "(I)LLandHouse$Thing;" } : Jvm.MethodName)) ∈ lw_tbl := u5 (List.mem_of_getElem? (i := 63) (by decide +kernel))
theorem tx1307 : (Jvm.Cond.code ({ cls := "LandHouse$Acts", name := "make", desc := "(I)LLandHouse$Thing;" } : Jvm.MethodName) prog_2_method_7_code (3 : Nat) (Option.some (Jvm.ClassFile.FieldType.object "LandHouse$Thing"))) ∈ lw_tbl := u5 (List.mem_of_getElem? (i := 64) rfl)
theorem tx1625 : (Jvm.Cond.instanceMethod ({ cls := "LandHouse$Acts", name := "makeTerm", desc := "(II)LLandHouse$Thing;" } : Jvm.MethodName)) ∈ lw_tbl := u6 (List.mem_of_getElem? (i := 142) (by decide +kernel))
theorem tx1626 : (Jvm.Cond.code ({ cls := "LandHouse$Acts", name := "makeTerm", desc := "(II)LLandHouse$Thing;" } : Jvm.MethodName) prog_2_method_39_code (4 : Nat) (Option.some (Jvm.ClassFile.FieldType.object "LandHouse$Thing"))) ∈ lw_tbl := u6 (List.mem_of_getElem? (i := 143) rfl)
theorem tx1737 : (Jvm.Cond.static ({ cls := "LandHouse$Asker", name := "firstWord", desc := "(ILLandHouse$Thing;)Ljava/lang/String;" } : Jvm.MethodName)) ∈ lw_tbl := u7 (List.mem_of_getElem? (i := 14) (by decide +kernel))
theorem tx1738 : (Jvm.Cond.code ({ cls := "LandHouse$Asker", name := "firstWord", desc := "(ILLandHouse$Thing;)Ljava/lang/String;" } : Jvm.MethodName) prog_3_method_18_code (2 : Nat) (Option.some (Jvm.ClassFile.FieldType.object "java/lang/String"))) ∈ lw_tbl := u7 (List.mem_of_getElem? (i := 15) rfl)
theorem mwX0_make : e_MW YX0_make 1 := ⟨e_memt tx1307 rfl, e_memt tx297 rfl, by decide, ⟨by decide, by decide⟩, by decide +kernel⟩
theorem iwX0_make : Cond.instanceMethod (⟨"LandHouse$Acts", "make", "(I)LLandHouse$Thing;"⟩ : MethodName) ∈ e_gd := e_memt tx1306 rfl
theorem vwX0_make : e_VW YX0_make 0 := ⟨iwX0_make, e_mem (i := 27) (by decide +kernel) rfl, rfl⟩
theorem mwX0_makeTerm : e_MW YX0_makeTerm 2 := ⟨e_memt tx1626 rfl, e_memt tx297 rfl, by decide, ⟨by decide, by decide⟩, by decide +kernel⟩
theorem iwX0_makeTerm : Cond.instanceMethod (⟨"LandHouse$Acts", "makeTerm", "(II)LLandHouse$Thing;"⟩ : MethodName) ∈ e_gd := e_memt tx1625 rfl
theorem vwX0_makeTerm : e_VW YX0_makeTerm 0 := ⟨iwX0_makeTerm, e_mem (i := 69) (by decide +kernel) rfl, rfl⟩
theorem mwX1_firstWord : e_MW YX1_firstWord 2 := ⟨e_memt tx1738 rfl, e_memt tx299 rfl, by decide, ⟨by decide, by decide⟩, by decide +kernel⟩
theorem swX1_firstWord : Cond.static (⟨"LandHouse$Asker", "firstWord", "(ILLandHouse$Thing;)Ljava/lang/String;"⟩ : MethodName) ∈ e_gd := e_memt tx1737 rfl
theorem mwX10_lot : e_MW YX10_lot 1 := ⟨e_memt tx1240 rfl, e_memt tx292 rfl, by decide, ⟨by decide, by decide⟩, by decide +kernel⟩
theorem iwX10_lot : Cond.instanceMethod (⟨"LandHouse$World", "lot", "(I)LLandHouse$Lot;"⟩ : MethodName) ∈ e_gd := e_memt tx1238 rfl
theorem vwX10_lot : e_VW YX10_lot 10 := ⟨iwX10_lot, e_memt tx1239 rfl, rfl⟩
theorem mwX10_at : e_MW YX10_at 2 := ⟨e_memt tx1219 rfl, e_memt tx292 rfl, by decide, ⟨by decide, by decide⟩, by decide +kernel⟩
theorem iwX10_at : Cond.instanceMethod (⟨"LandHouse$World", "at", "(II)LLandHouse$Thing;"⟩ : MethodName) ∈ e_gd := e_memt tx1217 rfl
theorem vwX10_at : e_VW YX10_at 10 := ⟨iwX10_at, e_memt tx1218 rfl, rfl⟩
theorem mwX10_add : e_MW YX10_add 4 := ⟨e_memt tx1205 rfl, e_memt tx292 rfl, by decide, ⟨by decide, by decide⟩, by decide +kernel⟩
theorem iwX10_add : Cond.instanceMethod (⟨"LandHouse$World", "add", "(IJLLandHouse$Deed;I)LLandHouse$Thing;"⟩ : MethodName) ∈ e_gd := e_memt tx1203 rfl
theorem vwX10_add : e_VW YX10_add 10 := ⟨iwX10_add, e_memt tx1204 rfl, rfl⟩
theorem mwX11_viewOf : e_MW YX11_viewOf 3 := ⟨e_memt tx1191 rfl, e_memt tx284 rfl, by decide, ⟨by decide, by decide⟩, by decide +kernel⟩
theorem iwX11_viewOf : Cond.instanceMethod (⟨"LandHouse", "viewOf", "(LLandHouse$World;II)LLandHouse$World;"⟩ : MethodName) ∈ e_gd := e_memt tx1190 rfl
theorem vwX11_viewOf : e_VW YX11_viewOf 11 := ⟨iwX11_viewOf, e_mem (i := 22) (by decide +kernel) rfl, rfl⟩
theorem f_kk0 (M : e_M) (k : Prop) : k = (M = M ∧ k) := propext ⟨fun h => ⟨rfl, h⟩, fun h => h.2⟩
theorem f_kk1 {t0 : Type} (M : e_M) (k : t0 → Prop) : k = fun x0 => (M = M ∧ k x0) := by
  funext x0
  exact propext ⟨fun h => ⟨rfl, h⟩, fun h => h.2⟩
theorem f_kk2 {t0 : Type} {t1 : Type} (M : e_M) (k : t0 → t1 → Prop) : k = fun x0 x1 => (M = M ∧ k x0 x1) := by
  funext x0 x1
  exact propext ⟨fun h => ⟨rfl, h⟩, fun h => h.2⟩
theorem f_kk3 {t0 : Type} {t1 : Type} {t2 : Type} (M : e_M) (k : t0 → t1 → t2 → Prop) : k = fun x0 x1 x2 => (M = M ∧ k x0 x1 x2) := by
  funext x0 x1 x2
  exact propext ⟨fun h => ⟨rfl, h⟩, fun h => h.2⟩
theorem f_kk4 {t0 : Type} {t1 : Type} {t2 : Type} {t3 : Type} (M : e_M) (k : t0 → t1 → t2 → t3 → Prop) : k = fun x0 x1 x2 x3 => (M = M ∧ k x0 x1 x2 x3) := by
  funext x0 x1 x2 x3
  exact propext ⟨fun h => ⟨rfl, h⟩, fun h => h.2⟩
theorem f_kk5 {t0 : Type} {t1 : Type} {t2 : Type} {t3 : Type} {t4 : Type} (M : e_M) (k : t0 → t1 → t2 → t3 → t4 → Prop) : k = fun x0 x1 x2 x3 x4 => (M = M ∧ k x0 x1 x2 x3 x4) := by
  funext x0 x1 x2 x3 x4
  exact propext ⟨fun h => ⟨rfl, h⟩, fun h => h.2⟩
theorem f_kk6 {t0 : Type} {t1 : Type} {t2 : Type} {t3 : Type} {t4 : Type} {t5 : Type} (M : e_M) (k : t0 → t1 → t2 → t3 → t4 → t5 → Prop) : k = fun x0 x1 x2 x3 x4 x5 => (M = M ∧ k x0 x1 x2 x3 x4 x5) := by
  funext x0 x1 x2 x3 x4 x5
  exact propext ⟨fun h => ⟨rfl, h⟩, fun h => h.2⟩
theorem f_kk7 {t0 : Type} {t1 : Type} {t2 : Type} {t3 : Type} {t4 : Type} {t5 : Type} {t6 : Type} (M : e_M) (k : t0 → t1 → t2 → t3 → t4 → t5 → t6 → Prop) : k = fun x0 x1 x2 x3 x4 x5 x6 => (M = M ∧ k x0 x1 x2 x3 x4 x5 x6) := by
  funext x0 x1 x2 x3 x4 x5 x6
  exact propext ⟨fun h => ⟨rfl, h⟩, fun h => h.2⟩
theorem f_kk8 {t0 : Type} {t1 : Type} {t2 : Type} {t3 : Type} {t4 : Type} {t5 : Type} {t6 : Type} {t7 : Type} (M : e_M) (k : t0 → t1 → t2 → t3 → t4 → t5 → t6 → t7 → Prop) : k = fun x0 x1 x2 x3 x4 x5 x6 x7 => (M = M ∧ k x0 x1 x2 x3 x4 x5 x6 x7) := by
  funext x0 x1 x2 x3 x4 x5 x6 x7
  exact propext ⟨fun h => ⟨rfl, h⟩, fun h => h.2⟩
theorem f_kk9 {t0 : Type} {t1 : Type} {t2 : Type} {t3 : Type} {t4 : Type} {t5 : Type} {t6 : Type} {t7 : Type} {t8 : Type} (M : e_M) (k : t0 → t1 → t2 → t3 → t4 → t5 → t6 → t7 → t8 → Prop) : k = fun x0 x1 x2 x3 x4 x5 x6 x7 x8 => (M = M ∧ k x0 x1 x2 x3 x4 x5 x6 x7 x8) := by
  funext x0 x1 x2 x3 x4 x5 x6 x7 x8
  exact propext ⟨fun h => ⟨rfl, h⟩, fun h => h.2⟩
theorem f_kk10 {t0 : Type} {t1 : Type} {t2 : Type} {t3 : Type} {t4 : Type} {t5 : Type} {t6 : Type} {t7 : Type} {t8 : Type} {t9 : Type} (M : e_M) (k : t0 → t1 → t2 → t3 → t4 → t5 → t6 → t7 → t8 → t9 → Prop) : k = fun x0 x1 x2 x3 x4 x5 x6 x7 x8 x9 => (M = M ∧ k x0 x1 x2 x3 x4 x5 x6 x7 x8 x9) := by
  funext x0 x1 x2 x3 x4 x5 x6 x7 x8 x9
  exact propext ⟨fun h => ⟨rfl, h⟩, fun h => h.2⟩
theorem f_kk11 {t0 : Type} {t1 : Type} {t2 : Type} {t3 : Type} {t4 : Type} {t5 : Type} {t6 : Type} {t7 : Type} {t8 : Type} {t9 : Type} {t10 : Type} (M : e_M) (k : t0 → t1 → t2 → t3 → t4 → t5 → t6 → t7 → t8 → t9 → t10 → Prop) : k = fun x0 x1 x2 x3 x4 x5 x6 x7 x8 x9 x10 => (M = M ∧ k x0 x1 x2 x3 x4 x5 x6 x7 x8 x9 x10) := by
  funext x0 x1 x2 x3 x4 x5 x6 x7 x8 x9 x10
  exact propext ⟨fun h => ⟨rfl, h⟩, fun h => h.2⟩
theorem f_kk12 {t0 : Type} {t1 : Type} {t2 : Type} {t3 : Type} {t4 : Type} {t5 : Type} {t6 : Type} {t7 : Type} {t8 : Type} {t9 : Type} {t10 : Type} {t11 : Type} (M : e_M) (k : t0 → t1 → t2 → t3 → t4 → t5 → t6 → t7 → t8 → t9 → t10 → t11 → Prop) : k = fun x0 x1 x2 x3 x4 x5 x6 x7 x8 x9 x10 x11 => (M = M ∧ k x0 x1 x2 x3 x4 x5 x6 x7 x8 x9 x10 x11) := by
  funext x0 x1 x2 x3 x4 x5 x6 x7 x8 x9 x10 x11
  exact propext ⟨fun h => ⟨rfl, h⟩, fun h => h.2⟩
theorem f_kk13 {t0 : Type} {t1 : Type} {t2 : Type} {t3 : Type} {t4 : Type} {t5 : Type} {t6 : Type} {t7 : Type} {t8 : Type} {t9 : Type} {t10 : Type} {t11 : Type} {t12 : Type} (M : e_M) (k : t0 → t1 → t2 → t3 → t4 → t5 → t6 → t7 → t8 → t9 → t10 → t11 → t12 → Prop) : k = fun x0 x1 x2 x3 x4 x5 x6 x7 x8 x9 x10 x11 x12 => (M = M ∧ k x0 x1 x2 x3 x4 x5 x6 x7 x8 x9 x10 x11 x12) := by
  funext x0 x1 x2 x3 x4 x5 x6 x7 x8 x9 x10 x11 x12
  exact propext ⟨fun h => ⟨rfl, h⟩, fun h => h.2⟩
theorem f_kk14 {t0 : Type} {t1 : Type} {t2 : Type} {t3 : Type} {t4 : Type} {t5 : Type} {t6 : Type} {t7 : Type} {t8 : Type} {t9 : Type} {t10 : Type} {t11 : Type} {t12 : Type} {t13 : Type} (M : e_M) (k : t0 → t1 → t2 → t3 → t4 → t5 → t6 → t7 → t8 → t9 → t10 → t11 → t12 → t13 → Prop) : k = fun x0 x1 x2 x3 x4 x5 x6 x7 x8 x9 x10 x11 x12 x13 => (M = M ∧ k x0 x1 x2 x3 x4 x5 x6 x7 x8 x9 x10 x11 x12 x13) := by
  funext x0 x1 x2 x3 x4 x5 x6 x7 x8 x9 x10 x11 x12 x13
  exact propext ⟨fun h => ⟨rfl, h⟩, fun h => h.2⟩
theorem f_kk15 {t0 : Type} {t1 : Type} {t2 : Type} {t3 : Type} {t4 : Type} {t5 : Type} {t6 : Type} {t7 : Type} {t8 : Type} {t9 : Type} {t10 : Type} {t11 : Type} {t12 : Type} {t13 : Type} {t14 : Type} (M : e_M) (k : t0 → t1 → t2 → t3 → t4 → t5 → t6 → t7 → t8 → t9 → t10 → t11 → t12 → t13 → t14 → Prop) : k = fun x0 x1 x2 x3 x4 x5 x6 x7 x8 x9 x10 x11 x12 x13 x14 => (M = M ∧ k x0 x1 x2 x3 x4 x5 x6 x7 x8 x9 x10 x11 x12 x13 x14) := by
  funext x0 x1 x2 x3 x4 x5 x6 x7 x8 x9 x10 x11 x12 x13 x14
  exact propext ⟨fun h => ⟨rfl, h⟩, fun h => h.2⟩
