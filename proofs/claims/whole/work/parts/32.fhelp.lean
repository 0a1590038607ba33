/-! words of Math; what a place in a method that writes nothing keeps -/
theorem fm_i : Cond.initialized "java/lang/Math" ∈ e_gd := e_memt t301 rfl
theorem fm_s_mminI : Cond.static Lib.Math.min.name ∈ e_gd := e_memt t1028 rfl
theorem fm_c_mminI : Cond.code Lib.Math.min.name Lib.Math.min.code 2 (some .int) ∈ e_gd := e_memt t1029 rfl
theorem fm_s_mmaxI : Cond.static Lib.Math.max.name ∈ e_gd := e_memt t1437 rfl
theorem fm_c_mmaxI : Cond.code Lib.Math.max.name Lib.Math.max.code 2 (some .int) ∈ e_gd := e_memt t1438 rfl
theorem fm_s_mminJ : Cond.static Lib.MathLoose.min_long.x ∈ e_gd := e_memt t1422 rfl
theorem fm_c_mminJ : Cond.code Lib.MathLoose.min_long.x Lib.MathLoose.min_long.code 4 (some .long) ∈ e_gd := e_memt t1423 rfl
theorem fm_s_mmaxJ : Cond.static Lib.MathLoose.max_long.x ∈ e_gd := e_memt t1425 rfl
theorem fm_c_mmaxJ : Cond.code Lib.MathLoose.max_long.x Lib.MathLoose.max_long.code 4 (some .long) ∈ e_gd := e_memt t1426 rfl
theorem fm_s_abs : Cond.static Lib.Math.abs.name ∈ e_gd := e_memt t1463 rfl
theorem fm_c_abs : Cond.code Lib.Math.abs.name Lib.Math.abs.code 1 (some .int) ∈ e_gd := e_memt t1464 rfl
theorem fm_s_absL : Cond.static Lib.MathLoose.abs_long.x ∈ e_gd := e_memt t2867 rfl
theorem fm_c_absL : Cond.code Lib.MathLoose.abs_long.x Lib.MathLoose.abs_long.code 2 (some .long) ∈ e_gd := e_memt t2868 rfl
theorem f_kk0 (M : e_M) (k : Prop) : k = (M = M ∧ k) := propext ⟨fun h => ⟨rfl, h⟩, fun h => h.2⟩
theorem f_kk1 {t0 : Type} (M : e_M) (k : t0 → Prop) : k = fun x0 => (M = M ∧ k x0) := by
  funext x0
  exact propext ⟨fun h => ⟨rfl, h⟩, fun h => h.2⟩
theorem f_kk2 {t0 : Type} {t1 : Type} (M : e_M) (k : t0 → t1 → Prop) : k = fun x0 x1 => (M = M ∧ k x0 x1) := by
  funext x0 x1
  exact propext ⟨fun h => ⟨rfl, h⟩, fun h => h.2⟩
theorem f_kk3 {t0 : Type} {t1 : Type} {t2 : Type} (M : e_M) (k : t0 → t1 → t2 → Prop) : k = fun x0 x1 x2 => (M = M ∧ k x0 x1 x2) := by
  funext x0 x1 x2
  exact propext ⟨fun h => ⟨rfl, h⟩, fun h => h.2⟩
theorem f_kk4 {t0 : Type} {t1 : Type} {t2 : Type} {t3 : Type} (M : e_M) (k : t0 → t1 → t2 → t3 → Prop) : k = fun x0 x1 x2 x3 => (M = M ∧ k x0 x1 x2 x3) := by
  funext x0 x1 x2 x3
  exact propext ⟨fun h => ⟨rfl, h⟩, fun h => h.2⟩
theorem f_kk5 {t0 : Type} {t1 : Type} {t2 : Type} {t3 : Type} {t4 : Type} (M : e_M) (k : t0 → t1 → t2 → t3 → t4 → Prop) : k = fun x0 x1 x2 x3 x4 => (M = M ∧ k x0 x1 x2 x3 x4) := by
  funext x0 x1 x2 x3 x4
  exact propext ⟨fun h => ⟨rfl, h⟩, fun h => h.2⟩
theorem f_kk6 {t0 : Type} {t1 : Type} {t2 : Type} {t3 : Type} {t4 : Type} {t5 : Type} (M : e_M) (k : t0 → t1 → t2 → t3 → t4 → t5 → Prop) : k = fun x0 x1 x2 x3 x4 x5 => (M = M ∧ k x0 x1 x2 x3 x4 x5) := by
  funext x0 x1 x2 x3 x4 x5
  exact propext ⟨fun h => ⟨rfl, h⟩, fun h => h.2⟩
theorem f_kk7 {t0 : Type} {t1 : Type} {t2 : Type} {t3 : Type} {t4 : Type} {t5 : Type} {t6 : Type} (M : e_M) (k : t0 → t1 → t2 → t3 → t4 → t5 → t6 → Prop) : k = fun x0 x1 x2 x3 x4 x5 x6 => (M = M ∧ k x0 x1 x2 x3 x4 x5 x6) := by
  funext x0 x1 x2 x3 x4 x5 x6
  exact propext ⟨fun h => ⟨rfl, h⟩, fun h => h.2⟩
theorem f_kk8 {t0 : Type} {t1 : Type} {t2 : Type} {t3 : Type} {t4 : Type} {t5 : Type} {t6 : Type} {t7 : Type} (M : e_M) (k : t0 → t1 → t2 → t3 → t4 → t5 → t6 → t7 → Prop) : k = fun x0 x1 x2 x3 x4 x5 x6 x7 => (M = M ∧ k x0 x1 x2 x3 x4 x5 x6 x7) := by
  funext x0 x1 x2 x3 x4 x5 x6 x7
  exact propext ⟨fun h => ⟨rfl, h⟩, fun h => h.2⟩
theorem f_kk9 {t0 : Type} {t1 : Type} {t2 : Type} {t3 : Type} {t4 : Type} {t5 : Type} {t6 : Type} {t7 : Type} {t8 : Type} (M : e_M) (k : t0 → t1 → t2 → t3 → t4 → t5 → t6 → t7 → t8 → Prop) : k = fun x0 x1 x2 x3 x4 x5 x6 x7 x8 => (M = M ∧ k x0 x1 x2 x3 x4 x5 x6 x7 x8) := by
  funext x0 x1 x2 x3 x4 x5 x6 x7 x8
  exact propext ⟨fun h => ⟨rfl, h⟩, fun h => h.2⟩
theorem f_kk10 {t0 : Type} {t1 : Type} {t2 : Type} {t3 : Type} {t4 : Type} {t5 : Type} {t6 : Type} {t7 : Type} {t8 : Type} {t9 : Type} (M : e_M) (k : t0 → t1 → t2 → t3 → t4 → t5 → t6 → t7 → t8 → t9 → Prop) : k = fun x0 x1 x2 x3 x4 x5 x6 x7 x8 x9 => (M = M ∧ k x0 x1 x2 x3 x4 x5 x6 x7 x8 x9) := by
  funext x0 x1 x2 x3 x4 x5 x6 x7 x8 x9
  exact propext ⟨fun h => ⟨rfl, h⟩, fun h => h.2⟩
