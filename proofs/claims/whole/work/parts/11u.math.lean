/-! rows of the engine: Math.min, max, abs -/
section MATH
variable {sh : Nat → Nat × Nat} {Y : e_Y} {rm : Nat × Nat × Nat} {pc idx : Nat} {ls st : List e_V} {g : e_G} {cs : Nat × Nat} {Q : Option e_V → e_G → Prop} {x y : Int}
def e_min (x y : Int) : Int := if y < x then y else x
def e_max (x y : Int) : Int := if x < y then y else x
def e_abs (x : Int) : Int := if 0 ≤ x then x else e_w32 (0 - x)
def e_absL (x : Int) : Int := if 0 ≤ x then x else e_w64 (0 - x)
theorem e_min_r {p : Int → Prop} (hx : p x) (hy : p y) : p (e_min x y) := by unfold e_min; split <;> assumption
theorem e_max_r {p : Int → Prop} (hx : p x) (hy : p y) : p (e_max x y) := by unfold e_max; split <;> assumption
theorem e_abs_r (hx : e_i32 x) : e_i32 (e_abs x) := by
  unfold e_abs
  split
  · exact hx
  · exact e_w32_rng _
theorem e_absL_r (hx : e_i64 x) : e_i64 (e_absL x) := by
  unfold e_absL
  split
  · exact hx
  · exact e_w64_rng _
theorem e_mmin (hdg : decode Y.2.1 pc = .ok (.invokestatic idx, 3)) (hl : Cond.methodLink Y.1.cls idx Lib.Math.min.name ∈ e_gd) (hs : Cond.static Lib.Math.min.name ∈ e_gd) (hi : Cond.initialized "java/lang/Math" ∈ e_gd) (hcd : Cond.code Lib.Math.min.name Lib.Math.min.code 2 (some .int) ∈ e_gd)
    (hr : 1 ≤ rm.1) (hc : e_cat st ≤ 8) (h1 : cs.1 ≤ rm.2.1) (h2 : cs.2 ≤ rm.2.2) (k : e_T sh Y rm (pc + 3) ls (.inl (e_min x y) :: st) g cs Q) : e_T sh Y rm pc ls (.inl y :: .inl x :: st) g cs Q := by
  intro p l e s m args below meth c D ad0 t0 ad H locs lsJ hC hE hI hL hls hst
  obtain ⟨hy, hst2⟩ := e_ok_pop hst
  obtain ⟨hx, hst3⟩ := e_ok_pop hst2
  have hcat := e_cat_le (ad := ad) (st := st)
  refine va_mmin hC.1 hC.2.1 (hC.2.2.1.trans hL.1.symm) hC.2.2.2.2.1 (hC.2.2.2.2.2.1 _ hl) (hC.2.2.2.2.2.1 _ hs) (hC.2.2.2.2.2.1 _ hi) (hC.2.2.2.2.2.1 _ hcd) hr (by show _ ≤ 128 * rm.1; omega) h1 h2 hdg ?_
  have e1 : (if Int32.ofInt y < Int32.ofInt x then Int32.ofInt y else Int32.ofInt x) = Int32.ofInt (e_min x y) := by
    unfold e_min
    by_cases h : y < x
    · rw [if_pos h, if_pos ((e_lt32 hy hx).mpr h)]
    · rw [if_neg h, if_neg (fun z => h ((e_lt32 hy hx).mp z))]
  rw [e1]
  exact k p l e s m args below meth c D ad0 t0 ad H locs lsJ hC hE hI hL hls (e_ok_cons (v := .inl (e_min x y)) (e_min_r (p := e_i32) hx hy) (fun h => by cases h) hst3)
theorem e_mmax (hdg : decode Y.2.1 pc = .ok (.invokestatic idx, 3)) (hl : Cond.methodLink Y.1.cls idx Lib.Math.max.name ∈ e_gd) (hs : Cond.static Lib.Math.max.name ∈ e_gd) (hi : Cond.initialized "java/lang/Math" ∈ e_gd) (hcd : Cond.code Lib.Math.max.name Lib.Math.max.code 2 (some .int) ∈ e_gd)
    (hr : 1 ≤ rm.1) (hc : e_cat st ≤ 8) (h1 : cs.1 ≤ rm.2.1) (h2 : cs.2 ≤ rm.2.2) (k : e_T sh Y rm (pc + 3) ls (.inl (e_max x y) :: st) g cs Q) : e_T sh Y rm pc ls (.inl y :: .inl x :: st) g cs Q := by
  intro p l e s m args below meth c D ad0 t0 ad H locs lsJ hC hE hI hL hls hst
  obtain ⟨hy, hst2⟩ := e_ok_pop hst
  obtain ⟨hx, hst3⟩ := e_ok_pop hst2
  have hcat := e_cat_le (ad := ad) (st := st)
  refine va_mmax hC.1 hC.2.1 (hC.2.2.1.trans hL.1.symm) hC.2.2.2.2.1 (hC.2.2.2.2.2.1 _ hl) (hC.2.2.2.2.2.1 _ hs) (hC.2.2.2.2.2.1 _ hi) (hC.2.2.2.2.2.1 _ hcd) hr (by show _ ≤ 128 * rm.1; omega) h1 h2 hdg ?_
  have e1 : (if Int32.ofInt x < Int32.ofInt y then Int32.ofInt y else Int32.ofInt x) = Int32.ofInt (e_max x y) := by
    unfold e_max
    by_cases h : x < y
    · rw [if_pos h, if_pos ((e_lt32 hx hy).mpr h)]
    · rw [if_neg h, if_neg (fun z => h ((e_lt32 hx hy).mp z))]
  rw [e1]
  exact k p l e s m args below meth c D ad0 t0 ad H locs lsJ hC hE hI hL hls (e_ok_cons (v := .inl (e_max x y)) (e_max_r (p := e_i32) hx hy) (fun h => by cases h) hst3)
theorem e_mabs (hdg : decode Y.2.1 pc = .ok (.invokestatic idx, 3)) (hl : Cond.methodLink Y.1.cls idx Lib.Math.abs.name ∈ e_gd) (hs : Cond.static Lib.Math.abs.name ∈ e_gd) (hi : Cond.initialized "java/lang/Math" ∈ e_gd) (hcd : Cond.code Lib.Math.abs.name Lib.Math.abs.code 1 (some .int) ∈ e_gd)
    (hr : 1 ≤ rm.1) (hc : e_cat st ≤ 8) (h1 : cs.1 ≤ rm.2.1) (h2 : cs.2 ≤ rm.2.2) (k : e_T sh Y rm (pc + 3) ls (.inl (e_abs x) :: st) g cs Q) : e_T sh Y rm pc ls (.inl x :: st) g cs Q := by
  intro p l e s m args below meth c D ad0 t0 ad H locs lsJ hC hE hI hL hls hst
  obtain ⟨hx, hst3⟩ := e_ok_pop hst
  have hcat := e_cat_le (ad := ad) (st := st)
  refine va_mabs hC.1 hC.2.1 (hC.2.2.1.trans hL.1.symm) hC.2.2.2.2.1 (hC.2.2.2.2.2.1 _ hl) (hC.2.2.2.2.2.1 _ hs) (hC.2.2.2.2.2.1 _ hi) (hC.2.2.2.2.2.1 _ hcd) hr (by show _ ≤ 128 * rm.1; omega) h1 h2 hdg ?_
  have e1 : (if 0 ≤ Int32.ofInt x then Int32.ofInt x else 0 - Int32.ofInt x) = Int32.ofInt (e_abs x) := by
    unfold e_abs
    rw [e_0]
    by_cases h : 0 ≤ x
    · rw [if_pos h, if_pos ((e_le32 e_z32 hx).mpr h)]
    · rw [if_neg h, if_neg (fun z => h ((e_le32 e_z32 hx).mp z)), e_sub32 e_z32 hx]
  rw [e1]
  exact k p l e s m args below meth c D ad0 t0 ad H locs lsJ hC hE hI hL hls (e_ok_cons (v := .inl (e_abs x)) (e_abs_r hx) (fun h => by cases h) hst3)
theorem e_mminL (hdg : decode Y.2.1 pc = .ok (.invokestatic idx, 3)) (hl : Cond.methodLink Y.1.cls idx Lib.MathLoose.min_long.x ∈ e_gd) (hs : Cond.static Lib.MathLoose.min_long.x ∈ e_gd) (hi : Cond.initialized "java/lang/Math" ∈ e_gd) (hcd : Cond.code Lib.MathLoose.min_long.x Lib.MathLoose.min_long.code 4 (some .long) ∈ e_gd)
    (hr : 1 ≤ rm.1) (hc : e_cat st ≤ 8) (h1 : cs.1 ≤ rm.2.1) (h2 : cs.2 ≤ rm.2.2) (k : e_T sh Y rm (pc + 3) ls (.inr (.inl (e_min x y)) :: st) g cs Q) : e_T sh Y rm pc ls (.inr (.inl y) :: .inr (.inl x) :: st) g cs Q := by
  intro p l e s m args below meth c D ad0 t0 ad H locs lsJ hC hE hI hL hls hst
  obtain ⟨hy, hst2⟩ := e_ok_pop hst
  obtain ⟨hx, hst3⟩ := e_ok_pop hst2
  have hcat := e_cat_le (ad := ad) (st := st)
  refine va_mmin_long hC.1 hC.2.1 (hC.2.2.1.trans hL.1.symm) hC.2.2.2.2.1 (hC.2.2.2.2.2.1 _ hl) (hC.2.2.2.2.2.1 _ hs) (hC.2.2.2.2.2.1 _ hi) (hC.2.2.2.2.2.1 _ hcd) hr (by show _ ≤ 128 * rm.1; omega) h1 h2 hdg ?_
  have e1 : (if Int64.ofInt y < Int64.ofInt x then Int64.ofInt y else Int64.ofInt x) = Int64.ofInt (e_min x y) := by
    unfold e_min
    by_cases h : y < x
    · rw [if_pos h, if_pos ((e_lt64 hy hx).mpr h)]
    · rw [if_neg h, if_neg (fun z => h ((e_lt64 hy hx).mp z))]
  rw [e1]
  exact k p l e s m args below meth c D ad0 t0 ad H locs lsJ hC hE hI hL hls (e_ok_cons (v := .inr (.inl (e_min x y))) (e_min_r (p := e_i64) hx hy) (fun h => by cases h) hst3)
theorem e_mmaxL (hdg : decode Y.2.1 pc = .ok (.invokestatic idx, 3)) (hl : Cond.methodLink Y.1.cls idx Lib.MathLoose.max_long.x ∈ e_gd) (hs : Cond.static Lib.MathLoose.max_long.x ∈ e_gd) (hi : Cond.initialized "java/lang/Math" ∈ e_gd) (hcd : Cond.code Lib.MathLoose.max_long.x Lib.MathLoose.max_long.code 4 (some .long) ∈ e_gd)
    (hr : 1 ≤ rm.1) (hc : e_cat st ≤ 8) (h1 : cs.1 ≤ rm.2.1) (h2 : cs.2 ≤ rm.2.2) (k : e_T sh Y rm (pc + 3) ls (.inr (.inl (e_max x y)) :: st) g cs Q) : e_T sh Y rm pc ls (.inr (.inl y) :: .inr (.inl x) :: st) g cs Q := by
  intro p l e s m args below meth c D ad0 t0 ad H locs lsJ hC hE hI hL hls hst
  obtain ⟨hy, hst2⟩ := e_ok_pop hst
  obtain ⟨hx, hst3⟩ := e_ok_pop hst2
  have hcat := e_cat_le (ad := ad) (st := st)
  refine va_mmax_long hC.1 hC.2.1 (hC.2.2.1.trans hL.1.symm) hC.2.2.2.2.1 (hC.2.2.2.2.2.1 _ hl) (hC.2.2.2.2.2.1 _ hs) (hC.2.2.2.2.2.1 _ hi) (hC.2.2.2.2.2.1 _ hcd) hr (by show _ ≤ 128 * rm.1; omega) h1 h2 hdg ?_
  have e1 : (if Int64.ofInt y < Int64.ofInt x then Int64.ofInt x else Int64.ofInt y) = Int64.ofInt (e_max x y) := by
    unfold e_max
    by_cases h : x < y
    · rw [if_pos h, if_neg (fun z => by have := (e_lt64 hy hx).mp z; omega)]
    · rw [if_neg h]
      by_cases h3 : y < x
      · rw [if_pos ((e_lt64 hy hx).mpr h3)]
      · rw [if_neg (fun z => h3 ((e_lt64 hy hx).mp z)), show y = x by omega]
  rw [e1]
  exact k p l e s m args below meth c D ad0 t0 ad H locs lsJ hC hE hI hL hls (e_ok_cons (v := .inr (.inl (e_max x y))) (e_max_r (p := e_i64) hx hy) (fun h => by cases h) hst3)
end MATH
