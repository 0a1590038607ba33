/-! rows of the engine: numbers, branches, switches -/
section ARITH
variable {sh : Nat → Nat × Nat} {Y : e_Y} {rm : Nat × Nat × Nat} {pc : Nat} {ls st : List e_V} {g : e_G} {cs : Nat × Nat} {Q : Option e_V → e_G → Prop} {x y : Int}
theorem e_ok_pop {v : e_V} {t : Nat} (h : ∀ w ∈ v :: st, e_ok t w ∧ w ≠ .inr (.inr (.inr ()))) : e_ok t v ∧ ∀ w ∈ st, e_ok t w ∧ w ≠ .inr (.inr (.inr ())) := ⟨(h v List.mem_cons_self).1, fun w hw => h w (List.mem_cons_of_mem _ hw)⟩
theorem e_ni {z : Int} : (Sum.inl z : e_V) ≠ .inr (.inr (.inr ())) := fun h => by cases h
theorem e_nl {z : Int} : (Sum.inr (.inl z) : e_V) ≠ .inr (.inr (.inr ())) := fun h => by cases h
theorem e_na {z : Int} : (Sum.inr (.inr (.inl z)) : e_V) ≠ .inr (.inr (.inr ())) := fun h => by cases h
theorem e_iadd (hdg : decode Y.2.1 pc = .ok (.iadd, 1)) (k : e_T sh Y rm (pc + 1) ls (.inl (e_w32 (x + y)) :: st) g cs Q) : e_T sh Y rm pc ls (.inl y :: .inl x :: st) g cs Q :=
  e_go (fun h => e_ok_cons (v := .inl (e_w32 (x + y))) (e_w32_rng _) (e_ni) (e_ok_pop (e_ok_pop h).2).2) (fun {p l e R s m args below meth c H locs cells slots Q lsJ ad} hx hb h k => lv_iadd hx hb hdg (by
    have hy1 : e_i32 y := (e_ok_pop h).1
    have hx1 : e_i32 x := (e_ok_pop (e_ok_pop h).2).1
    rw [e_add32 hx1 hy1]; exact k)) k
theorem e_ladd (hdg : decode Y.2.1 pc = .ok (.ladd, 1)) (k : e_T sh Y rm (pc + 1) ls (.inr (.inl (e_w64 (x + y))) :: st) g cs Q) : e_T sh Y rm pc ls (.inr (.inl y) :: .inr (.inl x) :: st) g cs Q :=
  e_go (fun h => e_ok_cons (v := .inr (.inl (e_w64 (x + y)))) (e_w64_rng _) (e_nl) (e_ok_pop (e_ok_pop h).2).2) (fun {p l e R s m args below meth c H locs cells slots Q lsJ ad} hx hb h k => lv_ladd hx hb hdg (by
    have hy1 : e_i64 y := (e_ok_pop h).1
    have hx1 : e_i64 x := (e_ok_pop (e_ok_pop h).2).1
    rw [e_add64 hx1 hy1]; exact k)) k
theorem e_isub (hdg : decode Y.2.1 pc = .ok (.isub, 1)) (k : e_T sh Y rm (pc + 1) ls (.inl (e_w32 (x - y)) :: st) g cs Q) : e_T sh Y rm pc ls (.inl y :: .inl x :: st) g cs Q :=
  e_go (fun h => e_ok_cons (v := .inl (e_w32 (x - y))) (e_w32_rng _) (e_ni) (e_ok_pop (e_ok_pop h).2).2) (fun {p l e R s m args below meth c H locs cells slots Q lsJ ad} hx hb h k => lv_isub hx hb hdg (by
    have hy1 : e_i32 y := (e_ok_pop h).1
    have hx1 : e_i32 x := (e_ok_pop (e_ok_pop h).2).1
    rw [e_sub32 hx1 hy1]; exact k)) k
theorem e_lsub (hdg : decode Y.2.1 pc = .ok (.lsub, 1)) (k : e_T sh Y rm (pc + 1) ls (.inr (.inl (e_w64 (x - y))) :: st) g cs Q) : e_T sh Y rm pc ls (.inr (.inl y) :: .inr (.inl x) :: st) g cs Q :=
  e_go (fun h => e_ok_cons (v := .inr (.inl (e_w64 (x - y)))) (e_w64_rng _) (e_nl) (e_ok_pop (e_ok_pop h).2).2) (fun {p l e R s m args below meth c H locs cells slots Q lsJ ad} hx hb h k => lv_lsub hx hb hdg (by
    have hy1 : e_i64 y := (e_ok_pop h).1
    have hx1 : e_i64 x := (e_ok_pop (e_ok_pop h).2).1
    rw [e_sub64 hx1 hy1]; exact k)) k
theorem e_imul (hdg : decode Y.2.1 pc = .ok (.imul, 1)) (k : e_T sh Y rm (pc + 1) ls (.inl (e_w32 (x * y)) :: st) g cs Q) : e_T sh Y rm pc ls (.inl y :: .inl x :: st) g cs Q :=
  e_go (fun h => e_ok_cons (v := .inl (e_w32 (x * y))) (e_w32_rng _) (e_ni) (e_ok_pop (e_ok_pop h).2).2) (fun {p l e R s m args below meth c H locs cells slots Q lsJ ad} hx hb h k => lv_imul hx hb hdg (by
    have hy1 : e_i32 y := (e_ok_pop h).1
    have hx1 : e_i32 x := (e_ok_pop (e_ok_pop h).2).1
    rw [e_mul32 hx1 hy1]; exact k)) k
theorem e_lmul (hdg : decode Y.2.1 pc = .ok (.lmul, 1)) (k : e_T sh Y rm (pc + 1) ls (.inr (.inl (e_w64 (x * y))) :: st) g cs Q) : e_T sh Y rm pc ls (.inr (.inl y) :: .inr (.inl x) :: st) g cs Q :=
  e_go (fun h => e_ok_cons (v := .inr (.inl (e_w64 (x * y)))) (e_w64_rng _) (e_nl) (e_ok_pop (e_ok_pop h).2).2) (fun {p l e R s m args below meth c H locs cells slots Q lsJ ad} hx hb h k => lv_lmul hx hb hdg (by
    have hy1 : e_i64 y := (e_ok_pop h).1
    have hx1 : e_i64 x := (e_ok_pop (e_ok_pop h).2).1
    rw [e_mul64 hx1 hy1]; exact k)) k
theorem e_idiv (hdg : decode Y.2.1 pc = .ok (.idiv, 1)) (h0 : ¬ y = 0) (k : e_T sh Y rm (pc + 1) ls (.inl (e_w32 (x.tdiv y)) :: st) g cs Q) : e_T sh Y rm pc ls (.inl y :: .inl x :: st) g cs Q :=
  e_go (fun h => e_ok_cons (v := .inl (e_w32 (x.tdiv y))) (e_w32_rng _) (e_ni) (e_ok_pop (e_ok_pop h).2).2) (fun {p l e R s m args below meth c H locs cells slots Q lsJ ad} hx hb h k => lv_idiv hx hb hdg (by have hy1 : e_i32 y := (e_ok_pop h).1; rw [e_0, e_eq32 hy1 e_z32]; exact h0) (by
    have hy1 : e_i32 y := (e_ok_pop h).1
    have hx1 : e_i32 x := (e_ok_pop (e_ok_pop h).2).1
    rw [e_div32 hx1 hy1]; exact k)) k
theorem e_irem (hdg : decode Y.2.1 pc = .ok (.irem, 1)) (h0 : ¬ y = 0) (k : e_T sh Y rm (pc + 1) ls (.inl (x.tmod y) :: st) g cs Q) : e_T sh Y rm pc ls (.inl y :: .inl x :: st) g cs Q :=
  e_go (fun h => e_ok_cons (v := .inl (x.tmod y)) (show e_i32 _ from e_tmod_lt (m := 2147483648) (e_ok_pop (e_ok_pop h).2).1) (e_ni) (e_ok_pop (e_ok_pop h).2).2) (fun {p l e R s m args below meth c H locs cells slots Q lsJ ad} hx hb h k => lv_irem hx hb hdg (by have hy1 : e_i32 y := (e_ok_pop h).1; rw [e_0, e_eq32 hy1 e_z32]; exact h0) (by
    have hy1 : e_i32 y := (e_ok_pop h).1
    have hx1 : e_i32 x := (e_ok_pop (e_ok_pop h).2).1
    rw [e_rem32 hx1 hy1]; exact k)) k
theorem e_ldiv (hdg : decode Y.2.1 pc = .ok (.ldiv, 1)) (h0 : ¬ y = 0) (k : e_T sh Y rm (pc + 1) ls (.inr (.inl (e_w64 (x.tdiv y))) :: st) g cs Q) : e_T sh Y rm pc ls (.inr (.inl y) :: .inr (.inl x) :: st) g cs Q :=
  e_go (fun h => e_ok_cons (v := .inr (.inl (e_w64 (x.tdiv y)))) (e_w64_rng _) (e_nl) (e_ok_pop (e_ok_pop h).2).2) (fun {p l e R s m args below meth c H locs cells slots Q lsJ ad} hx hb h k => lv_ldiv hx hb hdg (by have hy1 : e_i64 y := (e_ok_pop h).1; rw [show (0 : Int64) = Int64.ofInt 0 from rfl, e_eq64 hy1 ⟨by decide, by decide⟩]; exact h0) (by
    have hy1 : e_i64 y := (e_ok_pop h).1
    have hx1 : e_i64 x := (e_ok_pop (e_ok_pop h).2).1
    rw [e_div64 hx1 hy1]; exact k)) k
theorem e_lrem (hdg : decode Y.2.1 pc = .ok (.lrem, 1)) (h0 : ¬ y = 0) (k : e_T sh Y rm (pc + 1) ls (.inr (.inl (x.tmod y)) :: st) g cs Q) : e_T sh Y rm pc ls (.inr (.inl y) :: .inr (.inl x) :: st) g cs Q :=
  e_go (fun h => e_ok_cons (v := .inr (.inl (x.tmod y))) (show e_i64 _ from e_tmod_lt (m := 9223372036854775808) (e_ok_pop (e_ok_pop h).2).1) (e_nl) (e_ok_pop (e_ok_pop h).2).2) (fun {p l e R s m args below meth c H locs cells slots Q lsJ ad} hx hb h k => lv_lrem hx hb hdg (by have hy1 : e_i64 y := (e_ok_pop h).1; rw [show (0 : Int64) = Int64.ofInt 0 from rfl, e_eq64 hy1 ⟨by decide, by decide⟩]; exact h0) (by
    have hy1 : e_i64 y := (e_ok_pop h).1
    have hx1 : e_i64 x := (e_ok_pop (e_ok_pop h).2).1
    rw [e_rem64 hx1 hy1]; exact k)) k
/-- an int, a long as a number -/
theorem e_r32 (z : Int32) : e_i32 z.toInt := ⟨z.le_toInt, z.toInt_lt⟩
theorem e_r64 (z : Int64) : e_i64 z.toInt := ⟨z.le_toInt, z.toInt_lt⟩
theorem e_iand (hdg : decode Y.2.1 pc = .ok (.iand, 1)) (k : e_T sh Y rm (pc + 1) ls (.inl (Int32.ofInt x &&& Int32.ofInt y).toInt :: st) g cs Q) : e_T sh Y rm pc ls (.inl y :: .inl x :: st) g cs Q :=
  e_go (fun h => e_ok_cons (v := .inl (Int32.ofInt x &&& Int32.ofInt y).toInt) (e_r32 _) (e_ni) (e_ok_pop (e_ok_pop h).2).2) (fun {p l e R s m args below meth c H locs cells slots Q lsJ ad} hx hb h k => lv_iand hx hb hdg (by
    have e1 : Int32.ofInt (Int32.ofInt x &&& Int32.ofInt y).toInt = Int32.ofInt x &&& Int32.ofInt y := Int32.ofInt_toInt _
    rw [← e1]; exact k)) k
theorem e_ior (hdg : decode Y.2.1 pc = .ok (.ior, 1)) (k : e_T sh Y rm (pc + 1) ls (.inl (Int32.ofInt x ||| Int32.ofInt y).toInt :: st) g cs Q) : e_T sh Y rm pc ls (.inl y :: .inl x :: st) g cs Q :=
  e_go (fun h => e_ok_cons (v := .inl (Int32.ofInt x ||| Int32.ofInt y).toInt) (e_r32 _) (e_ni) (e_ok_pop (e_ok_pop h).2).2) (fun {p l e R s m args below meth c H locs cells slots Q lsJ ad} hx hb h k => lv_ior hx hb hdg (by
    have e1 : Int32.ofInt (Int32.ofInt x ||| Int32.ofInt y).toInt = Int32.ofInt x ||| Int32.ofInt y := Int32.ofInt_toInt _
    rw [← e1]; exact k)) k
theorem e_ixor (hdg : decode Y.2.1 pc = .ok (.ixor, 1)) (k : e_T sh Y rm (pc + 1) ls (.inl (Int32.ofInt x ^^^ Int32.ofInt y).toInt :: st) g cs Q) : e_T sh Y rm pc ls (.inl y :: .inl x :: st) g cs Q :=
  e_go (fun h => e_ok_cons (v := .inl (Int32.ofInt x ^^^ Int32.ofInt y).toInt) (e_r32 _) (e_ni) (e_ok_pop (e_ok_pop h).2).2) (fun {p l e R s m args below meth c H locs cells slots Q lsJ ad} hx hb h k => lv_ixor hx hb hdg (by
    have e1 : Int32.ofInt (Int32.ofInt x ^^^ Int32.ofInt y).toInt = Int32.ofInt x ^^^ Int32.ofInt y := Int32.ofInt_toInt _
    rw [← e1]; exact k)) k
theorem e_ishl (hdg : decode Y.2.1 pc = .ok (.ishl, 1)) (k : e_T sh Y rm (pc + 1) ls (.inl (Int32.ofInt x <<< (Int32.ofInt y &&& 31)).toInt :: st) g cs Q) : e_T sh Y rm pc ls (.inl y :: .inl x :: st) g cs Q :=
  e_go (fun h => e_ok_cons (v := .inl (Int32.ofInt x <<< (Int32.ofInt y &&& 31)).toInt) (e_r32 _) (e_ni) (e_ok_pop (e_ok_pop h).2).2) (fun {p l e R s m args below meth c H locs cells slots Q lsJ ad} hx hb h k => lv_ishl hx hb hdg (by
    have e1 : Int32.ofInt (Int32.ofInt x <<< (Int32.ofInt y &&& 31)).toInt = Int32.ofInt x <<< (Int32.ofInt y &&& 31) := Int32.ofInt_toInt _
    rw [← e1]; exact k)) k
theorem e_ishr (hdg : decode Y.2.1 pc = .ok (.ishr, 1)) (k : e_T sh Y rm (pc + 1) ls (.inl (Int32.ofInt x >>> (Int32.ofInt y &&& 31)).toInt :: st) g cs Q) : e_T sh Y rm pc ls (.inl y :: .inl x :: st) g cs Q :=
  e_go (fun h => e_ok_cons (v := .inl (Int32.ofInt x >>> (Int32.ofInt y &&& 31)).toInt) (e_r32 _) (e_ni) (e_ok_pop (e_ok_pop h).2).2) (fun {p l e R s m args below meth c H locs cells slots Q lsJ ad} hx hb h k => lv_ishr hx hb hdg (by
    have e1 : Int32.ofInt (Int32.ofInt x >>> (Int32.ofInt y &&& 31)).toInt = Int32.ofInt x >>> (Int32.ofInt y &&& 31) := Int32.ofInt_toInt _
    rw [← e1]; exact k)) k
theorem e_land (hdg : decode Y.2.1 pc = .ok (.land, 1)) (k : e_T sh Y rm (pc + 1) ls (.inr (.inl (Int64.ofInt x &&& Int64.ofInt y).toInt) :: st) g cs Q) : e_T sh Y rm pc ls (.inr (.inl y) :: .inr (.inl x) :: st) g cs Q :=
  e_go (fun h => e_ok_cons (v := .inr (.inl (Int64.ofInt x &&& Int64.ofInt y).toInt)) (e_r64 _) (e_nl) (e_ok_pop (e_ok_pop h).2).2) (fun {p l e R s m args below meth c H locs cells slots Q lsJ ad} hx hb h k => lv_land hx hb hdg (by
    have e1 : Int64.ofInt (Int64.ofInt x &&& Int64.ofInt y).toInt = Int64.ofInt x &&& Int64.ofInt y := Int64.ofInt_toInt _
    rw [← e1]; exact k)) k
theorem e_lor (hdg : decode Y.2.1 pc = .ok (.lor, 1)) (k : e_T sh Y rm (pc + 1) ls (.inr (.inl (Int64.ofInt x ||| Int64.ofInt y).toInt) :: st) g cs Q) : e_T sh Y rm pc ls (.inr (.inl y) :: .inr (.inl x) :: st) g cs Q :=
  e_go (fun h => e_ok_cons (v := .inr (.inl (Int64.ofInt x ||| Int64.ofInt y).toInt)) (e_r64 _) (e_nl) (e_ok_pop (e_ok_pop h).2).2) (fun {p l e R s m args below meth c H locs cells slots Q lsJ ad} hx hb h k => lv_lor hx hb hdg (by
    have e1 : Int64.ofInt (Int64.ofInt x ||| Int64.ofInt y).toInt = Int64.ofInt x ||| Int64.ofInt y := Int64.ofInt_toInt _
    rw [← e1]; exact k)) k
theorem e_lxor (hdg : decode Y.2.1 pc = .ok (.lxor, 1)) (k : e_T sh Y rm (pc + 1) ls (.inr (.inl (Int64.ofInt x ^^^ Int64.ofInt y).toInt) :: st) g cs Q) : e_T sh Y rm pc ls (.inr (.inl y) :: .inr (.inl x) :: st) g cs Q :=
  e_go (fun h => e_ok_cons (v := .inr (.inl (Int64.ofInt x ^^^ Int64.ofInt y).toInt)) (e_r64 _) (e_nl) (e_ok_pop (e_ok_pop h).2).2) (fun {p l e R s m args below meth c H locs cells slots Q lsJ ad} hx hb h k => lv_lxor hx hb hdg (by
    have e1 : Int64.ofInt (Int64.ofInt x ^^^ Int64.ofInt y).toInt = Int64.ofInt x ^^^ Int64.ofInt y := Int64.ofInt_toInt _
    rw [← e1]; exact k)) k
theorem e_lshl (hdg : decode Y.2.1 pc = .ok (.lshl, 1)) (k : e_T sh Y rm (pc + 1) ls (.inr (.inl (Int64.ofInt x <<< ((Int32.ofInt y).toInt64 &&& 63)).toInt) :: st) g cs Q) : e_T sh Y rm pc ls (.inl y :: .inr (.inl x) :: st) g cs Q :=
  e_go (fun h => e_ok_cons (v := .inr (.inl (Int64.ofInt x <<< ((Int32.ofInt y).toInt64 &&& 63)).toInt)) (e_r64 _) (e_nl) (e_ok_pop (e_ok_pop h).2).2) (fun {p l e R s m args below meth c H locs cells slots Q lsJ ad} hx hb h k => lv_lshl hx hb hdg rfl (by
    have e1 : Int64.ofInt (Int64.ofInt x <<< ((Int32.ofInt y).toInt64 &&& 63)).toInt = Int64.ofInt x <<< ((Int32.ofInt y).toInt64 &&& 63) := Int64.ofInt_toInt _
    rw [← e1]; exact k)) k
theorem e_lshr (hdg : decode Y.2.1 pc = .ok (.lshr, 1)) (k : e_T sh Y rm (pc + 1) ls (.inr (.inl (Int64.ofInt x >>> ((Int32.ofInt y).toInt64 &&& 63)).toInt) :: st) g cs Q) : e_T sh Y rm pc ls (.inl y :: .inr (.inl x) :: st) g cs Q :=
  e_go (fun h => e_ok_cons (v := .inr (.inl (Int64.ofInt x >>> ((Int32.ofInt y).toInt64 &&& 63)).toInt)) (e_r64 _) (e_nl) (e_ok_pop (e_ok_pop h).2).2) (fun {p l e R s m args below meth c H locs cells slots Q lsJ ad} hx hb h k => lv_lshr hx hb hdg rfl (by
    have e1 : Int64.ofInt (Int64.ofInt x >>> ((Int32.ofInt y).toInt64 &&& 63)).toInt = Int64.ofInt x >>> ((Int32.ofInt y).toInt64 &&& 63) := Int64.ofInt_toInt _
    rw [← e1]; exact k)) k
theorem e_lushr (hdg : decode Y.2.1 pc = .ok (.lushr, 1)) (k : e_T sh Y rm (pc + 1) ls (.inr (.inl (((Int64.ofInt x).toUInt64 >>> ((Int32.ofInt y).toInt64.toUInt64 &&& Int64.toUInt64 63)).toInt64).toInt) :: st) g cs Q) : e_T sh Y rm pc ls (.inl y :: .inr (.inl x) :: st) g cs Q :=
  e_go (fun h => e_ok_cons (v := .inr (.inl (((Int64.ofInt x).toUInt64 >>> ((Int32.ofInt y).toInt64.toUInt64 &&& Int64.toUInt64 63)).toInt64).toInt)) (e_r64 _) (e_nl) (e_ok_pop (e_ok_pop h).2).2) (fun {p l e R s m args below meth c H locs cells slots Q lsJ ad} hx hb h k => lv_lushr hx hb hdg rfl (by
    have e1 : Int64.ofInt (((Int64.ofInt x).toUInt64 >>> ((Int32.ofInt y).toInt64.toUInt64 &&& Int64.toUInt64 63)).toInt64).toInt = ((Int64.ofInt x).toUInt64 >>> ((Int32.ofInt y).toInt64.toUInt64 &&& Int64.toUInt64 63)).toInt64 := Int64.ofInt_toInt _
    rw [← e1]; exact k)) k
theorem e_ineg_ (hdg : decode Y.2.1 pc = .ok (.ineg, 1)) (k : e_T sh Y rm (pc + 1) ls (.inl (e_w32 (-x)) :: st) g cs Q) : e_T sh Y rm pc ls (.inl x :: st) g cs Q :=
  e_go (fun h => e_ok_cons (v := .inl (e_w32 (-x))) (e_w32_rng _) (e_ni) (e_ok_pop h).2) (fun {p l e R s m args below meth c H locs cells slots Q lsJ ad} hx hb h k => lv_ineg hx hb hdg (by have hx1 : e_i32 x := (e_ok_pop h).1; rw [e_neg32 hx1]; exact k)) k
theorem e_lneg_ (hdg : decode Y.2.1 pc = .ok (.lneg, 1)) (k : e_T sh Y rm (pc + 1) ls (.inr (.inl (e_w64 (-x))) :: st) g cs Q) : e_T sh Y rm pc ls (.inr (.inl x) :: st) g cs Q :=
  e_go (fun h => e_ok_cons (v := .inr (.inl (e_w64 (-x)))) (e_w64_rng _) (e_nl) (e_ok_pop h).2) (fun {p l e R s m args below meth c H locs cells slots Q lsJ ad} hx hb h k => lv_lneg hx hb hdg (by have hx1 : e_i64 x := (e_ok_pop h).1; rw [e_neg64 hx1]; exact k)) k
theorem e_i2l_ (hdg : decode Y.2.1 pc = .ok (.i2l, 1)) (k : e_T sh Y rm (pc + 1) ls (.inr (.inl x) :: st) g cs Q) : e_T sh Y rm pc ls (.inl x :: st) g cs Q :=
  e_go (fun h => e_ok_cons (v := .inr (.inl x)) (show e_i64 x from ⟨by have := (show e_i32 x from (e_ok_pop h).1).1; omega, by have := (show e_i32 x from (e_ok_pop h).1).2; omega⟩) (e_nl) (e_ok_pop h).2) (fun {p l e R s m args below meth c H locs cells slots Q lsJ ad} hx hb h k => lv_i2l hx hb hdg (e_i2l (e_ok_pop h).1) k) k
theorem e_l2i_ (hdg : decode Y.2.1 pc = .ok (.l2i, 1)) (k : e_T sh Y rm (pc + 1) ls (.inl (e_w32 x) :: st) g cs Q) : e_T sh Y rm pc ls (.inr (.inl x) :: st) g cs Q :=
  e_go (fun h => e_ok_cons (v := .inl (e_w32 x)) (e_w32_rng _) (e_ni) (e_ok_pop h).2) (fun {p l e R s m args below meth c H locs cells slots Q lsJ ad} hx hb h k => lv_l2i hx hb hdg e_l2i k) k
theorem e_i2b_ (hdg : decode Y.2.1 pc = .ok (.i2b, 1)) (k : e_T sh Y rm (pc + 1) ls (.inl (e_w8 x) :: st) g cs Q) : e_T sh Y rm pc ls (.inl x :: st) g cs Q :=
  e_go (fun h => e_ok_cons (v := .inl (e_w8 x)) (show e_i32 _ from ⟨by have := e_w8_rng x; omega, by have := e_w8_rng x; omega⟩) (e_ni) (e_ok_pop h).2) (fun {p l e R s m args below meth c H locs cells slots Q lsJ ad} hx hb h k => lv_i2b hx hb hdg e_i2b k) k
theorem e_lcmp_ (hdg : decode Y.2.1 pc = .ok (.lcmp, 1)) (k : e_T sh Y rm (pc + 1) ls (.inl (e_cmp x y) :: st) g cs Q) : e_T sh Y rm pc ls (.inr (.inl y) :: .inr (.inl x) :: st) g cs Q :=
  e_go (fun h => e_ok_cons (v := .inl (e_cmp x y)) e_cmp_rng e_ni (e_ok_pop (e_ok_pop h).2).2) (fun {p l e R s m args below meth c H locs cells slots Q lsJ ad} hx hb h k => W.lcmp hx hb hdg (by
    have hy1 : e_i64 y := (e_ok_pop h).1
    have hx1 : e_i64 x := (e_ok_pop (e_ok_pop h).2).1
    rw [e_lcmp hx1 hy1]; exact k)) k
theorem e_vcat {ad : Nat → Nat} {v : e_V} (h : ∀ x, v ≠ .inr (.inl x)) : (e_vv ad v).category = 1 := by
  rcases lv_cat (e_vv ad v) with h1 | h1
  · exact h1
  · obtain ⟨z, rfl⟩ := e_cat_iff h1; exact absurd rfl (h z)
theorem e_dup {v : e_V} (hdg : decode Y.2.1 pc = .ok (.dup, 1)) (hv : ∀ x, v ≠ .inr (.inl x)) (k : e_T sh Y rm (pc + 1) ls (v :: v :: st) g cs Q) : e_T sh Y rm pc ls (v :: st) g cs Q :=
  e_go (fun h => List.forall_mem_cons.mpr ⟨h v List.mem_cons_self, h⟩) (fun hx hb h k => lv_dup hx hb hdg (e_vcat hv) k) k
theorem e_pop {v : e_V} (hdg : decode Y.2.1 pc = .ok (.pop, 1)) (hv : ∀ x, v ≠ .inr (.inl x)) (k : e_T sh Y rm (pc + 1) ls st g cs Q) : e_T sh Y rm pc ls (v :: st) g cs Q :=
  e_go (fun h => (e_ok_pop h).2) (fun hx hb h k => lv_pop hx hb hdg (e_vcat hv) k) k
theorem e_pop2 (hdg : decode Y.2.1 pc = .ok (.pop2, 1)) (k : e_T sh Y rm (pc + 1) ls st g cs Q) : e_T sh Y rm pc ls (.inr (.inl x) :: st) g cs Q :=
  e_go (fun h => (e_ok_pop h).2) (fun hx hb h k => lv_pop2_2 hx hb hdg rfl k) k
theorem e_dup2 {v u : e_V} (hdg : decode Y.2.1 pc = .ok (.dup2, 1)) (hv : ∀ x, v ≠ .inr (.inl x)) (hu : ∀ x, u ≠ .inr (.inl x)) (k : e_T sh Y rm (pc + 1) ls (v :: u :: v :: u :: st) g cs Q) : e_T sh Y rm pc ls (v :: u :: st) g cs Q :=
  e_go (fun h => List.forall_mem_cons.mpr ⟨h v List.mem_cons_self, List.forall_mem_cons.mpr ⟨h u (List.mem_cons_of_mem _ List.mem_cons_self), h⟩⟩) (fun hx hb h k => lv_dup2_11 hx hb hdg (e_vcat hv) (e_vcat hu) k) k
theorem e_goto {off : Int} {tgt : Nat} (hdg : decode Y.2.1 pc = .ok (.goto off, 3)) (ht : (pc : Int) + off = (tgt : Int)) (k : e_T sh Y rm tgt ls st g cs Q) : e_T sh Y rm pc ls st g cs Q :=
  e_go (fun h => h) (fun hx hb h k => lv_goto hx hb hdg ht k) k
theorem e_if_eq {off : Int} {tgt : Nat} (hdg : decode Y.2.1 pc = .ok (.ifCond .eq off, 3)) (ht : (pc : Int) + off = (tgt : Int)) (kt : x = 0 → e_T sh Y rm tgt ls st g cs Q) (kf : ¬ x = 0 → e_T sh Y rm (pc + 3) ls st g cs Q) : e_T sh Y rm pc ls (.inl x :: st) g cs Q := by
  intro p l e s m args below meth c D ad0 t0 ad H locs lsJ hC hE hI hL hls hst
  have hy1 : e_i32 0 := e_z32
  have hx1 : e_i32 x := (e_ok_pop hst).1
  have hs := (e_ok_pop hst).2
  exact lv_if_eq hC.1 hC.2.1 hdg ht (fun h => kt ((e_eq32 hx1 hy1).mp h) p l e s m args below meth c D ad0 t0 ad H locs lsJ hC hE hI hL hls hs) (fun h => kf (fun z => h ((e_eq32 hx1 hy1).mpr z)) p l e s m args below meth c D ad0 t0 ad H locs lsJ hC hE hI hL hls hs)
theorem e_icmp_eq {off : Int} {tgt : Nat} (hdg : decode Y.2.1 pc = .ok (.if_icmp .eq off, 3)) (ht : (pc : Int) + off = (tgt : Int)) (kt : x = y → e_T sh Y rm tgt ls st g cs Q) (kf : ¬ x = y → e_T sh Y rm (pc + 3) ls st g cs Q) : e_T sh Y rm pc ls (.inl y :: .inl x :: st) g cs Q := by
  intro p l e s m args below meth c D ad0 t0 ad H locs lsJ hC hE hI hL hls hst
  have hy1 : e_i32 y := (e_ok_pop hst).1
  have hx1 : e_i32 x := (e_ok_pop (e_ok_pop hst).2).1
  have hs := (e_ok_pop (e_ok_pop hst).2).2
  exact lv_icmp_eq hC.1 hC.2.1 hdg ht (fun h => kt ((e_eq32 hx1 hy1).mp h) p l e s m args below meth c D ad0 t0 ad H locs lsJ hC hE hI hL hls hs) (fun h => kf (fun z => h ((e_eq32 hx1 hy1).mpr z)) p l e s m args below meth c D ad0 t0 ad H locs lsJ hC hE hI hL hls hs)
theorem e_if_ne {off : Int} {tgt : Nat} (hdg : decode Y.2.1 pc = .ok (.ifCond .ne off, 3)) (ht : (pc : Int) + off = (tgt : Int)) (kt : ¬ x = 0 → e_T sh Y rm tgt ls st g cs Q) (kf : x = 0 → e_T sh Y rm (pc + 3) ls st g cs Q) : e_T sh Y rm pc ls (.inl x :: st) g cs Q := by
  intro p l e s m args below meth c D ad0 t0 ad H locs lsJ hC hE hI hL hls hst
  have hy1 : e_i32 0 := e_z32
  have hx1 : e_i32 x := (e_ok_pop hst).1
  have hs := (e_ok_pop hst).2
  exact lv_if_ne hC.1 hC.2.1 hdg ht (fun h => kt (fun z => h ((e_eq32 hx1 hy1).mpr z)) p l e s m args below meth c D ad0 t0 ad H locs lsJ hC hE hI hL hls hs) (fun h => kf ((e_eq32 hx1 hy1).mp h) p l e s m args below meth c D ad0 t0 ad H locs lsJ hC hE hI hL hls hs)
theorem e_icmp_ne {off : Int} {tgt : Nat} (hdg : decode Y.2.1 pc = .ok (.if_icmp .ne off, 3)) (ht : (pc : Int) + off = (tgt : Int)) (kt : ¬ x = y → e_T sh Y rm tgt ls st g cs Q) (kf : x = y → e_T sh Y rm (pc + 3) ls st g cs Q) : e_T sh Y rm pc ls (.inl y :: .inl x :: st) g cs Q := by
  intro p l e s m args below meth c D ad0 t0 ad H locs lsJ hC hE hI hL hls hst
  have hy1 : e_i32 y := (e_ok_pop hst).1
  have hx1 : e_i32 x := (e_ok_pop (e_ok_pop hst).2).1
  have hs := (e_ok_pop (e_ok_pop hst).2).2
  exact lv_icmp_ne hC.1 hC.2.1 hdg ht (fun h => kt (fun z => h ((e_eq32 hx1 hy1).mpr z)) p l e s m args below meth c D ad0 t0 ad H locs lsJ hC hE hI hL hls hs) (fun h => kf ((e_eq32 hx1 hy1).mp h) p l e s m args below meth c D ad0 t0 ad H locs lsJ hC hE hI hL hls hs)
theorem e_if_lt {off : Int} {tgt : Nat} (hdg : decode Y.2.1 pc = .ok (.ifCond .lt off, 3)) (ht : (pc : Int) + off = (tgt : Int)) (kt : x < 0 → e_T sh Y rm tgt ls st g cs Q) (kf : 0 ≤ x → e_T sh Y rm (pc + 3) ls st g cs Q) : e_T sh Y rm pc ls (.inl x :: st) g cs Q := by
  intro p l e s m args below meth c D ad0 t0 ad H locs lsJ hC hE hI hL hls hst
  have hy1 : e_i32 0 := e_z32
  have hx1 : e_i32 x := (e_ok_pop hst).1
  have hs := (e_ok_pop hst).2
  exact lv_if_lt hC.1 hC.2.1 hdg ht (fun h => kt ((e_lt32 hx1 hy1).mp h) p l e s m args below meth c D ad0 t0 ad H locs lsJ hC hE hI hL hls hs) (fun h => kf (Int.not_lt.mp (fun z => h ((e_lt32 hx1 hy1).mpr z))) p l e s m args below meth c D ad0 t0 ad H locs lsJ hC hE hI hL hls hs)
theorem e_icmp_lt {off : Int} {tgt : Nat} (hdg : decode Y.2.1 pc = .ok (.if_icmp .lt off, 3)) (ht : (pc : Int) + off = (tgt : Int)) (kt : x < y → e_T sh Y rm tgt ls st g cs Q) (kf : y ≤ x → e_T sh Y rm (pc + 3) ls st g cs Q) : e_T sh Y rm pc ls (.inl y :: .inl x :: st) g cs Q := by
  intro p l e s m args below meth c D ad0 t0 ad H locs lsJ hC hE hI hL hls hst
  have hy1 : e_i32 y := (e_ok_pop hst).1
  have hx1 : e_i32 x := (e_ok_pop (e_ok_pop hst).2).1
  have hs := (e_ok_pop (e_ok_pop hst).2).2
  exact lv_icmp_lt hC.1 hC.2.1 hdg ht (fun h => kt ((e_lt32 hx1 hy1).mp h) p l e s m args below meth c D ad0 t0 ad H locs lsJ hC hE hI hL hls hs) (fun h => kf (Int.not_lt.mp (fun z => h ((e_lt32 hx1 hy1).mpr z))) p l e s m args below meth c D ad0 t0 ad H locs lsJ hC hE hI hL hls hs)
theorem e_if_ge {off : Int} {tgt : Nat} (hdg : decode Y.2.1 pc = .ok (.ifCond .ge off, 3)) (ht : (pc : Int) + off = (tgt : Int)) (kt : 0 ≤ x → e_T sh Y rm tgt ls st g cs Q) (kf : x < 0 → e_T sh Y rm (pc + 3) ls st g cs Q) : e_T sh Y rm pc ls (.inl x :: st) g cs Q := by
  intro p l e s m args below meth c D ad0 t0 ad H locs lsJ hC hE hI hL hls hst
  have hy1 : e_i32 0 := e_z32
  have hx1 : e_i32 x := (e_ok_pop hst).1
  have hs := (e_ok_pop hst).2
  exact lv_if_ge hC.1 hC.2.1 hdg ht (fun h => kt ((e_le32 hy1 hx1).mp h) p l e s m args below meth c D ad0 t0 ad H locs lsJ hC hE hI hL hls hs) (fun h => kf (Int.not_le.mp (fun z => h ((e_le32 hy1 hx1).mpr z))) p l e s m args below meth c D ad0 t0 ad H locs lsJ hC hE hI hL hls hs)
theorem e_icmp_ge {off : Int} {tgt : Nat} (hdg : decode Y.2.1 pc = .ok (.if_icmp .ge off, 3)) (ht : (pc : Int) + off = (tgt : Int)) (kt : y ≤ x → e_T sh Y rm tgt ls st g cs Q) (kf : x < y → e_T sh Y rm (pc + 3) ls st g cs Q) : e_T sh Y rm pc ls (.inl y :: .inl x :: st) g cs Q := by
  intro p l e s m args below meth c D ad0 t0 ad H locs lsJ hC hE hI hL hls hst
  have hy1 : e_i32 y := (e_ok_pop hst).1
  have hx1 : e_i32 x := (e_ok_pop (e_ok_pop hst).2).1
  have hs := (e_ok_pop (e_ok_pop hst).2).2
  exact lv_icmp_ge hC.1 hC.2.1 hdg ht (fun h => kt ((e_le32 hy1 hx1).mp h) p l e s m args below meth c D ad0 t0 ad H locs lsJ hC hE hI hL hls hs) (fun h => kf (Int.not_le.mp (fun z => h ((e_le32 hy1 hx1).mpr z))) p l e s m args below meth c D ad0 t0 ad H locs lsJ hC hE hI hL hls hs)
theorem e_if_gt {off : Int} {tgt : Nat} (hdg : decode Y.2.1 pc = .ok (.ifCond .gt off, 3)) (ht : (pc : Int) + off = (tgt : Int)) (kt : 0 < x → e_T sh Y rm tgt ls st g cs Q) (kf : x ≤ 0 → e_T sh Y rm (pc + 3) ls st g cs Q) : e_T sh Y rm pc ls (.inl x :: st) g cs Q := by
  intro p l e s m args below meth c D ad0 t0 ad H locs lsJ hC hE hI hL hls hst
  have hy1 : e_i32 0 := e_z32
  have hx1 : e_i32 x := (e_ok_pop hst).1
  have hs := (e_ok_pop hst).2
  exact lv_if_gt hC.1 hC.2.1 hdg ht (fun h => kt ((e_lt32 hy1 hx1).mp h) p l e s m args below meth c D ad0 t0 ad H locs lsJ hC hE hI hL hls hs) (fun h => kf (Int.not_lt.mp (fun z => h ((e_lt32 hy1 hx1).mpr z))) p l e s m args below meth c D ad0 t0 ad H locs lsJ hC hE hI hL hls hs)
theorem e_icmp_gt {off : Int} {tgt : Nat} (hdg : decode Y.2.1 pc = .ok (.if_icmp .gt off, 3)) (ht : (pc : Int) + off = (tgt : Int)) (kt : y < x → e_T sh Y rm tgt ls st g cs Q) (kf : x ≤ y → e_T sh Y rm (pc + 3) ls st g cs Q) : e_T sh Y rm pc ls (.inl y :: .inl x :: st) g cs Q := by
  intro p l e s m args below meth c D ad0 t0 ad H locs lsJ hC hE hI hL hls hst
  have hy1 : e_i32 y := (e_ok_pop hst).1
  have hx1 : e_i32 x := (e_ok_pop (e_ok_pop hst).2).1
  have hs := (e_ok_pop (e_ok_pop hst).2).2
  exact lv_icmp_gt hC.1 hC.2.1 hdg ht (fun h => kt ((e_lt32 hy1 hx1).mp h) p l e s m args below meth c D ad0 t0 ad H locs lsJ hC hE hI hL hls hs) (fun h => kf (Int.not_lt.mp (fun z => h ((e_lt32 hy1 hx1).mpr z))) p l e s m args below meth c D ad0 t0 ad H locs lsJ hC hE hI hL hls hs)
theorem e_if_le {off : Int} {tgt : Nat} (hdg : decode Y.2.1 pc = .ok (.ifCond .le off, 3)) (ht : (pc : Int) + off = (tgt : Int)) (kt : x ≤ 0 → e_T sh Y rm tgt ls st g cs Q) (kf : 0 < x → e_T sh Y rm (pc + 3) ls st g cs Q) : e_T sh Y rm pc ls (.inl x :: st) g cs Q := by
  intro p l e s m args below meth c D ad0 t0 ad H locs lsJ hC hE hI hL hls hst
  have hy1 : e_i32 0 := e_z32
  have hx1 : e_i32 x := (e_ok_pop hst).1
  have hs := (e_ok_pop hst).2
  exact lv_if_le hC.1 hC.2.1 hdg ht (fun h => kt ((e_le32 hx1 hy1).mp h) p l e s m args below meth c D ad0 t0 ad H locs lsJ hC hE hI hL hls hs) (fun h => kf (Int.not_le.mp (fun z => h ((e_le32 hx1 hy1).mpr z))) p l e s m args below meth c D ad0 t0 ad H locs lsJ hC hE hI hL hls hs)
theorem e_icmp_le {off : Int} {tgt : Nat} (hdg : decode Y.2.1 pc = .ok (.if_icmp .le off, 3)) (ht : (pc : Int) + off = (tgt : Int)) (kt : x ≤ y → e_T sh Y rm tgt ls st g cs Q) (kf : y < x → e_T sh Y rm (pc + 3) ls st g cs Q) : e_T sh Y rm pc ls (.inl y :: .inl x :: st) g cs Q := by
  intro p l e s m args below meth c D ad0 t0 ad H locs lsJ hC hE hI hL hls hst
  have hy1 : e_i32 y := (e_ok_pop hst).1
  have hx1 : e_i32 x := (e_ok_pop (e_ok_pop hst).2).1
  have hs := (e_ok_pop (e_ok_pop hst).2).2
  exact lv_icmp_le hC.1 hC.2.1 hdg ht (fun h => kt ((e_le32 hx1 hy1).mp h) p l e s m args below meth c D ad0 t0 ad H locs lsJ hC hE hI hL hls hs) (fun h => kf (Int.not_le.mp (fun z => h ((e_le32 hx1 hy1).mpr z))) p l e s m args below meth c D ad0 t0 ad H locs lsJ hC hE hI hL hls hs)
theorem e_lif_eq {off : Int} {tgt : Nat} (hd1 : decode Y.2.1 pc = .ok (.lcmp, 1)) (hdg : decode Y.2.1 (pc + 1) = .ok (.ifCond .eq off, 3)) (ht : ((pc + 1 : Nat) : Int) + off = (tgt : Int)) (kt : x = y → e_T sh Y rm tgt ls st g cs Q) (kf : ¬ x = y → e_T sh Y rm (pc + 4) ls st g cs Q) : e_T sh Y rm pc ls (.inr (.inl y) :: .inr (.inl x) :: st) g cs Q :=
  e_lcmp_ hd1 (e_if_eq hdg ht (fun h => kt (e_cmp_eq.mp h)) (fun h => kf (fun z => h (e_cmp_eq.mpr z))))
theorem e_lif_ne {off : Int} {tgt : Nat} (hd1 : decode Y.2.1 pc = .ok (.lcmp, 1)) (hdg : decode Y.2.1 (pc + 1) = .ok (.ifCond .ne off, 3)) (ht : ((pc + 1 : Nat) : Int) + off = (tgt : Int)) (kt : ¬ x = y → e_T sh Y rm tgt ls st g cs Q) (kf : x = y → e_T sh Y rm (pc + 4) ls st g cs Q) : e_T sh Y rm pc ls (.inr (.inl y) :: .inr (.inl x) :: st) g cs Q :=
  e_lcmp_ hd1 (e_if_ne hdg ht (fun h => kt (fun z => h (e_cmp_eq.mpr z))) (fun h => kf (e_cmp_eq.mp h)))
theorem e_lif_lt {off : Int} {tgt : Nat} (hd1 : decode Y.2.1 pc = .ok (.lcmp, 1)) (hdg : decode Y.2.1 (pc + 1) = .ok (.ifCond .lt off, 3)) (ht : ((pc + 1 : Nat) : Int) + off = (tgt : Int)) (kt : x < y → e_T sh Y rm tgt ls st g cs Q) (kf : y ≤ x → e_T sh Y rm (pc + 4) ls st g cs Q) : e_T sh Y rm pc ls (.inr (.inl y) :: .inr (.inl x) :: st) g cs Q :=
  e_lcmp_ hd1 (e_if_lt hdg ht (fun h => kt (e_cmp_lt.mp h)) (fun h => kf (Int.not_lt.mp (fun z => by have := e_cmp_lt.mpr z; omega))))
theorem e_lif_ge {off : Int} {tgt : Nat} (hd1 : decode Y.2.1 pc = .ok (.lcmp, 1)) (hdg : decode Y.2.1 (pc + 1) = .ok (.ifCond .ge off, 3)) (ht : ((pc + 1 : Nat) : Int) + off = (tgt : Int)) (kt : y ≤ x → e_T sh Y rm tgt ls st g cs Q) (kf : x < y → e_T sh Y rm (pc + 4) ls st g cs Q) : e_T sh Y rm pc ls (.inr (.inl y) :: .inr (.inl x) :: st) g cs Q :=
  e_lcmp_ hd1 (e_if_ge hdg ht (fun h => kt (Int.not_lt.mp (fun z => by have := e_cmp_lt.mpr z; omega))) (fun h => kf (e_cmp_lt.mp h)))
theorem e_lif_gt {off : Int} {tgt : Nat} (hd1 : decode Y.2.1 pc = .ok (.lcmp, 1)) (hdg : decode Y.2.1 (pc + 1) = .ok (.ifCond .gt off, 3)) (ht : ((pc + 1 : Nat) : Int) + off = (tgt : Int)) (kt : y < x → e_T sh Y rm tgt ls st g cs Q) (kf : x ≤ y → e_T sh Y rm (pc + 4) ls st g cs Q) : e_T sh Y rm pc ls (.inr (.inl y) :: .inr (.inl x) :: st) g cs Q :=
  e_lcmp_ hd1 (e_if_gt hdg ht (fun h => kt (Int.not_le.mp (fun z => by have := e_cmp_le.mpr z; omega))) (fun h => kf (e_cmp_le.mp h)))
theorem e_lif_le {off : Int} {tgt : Nat} (hd1 : decode Y.2.1 pc = .ok (.lcmp, 1)) (hdg : decode Y.2.1 (pc + 1) = .ok (.ifCond .le off, 3)) (ht : ((pc + 1 : Nat) : Int) + off = (tgt : Int)) (kt : x ≤ y → e_T sh Y rm tgt ls st g cs Q) (kf : y < x → e_T sh Y rm (pc + 4) ls st g cs Q) : e_T sh Y rm pc ls (.inr (.inl y) :: .inr (.inl x) :: st) g cs Q :=
  e_lcmp_ hd1 (e_if_le hdg ht (fun h => kt (e_cmp_le.mp h)) (fun h => kf (Int.not_le.mp (fun z => by have := e_cmp_le.mpr z; omega))))
/-- a switch: where the number is one of the list, its place; else d -/
def e_sw (P : Nat → Prop) (d : Nat) (x : Int) : List (Int × Nat) → Prop
  | [] => P d
  | (k, t) :: r => (x = k → P t) ∧ (¬ x = k → e_sw P d x r)
def e_tab (pc : Nat) (lo : Int) : List Int → List (Int × Nat)
  | [] => []
  | o :: r => (lo, ((pc : Int) + o).toNat) :: e_tab pc (lo + 1) r
def e_lkp (pc : Nat) : List (Int × Int) → List (Int × Nat)
  | [] => []
  | (k, o) :: r => (k, ((pc : Int) + o).toNat) :: e_lkp pc r
theorem e_sw_in {P : Nat → Prop} {d pc : Nat} : ∀ (offs : List Int) (lo : Int) (j : Nat) (o : Int), offs[j]? = some o → e_sw P d (lo + j) (e_tab pc lo offs) → P ((pc : Int) + o).toNat
  | [], _, _, _, h, _ => by simp at h
  | a :: r, lo, 0, o, h, hs => by
    have : a = o := by simpa using h
    subst this
    exact hs.1 (by omega)
  | a :: r, lo, j + 1, o, h, hs => by
    have h2 : r[j]? = some o := by simpa using h
    refine e_sw_in (d := d) r (lo + 1) j o h2 ?_
    have := hs.2 (by omega)
    rwa [show lo + ((j + 1 : Nat) : Int) = lo + 1 + (j : Int) by omega] at this
theorem e_sw_out {P : Nat → Prop} {d pc : Nat} {x : Int} : ∀ (offs : List Int) (lo : Int), (x < lo ∨ lo + offs.length ≤ x) → e_sw P d x (e_tab pc lo offs) → P d
  | [], _, _, hs => hs
  | a :: r, lo, h, hs => by
    refine e_sw_out r (lo + 1) ?_ (hs.2 ?_)
    · rcases h with h | h
      · exact Or.inl (by omega)
      · right; simp only [List.length_cons] at h; omega
    · rcases h with h | h
      · omega
      · simp only [List.length_cons] at h; omega
theorem e_tsw {dflt lo hi : Int} {offs : Array Int} {len d : Nat} {l : List (Int × Nat)} (hdg : decode Y.2.1 pc = .ok (.tableswitch dflt lo hi offs, len)) (hd : (pc : Int) + dflt = (d : Int)) (hn : lo + offs.toList.length = hi + 1) (hz : ∀ o ∈ offs.toList, 0 ≤ (pc : Int) + o) (hl : e_tab pc lo offs.toList = l)
    (k : e_sw (fun t => e_T sh Y rm t ls st g cs Q) d x l) : e_T sh Y rm pc ls (.inl x :: st) g cs Q := by
  intro p l1 e s m args below meth c D ad0 t0 ad H locs lsJ hC hE hI hL hls hst
  have hx1 : e_i32 x := (e_ok_pop hst).1
  have hs := (e_ok_pop hst).2
  subst hl
  have ht := e_t32 hx1
  by_cases h1 : x < lo
  · exact lv_tableOut hC.1 hC.2.1 hdg (Or.inl (by rw [ht]; exact h1)) hd (e_sw_out _ _ (Or.inl h1) k p l1 e s m args below meth c D ad0 t0 ad H locs lsJ hC hE hI hL hls hs)
  · by_cases h2 : hi < x
    · exact lv_tableOut hC.1 hC.2.1 hdg (Or.inr (by rw [ht]; exact h2)) hd (e_sw_out _ _ (Or.inr (by omega)) k p l1 e s m args below meth c D ad0 t0 ad H locs lsJ hC hE hI hL hls hs)
    · have hj : (x - lo).toNat < offs.toList.length := by omega
      obtain ⟨o, ho⟩ : ∃ o, offs.toList[(x - lo).toNat]? = some o := ⟨_, List.getElem?_eq_getElem hj⟩
      have hx2 : x = lo + ((x - lo).toNat : Int) := by omega
      have h3 := e_sw_in (P := fun t => e_T sh Y rm t ls st g cs Q) (d := d) (pc := pc) offs.toList lo (x - lo).toNat o ho (by rw [← hx2]; exact k)
      have ho2 : offs[(x - lo).toNat]? = some o := by rw [← ho, Array.getElem?_toList]
      exact lv_tableIn hC.1 hC.2.1 hdg (by rw [ht]; exact h1) (by rw [ht]; exact h2) (by rw [ht]; exact ho2) (by have := hz o (List.mem_of_getElem? ho); omega) (h3 p l1 e s m args below meth c D ad0 t0 ad H locs lsJ hC hE hI hL hls hs)
theorem e_sw_lk {P : Nat → Prop} {d pc : Nat} {x dflt : Int} (hd : (pc : Int) + dflt = (d : Int)) : ∀ (ps : List (Int × Int)), (∀ q ∈ ps, 0 ≤ (pc : Int) + q.2) → e_sw P d x (e_lkp pc ps) → ∃ t : Nat, (pc : Int) + Op.lookupswitch.offset ps dflt x = (t : Int) ∧ P t
  | [], _, hs => ⟨d, hd, hs⟩
  | (a, o) :: r, hz, hs => by
    rw [Op.lookupswitch.offset_cons]
    by_cases h : a = x
    · rw [if_pos h]
      refine ⟨((pc : Int) + o).toNat, ?_, hs.1 h.symm⟩
      have := hz (a, o) List.mem_cons_self
      dsimp only at this
      omega
    · rw [if_neg h]
      exact e_sw_lk hd r (fun q hq => hz q (List.mem_cons_of_mem _ hq)) (hs.2 (fun z => h z.symm))
theorem e_lsw {dflt : Int} {ps : Array (Int × Int)} {len d : Nat} {l : List (Int × Nat)} (hdg : decode Y.2.1 pc = .ok (.lookupswitch dflt ps, len)) (hp : (ps.toList.zip (ps.toList.drop 1)).all (fun (a, next) => a.1 < next.1) = true) (hd : (pc : Int) + dflt = (d : Int)) (hz : ∀ q ∈ ps.toList, 0 ≤ (pc : Int) + q.2) (hl : e_lkp pc ps.toList = l)
    (k : e_sw (fun t => e_T sh Y rm t ls st g cs Q) d x l) : e_T sh Y rm pc ls (.inl x :: st) g cs Q := by
  intro p l1 e s m args below meth c D ad0 t0 ad H locs lsJ hC hE hI hL hls hst
  have hx1 : e_i32 x := (e_ok_pop hst).1
  have hs := (e_ok_pop hst).2
  subst hl
  obtain ⟨t, h1, h2⟩ := e_sw_lk hd ps.toList hz k
  exact lv_lookup hC.1 hC.2.1 hdg hp rfl (by rw [e_t32 hx1]; exact h1) (h2 p l1 e s m args below meth c D ad0 t0 ad H locs lsJ hC hE hI hL hls hs)
end ARITH
