/-! the machine's numbers as Int -/
def e_w32 (x : Int) : Int := x.bmod 4294967296
def e_w64 (x : Int) : Int := x.bmod 18446744073709551616
def e_w8 (x : Int) : Int := x.bmod 256
theorem e_w32_rng (x : Int) : e_i32 (e_w32 x) := by
  have h1 := Int.le_bmod (x := x) (m := 4294967296) (by decide)
  have h2 := Int.bmod_lt (x := x) (m := 4294967296) (by decide)
  exact ⟨by unfold e_w32; omega, by unfold e_w32; omega⟩
theorem e_w64_rng (x : Int) : e_i64 (e_w64 x) := by
  have h1 := Int.le_bmod (x := x) (m := 18446744073709551616) (by decide)
  have h2 := Int.bmod_lt (x := x) (m := 18446744073709551616) (by decide)
  exact ⟨by unfold e_w64; omega, by unfold e_w64; omega⟩
theorem e_w8_rng (x : Int) : -128 ≤ e_w8 x ∧ e_w8 x < 128 := by
  have h1 := Int.le_bmod (x := x) (m := 256) (by decide)
  have h2 := Int.bmod_lt (x := x) (m := 256) (by decide)
  exact ⟨by unfold e_w8; omega, by unfold e_w8; omega⟩
theorem e_w32_id {x : Int} (h : e_i32 x) : e_w32 x = x := Int.bmod_eq_of_le (by have := h.1; omega) (by have := h.2; omega)
theorem e_w64_id {x : Int} (h : e_i64 x) : e_w64 x = x := Int.bmod_eq_of_le (by have := h.1; omega) (by have := h.2; omega)
theorem e_w8_id {x : Int} (h : -128 ≤ x ∧ x < 128) : e_w8 x = x := Int.bmod_eq_of_le (by have := h.1; omega) (by have := h.2; omega)
theorem e_t32 {x : Int} (h : e_i32 x) : (Int32.ofInt x).toInt = x := Int32.toInt_ofInt_of_le h.1 h.2
theorem e_t64 {x : Int} (h : e_i64 x) : (Int64.ofInt x).toInt = x := Int64.toInt_ofInt_of_le h.1 h.2
theorem e_o32 (x : Int32) : ∃ y : Int, e_i32 y ∧ x = Int32.ofInt y := ⟨x.toInt, ⟨x.le_toInt, x.toInt_lt⟩, (Int32.ofInt_toInt x).symm⟩
theorem e_of32 {x : Int} {z : Int32} (h : z.toInt = e_w32 x) : z = Int32.ofInt (e_w32 x) := by rw [← h, Int32.ofInt_toInt]
theorem e_of64 {x : Int} {z : Int64} (h : z.toInt = e_w64 x) : z = Int64.ofInt (e_w64 x) := by rw [← h, Int64.ofInt_toInt]
section NUM
variable {x y : Int}
theorem e_add32 (hx : e_i32 x) (hy : e_i32 y) : Int32.ofInt x + Int32.ofInt y = Int32.ofInt (e_w32 (x + y)) := e_of32 (by rw [Int32.toInt_add, e_t32 hx, e_t32 hy]; rfl)
theorem e_sub32 (hx : e_i32 x) (hy : e_i32 y) : Int32.ofInt x - Int32.ofInt y = Int32.ofInt (e_w32 (x - y)) := e_of32 (by rw [Int32.toInt_sub, e_t32 hx, e_t32 hy]; rfl)
theorem e_mul32 (hx : e_i32 x) (hy : e_i32 y) : Int32.ofInt x * Int32.ofInt y = Int32.ofInt (e_w32 (x * y)) := e_of32 (by rw [Int32.toInt_mul, e_t32 hx, e_t32 hy]; rfl)
theorem e_div32 (hx : e_i32 x) (hy : e_i32 y) : Int32.ofInt x / Int32.ofInt y = Int32.ofInt (e_w32 (x.tdiv y)) := e_of32 (by rw [Int32.toInt_div, e_t32 hx, e_t32 hy]; rfl)
theorem e_neg32 (hx : e_i32 x) : -Int32.ofInt x = Int32.ofInt (e_w32 (-x)) := e_of32 (by rw [Int32.toInt_neg, e_t32 hx]; rfl)
theorem e_add64 (hx : e_i64 x) (hy : e_i64 y) : Int64.ofInt x + Int64.ofInt y = Int64.ofInt (e_w64 (x + y)) := e_of64 (by rw [Int64.toInt_add, e_t64 hx, e_t64 hy]; rfl)
theorem e_sub64 (hx : e_i64 x) (hy : e_i64 y) : Int64.ofInt x - Int64.ofInt y = Int64.ofInt (e_w64 (x - y)) := e_of64 (by rw [Int64.toInt_sub, e_t64 hx, e_t64 hy]; rfl)
theorem e_mul64 (hx : e_i64 x) (hy : e_i64 y) : Int64.ofInt x * Int64.ofInt y = Int64.ofInt (e_w64 (x * y)) := e_of64 (by rw [Int64.toInt_mul, e_t64 hx, e_t64 hy]; rfl)
theorem e_div64 (hx : e_i64 x) (hy : e_i64 y) : Int64.ofInt x / Int64.ofInt y = Int64.ofInt (e_w64 (x.tdiv y)) := e_of64 (by rw [Int64.toInt_div, e_t64 hx, e_t64 hy]; rfl)
theorem e_neg64 (hx : e_i64 x) : -Int64.ofInt x = Int64.ofInt (e_w64 (-x)) := e_of64 (by rw [Int64.toInt_neg, e_t64 hx]; rfl)
theorem e_w32_sub_bmod (a b : Int) : e_w32 (a - e_w32 b) = e_w32 (a - b) := by unfold e_w32; rw [Int.sub_bmod_bmod]
theorem e_w64_sub_bmod (a b : Int) : e_w64 (a - e_w64 b) = e_w64 (a - b) := by unfold e_w64; rw [Int.sub_bmod_bmod]
theorem e_tmod_lt {m : Int} (hx : -m ≤ x ∧ x < m) : -m ≤ x.tmod y ∧ x.tmod y < m := by
  have h := Int.natAbs_tmod x y
  have h2 := Nat.mod_le x.natAbs y.natAbs
  have h3 : 0 ≤ x → 0 ≤ x.tmod y := fun h => Int.tmod_nonneg _ h
  have h4 : x < 0 → x.tmod y ≤ 0 := fun h => by
    have := Int.neg_tmod x y
    have h5 := Int.tmod_nonneg (a := -x) y (by omega)
    omega
  by_cases hx0 : 0 ≤ x
  · have := h3 hx0; omega
  · have := h4 (by omega); omega
theorem e_rem32 (hx : e_i32 x) (hy : e_i32 y) : Int32.ofInt x - Int32.ofInt x / Int32.ofInt y * Int32.ofInt y = Int32.ofInt (x.tmod y) := by
  have hm : e_i32 (x.tmod y) := e_tmod_lt (m := 2147483648) hx
  rw [e_div32 hx hy, e_mul32 (e_w32_rng _) hy, e_sub32 hx (e_w32_rng _), e_w32_sub_bmod]
  have h1 : e_w32 (x - e_w32 (x.tdiv y) * y) = e_w32 (x.tmod y) := by
    unfold e_w32
    rw [← Int.sub_bmod_bmod, Int.bmod_mul_bmod, Int.sub_bmod_bmod]
    congr 1
    have := Int.tdiv_mul_add_tmod x y
    omega
  rw [h1, e_w32_id hm]
theorem e_rem64 (hx : e_i64 x) (hy : e_i64 y) : Int64.ofInt x - Int64.ofInt x / Int64.ofInt y * Int64.ofInt y = Int64.ofInt (x.tmod y) := by
  have hm : e_i64 (x.tmod y) := e_tmod_lt (m := 9223372036854775808) hx
  rw [e_div64 hx hy, e_mul64 (e_w64_rng _) hy, e_sub64 hx (e_w64_rng _), e_w64_sub_bmod]
  have h1 : e_w64 (x - e_w64 (x.tdiv y) * y) = e_w64 (x.tmod y) := by
    unfold e_w64
    rw [← Int.sub_bmod_bmod, Int.bmod_mul_bmod, Int.sub_bmod_bmod]
    congr 1
    have := Int.tdiv_mul_add_tmod x y
    omega
  rw [h1, e_w64_id hm]
theorem e_lt32 (hx : e_i32 x) (hy : e_i32 y) : Int32.ofInt x < Int32.ofInt y ↔ x < y := by rw [Int32.lt_iff_toInt_lt, e_t32 hx, e_t32 hy]
theorem e_le32 (hx : e_i32 x) (hy : e_i32 y) : Int32.ofInt x ≤ Int32.ofInt y ↔ x ≤ y := by rw [Int32.le_iff_toInt_le, e_t32 hx, e_t32 hy]
theorem e_eq32 (hx : e_i32 x) (hy : e_i32 y) : Int32.ofInt x = Int32.ofInt y ↔ x = y := by rw [← Int32.toInt_inj, e_t32 hx, e_t32 hy]
theorem e_lt64 (hx : e_i64 x) (hy : e_i64 y) : Int64.ofInt x < Int64.ofInt y ↔ x < y := by rw [Int64.lt_iff_toInt_lt, e_t64 hx, e_t64 hy]
theorem e_le64 (hx : e_i64 x) (hy : e_i64 y) : Int64.ofInt x ≤ Int64.ofInt y ↔ x ≤ y := by rw [Int64.le_iff_toInt_le, e_t64 hx, e_t64 hy]
theorem e_eq64 (hx : e_i64 x) (hy : e_i64 y) : Int64.ofInt x = Int64.ofInt y ↔ x = y := by rw [← Int64.toInt_inj, e_t64 hx, e_t64 hy]
theorem e_z32 : e_i32 0 := ⟨by decide, by decide⟩
theorem e_0 : (0 : Int32) = Int32.ofInt 0 := rfl
theorem e_i2l (hx : e_i32 x) : (Int32.ofInt x).toInt64 = Int64.ofInt x := by
  apply Int64.toInt_inj.mp
  rw [Int32.toInt_toInt64, e_t32 hx, e_t64 ⟨by have := hx.1; omega, by have := hx.2; omega⟩]
theorem e_l2i : (Int64.ofInt x).toInt32 = Int32.ofInt (e_w32 x) := by
  rw [Int64.toInt32_ofInt]
  apply Int32.toInt_inj.mp
  rw [e_t32 (e_w32_rng x), Int32.toInt_ofInt]; rfl
theorem e_i2b : (Int32.ofInt x).toInt8.toInt32 = Int32.ofInt (e_w8 x) := by
  apply Int32.toInt_inj.mp
  have h := e_w8_rng x
  rw [e_t32 ⟨by omega, by omega⟩, Int8.toInt_toInt32, Int32.toInt8_ofInt, Int8.toInt_ofInt]; rfl
theorem e_ix (hx : e_i32 x) (h0 : 0 ≤ x) : (Int32.ofInt x).toNatClampNeg = x.toNat := by
  show (Int32.ofInt x).toInt.toNat = x.toNat
  rw [e_t32 hx]
theorem e_neg (hx : e_i32 x) : Int32.ofInt x < 0 ↔ x < 0 := by rw [e_0, e_lt32 hx e_z32]
/-- the long compare as a number -/
def e_cmp (x y : Int) : Int := if x < y then -1 else if x = y then 0 else 1
theorem e_cmp_rng : e_i32 (e_cmp x y) := by unfold e_cmp e_i32; split <;> (try split) <;> omega
theorem e_lcmp (hx : e_i64 x) (hy : e_i64 y) : lg_cmp (Int64.ofInt x) (Int64.ofInt y) = Int32.ofInt (e_cmp x y) := by
  unfold lg_cmp e_cmp
  have h1 : (Int64.ofInt x > Int64.ofInt y) ↔ y < x := e_lt64 hy hx
  have h2 := e_eq64 hx hy
  by_cases a : y < x
  · rw [if_pos (h1.mpr a), if_neg (by omega), if_neg (by omega)]; rfl
  · rw [if_neg (fun z => a (h1.mp z))]
    by_cases b : x = y
    · rw [if_pos (h2.mpr b), if_neg (by omega), if_pos b]; rfl
    · rw [if_neg (fun z => b (h2.mp z)), if_pos (by omega)]; rfl
theorem e_cmp_lt : e_cmp x y < 0 ↔ x < y := by unfold e_cmp; split <;> (try split) <;> omega
theorem e_cmp_le : e_cmp x y ≤ 0 ↔ x ≤ y := by unfold e_cmp; split <;> (try split) <;> omega
theorem e_cmp_eq : e_cmp x y = 0 ↔ x = y := by unfold e_cmp; split <;> (try split) <;> omega
end NUM
