/-! common divisors -/
def s_gcd (a b : Int) : Int := if Int.gcd a b = 0 then 1 else (Int.gcd a b : Int)
theorem s_gcd_pos {a b : Int} : 0 < s_gcd a b := by
  unfold s_gcd
  split
  · decide
  · omega
theorem s_tmod_nn {a b : Int} (ha : 0 ≤ a) : a.tmod b = a % b := by
  rw [Int.tmod_eq_emod_of_nonneg ha]
theorem s_gcd_step {a b : Int} (ha : 0 ≤ a) : Int.gcd b (a.tmod b) = Int.gcd a b := by
  rw [s_tmod_nn ha, Int.gcd_comm a b]
  have : Int.gcd b (a % b) = Int.gcd b a := by
    rw [Int.emod_def, show a - b * (a / b) = a + b * (-(a / b)) by rw [Int.mul_neg]; omega]
    exact Int.gcd_add_mul_left_right b a (-(a / b))
  exact this
theorem s_half {a b : Int} (hb : 0 < b) (hab : b ≤ a) : 2 * (a % b) ≤ a := by
  have h1 := Int.emod_lt_of_pos a hb
  have h2 := Int.mul_ediv_add_emod a b
  have h3 : 1 ≤ a / b := by
    have := Int.ediv_le_ediv hb hab
    rw [Int.ediv_self (by omega)] at this
    exact this
  have h4 : b ≤ b * (a / b) := by
    have := Int.mul_le_mul_of_nonneg_left h3 (show 0 ≤ b by omega)
    omega
  omega
theorem c_gcd {M : e_M} {a b : Int} {Q : Int → Prop} (ha : 0 ≤ a) (hb : 0 ≤ b) (ha2 : a < 9223372036854775808) (hb2 : b < 9223372036854775808) (hq : Q (s_gcd a b)) : WX11_commonDivisor a b M Q := by
  have fin : ∀ x : Int, 0 ≤ x → Int.gcd x 0 = Int.gcd a b → WX11_commonDivisor_33 M Q x := by
    intro x hx he
    rw [Int.gcd_zero_right] at he
    unfold s_gcd at hq
    refine ⟨fun h => ?_, fun h => ?_⟩
    · rw [← he, if_neg (by omega), Int.natAbs_of_nonneg hx] at hq; exact hq
    · rw [← he, if_pos (by omega)] at hq; exact hq
  have key : ∀ (d : Nat) (x y i : Int), 0 ≤ y → y ≤ x → x * y < 2 ^ d → 0 ≤ i → i + d + 1 ≤ 200 → Int.gcd x y = Int.gcd a b → WX11_commonDivisor_3 M Q (d + 1) x y i := by
    intro d
    induction d with
    | zero =>
      intro x y i h1 h2 h3 h4 h5 h6
      have hy : y = 0 := by
        by_cases e : y = 0
        · exact e
        · have : 1 * 1 ≤ x * y := Int.mul_le_mul (by omega) (by omega) (by omega) (by omega)
          omega
      subst hy
      exact ⟨fun h => by omega, fun _ => ⟨fun _ => fin x (by omega) h6, fun h => absurd rfl h⟩⟩
    | succ d ih =>
      intro x y i h1 h2 h3 h4 h5 h6
      refine ⟨fun h => by omega, fun _ => ⟨fun e => by subst e; exact fin x (by omega) h6, fun e => ⟨e, ?_⟩⟩⟩
      rw [s_w (by omega) (by omega)]
      have hr := s_half (a := x) (b := y) (by omega) h2
      have hr0 := Int.emod_nonneg x e
      have hr1 := Int.emod_lt_of_pos x (show 0 < y by omega)
      have ht := s_tmod_nn (b := y) (show 0 ≤ x by omega)
      refine ih y (x.tmod y) (i + 1) (by omega) (by omega) ?_ (by omega) (by omega) (by rw [s_gcd_step (by omega)]; exact h6)
      rw [ht]
      have k1 : y * (2 * (x % y)) ≤ y * x := Int.mul_le_mul_of_nonneg_left hr (by omega)
      rw [Int.mul_comm y x, Int.mul_left_comm] at k1
      have k2 : (2 : Int) ^ (d + 1) = 2 * 2 ^ d := by rw [Int.pow_succ]; omega
      omega
  refine ⟨129, fun h => by omega, fun _ => ⟨fun e => by subst e; exact fin a ha rfl, fun e => ⟨e, ?_⟩⟩⟩
  rw [s_w (by omega) (by omega)]
  have hr0 := Int.emod_nonneg a e
  have hr1 := Int.emod_lt_of_pos a (show 0 < b by omega)
  have ht := s_tmod_nn (b := b) ha
  refine key 127 b (a.tmod b) (0 + 1) (by omega) (by omega) ?_ (by omega) (by omega) (s_gcd_step ha)
  rw [ht]
  have k1 : b * (a % b) ≤ b * 9223372036854775808 := Int.mul_le_mul_of_nonneg_left (by omega) hb
  have k2 : (2 : Int) ^ 127 = 170141183460469231731687303715884105728 := by decide
  omega
/-- whatever the numbers are: it ends, and the answer is not 0 -/
theorem c_gcd_any {M : e_M} {a b : Int} {Q : Int → Prop} (hq : ∀ g, g ≠ 0 → Q g) : WX11_commonDivisor a b M Q := by
  have fin : ∀ x : Int, WX11_commonDivisor_33 M Q x := fun x => ⟨fun h => hq x h, fun _ => hq 1 (by decide)⟩
  have key : ∀ (d : Nat) (x y i : Int), 0 ≤ i → i + d = 200 → WX11_commonDivisor_3 M Q (d + 1) x y i := by
    intro d
    induction d with
    | zero => intro x y i h1 h2; exact ⟨fun _ => fin x, fun h => by omega⟩
    | succ d ih =>
      intro x y i h1 h2
      refine ⟨fun h => by omega, fun _ => ⟨fun _ => fin x, fun e => ⟨e, ?_⟩⟩⟩
      rw [s_w (by omega) (by omega)]
      exact ih y _ (i + 1) (by omega) (by omega)
  exact ⟨201, key 200 a b 0 (by omega) (by omega)⟩
