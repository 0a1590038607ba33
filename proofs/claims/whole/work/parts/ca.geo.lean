/-! geometry: ways round a point -/
def gt_U (px py qx qy zx zy : Int) : Int := if py ≤ qy then (if (py < zy ∧ zy ≤ qy) ∧ g_turn px py qx qy zx zy < 0 then 1 else 0) else (if (qy < zy ∧ zy ≤ py) ∧ g_turn qx qy px py zx zy < 0 then -1 else 0)
theorem gt_sp (x y : Int) : (0 < x → 0 < y → 0 < x * y) ∧ (0 < x → y < 0 → x * y < 0) ∧ (x < 0 → 0 < y → x * y < 0) ∧ (x < 0 → y < 0 → 0 < x * y) ∧ (x = 0 → x * y = 0) ∧ (y = 0 → x * y = 0) := ⟨fun a b => Int.mul_pos a b, fun a b => Int.mul_neg_of_pos_of_neg a b, fun a b => Int.mul_neg_of_neg_of_pos a b, fun a b => Int.mul_pos_of_neg_of_neg a b, fun a => by rw [a, Int.zero_mul], fun a => by rw [a, Int.mul_zero]⟩
theorem gt_phi (zx zy bx b : Int) : g_cs zx zy 0 0 bx b - gt_U zx zy 0 0 bx b = if 0 ≤ zy then (if 0 < b ∧ 0 < bx * zy - b * zx then 1 else 0) else (if b ≤ 0 ∧ bx * zy - b * zx < 0 then -1 else 0) := by
  unfold g_cs gt_U g_turn
  have e1 : (bx - 0) * (zy - 0) - (b - 0) * (zx - 0) = bx * zy - b * zx := by grind
  have e2 : (0 - zx) * (b - zy) - (0 - zy) * (bx - zx) = bx * zy - b * zx := by grind
  have e3 : (zx - 0) * (b - 0) - (zy - 0) * (bx - 0) = -(bx * zy - b * zx) := by grind
  rw [e1, e2, e3]
  have h1 := gt_sp bx zy
  have h2 := gt_sp b zx
  generalize bx * zy = u at *
  generalize b * zx = v at *
  repeat' split
  all_goals omega
def gt_on (ax ay bx b px py : Int) : Prop := g_turn ax ay bx b px py = 0 ∧ ((ax ≤ px ∨ bx ≤ px) ∧ (px ≤ ax ∨ px ≤ bx)) ∧ (ay ≤ py ∨ b ≤ py) ∧ (py ≤ ay ∨ py ≤ b)
/-- two stretches have a point in common -/
def gt_mt (px py qx qy ax ay bx b : Int) : Prop := (g_turn px py qx qy ax ay * g_turn px py qx qy bx b < 0 ∧ g_turn ax ay bx b px py * g_turn ax ay bx b qx qy < 0) ∨ (gt_on px py qx qy ax ay ∨ gt_on px py qx qy bx b) ∨ (gt_on ax ay bx b px py ∨ gt_on ax ay bx b qx qy)
theorem gt_on_y {ax ay bx b px py : Int} (h : g_turn ax ay bx b px py = 0) (h1 : ay < b) (h2 : ay ≤ py ∧ py ≤ b) : gt_on ax ay bx b px py := by
  refine ⟨h, ?_, by omega, by omega⟩
  unfold g_turn at h
  have k : (b - ay) * (px - ax) = (bx - ax) * (py - ay) := by omega
  have d : 0 < b - ay := by omega
  have hp : (b - ay) * (bx - px) = (bx - ax) * (b - py) := by
    have : (b - ay) * (bx - px) = (b - ay) * (bx - ax) - (b - ay) * (px - ax) := by grind
    rw [this, k]; grind
  by_cases c : ax ≤ bx
  · have m1 := Int.mul_nonneg (show 0 ≤ bx - ax by omega) (show 0 ≤ py - ay by omega)
    have m2 := Int.mul_nonneg (show 0 ≤ bx - ax by omega) (show 0 ≤ b - py by omega)
    rw [← k] at m1
    rw [← hp] at m2
    have n1 := Int.nonneg_of_mul_nonneg_right m1 d
    have n2 := Int.nonneg_of_mul_nonneg_right m2 d
    omega
  · have m1 := Int.mul_nonneg (show 0 ≤ ax - bx by omega) (show 0 ≤ py - ay by omega)
    have m2 := Int.mul_nonneg (show 0 ≤ ax - bx by omega) (show 0 ≤ b - py by omega)
    have k1 : (ax - bx) * (py - ay) = (b - ay) * (ax - px) := by grind
    have k2 : (ax - bx) * (b - py) = (b - ay) * (px - bx) := by grind
    rw [k1] at m1
    rw [k2] at m2
    have n1 := Int.nonneg_of_mul_nonneg_right m1 d
    have n2 := Int.nonneg_of_mul_nonneg_right m2 d
    omega
theorem gt_Ti (P Q A B p q a b : Int) (e : Q - P = A - B) (id_ : Q * p - P * q = A * b - B * a) (hpq : p < q) (hab : a < b) (n1 : ¬ (A * B < 0 ∧ P * Q < 0)) (n2 : A = 0 → ¬ (p ≤ a ∧ a ≤ q)) (n3 : B = 0 → ¬ (p ≤ b ∧ b ≤ q)) (n4 : P = 0 → ¬ (a ≤ p ∧ p ≤ b)) (n5 : Q = 0 → ¬ (a ≤ q ∧ q ≤ b)) : (if (a ≤ p ∧ p < b) ∧ 0 < P then (1 : Int) else 0) - (if (a ≤ q ∧ q < b) ∧ 0 < Q then 1 else 0) = (if (p < b ∧ b ≤ q) ∧ B < 0 then 1 else 0) - (if (p < a ∧ a ≤ q) ∧ A < 0 then 1 else 0) := by
  have i1 : P * (q - p) = B * (a - p) - A * (b - p) := by grind
  have i2 : Q * (q - p) = B * (a - q) - A * (b - q) := by grind
  have i3 : A * (b - a) = Q * (p - a) - P * (q - a) := by grind
  have i4 : B * (b - a) = Q * (p - b) - P * (q - b) := by grind
  clear id_ e
  have pm : ∀ x y : Int, 0 < x → 0 < y → 0 < x * y := fun x y => Int.mul_pos
  have nm : ∀ x y : Int, x < 0 → 0 < y → x * y < 0 := fun x y => Int.mul_neg_of_neg_of_pos
  have s := gt_sp
  by_cases c1 : b ≤ p
  · rw [if_neg (by omega), if_neg (by omega), if_neg (by omega), if_neg (by omega)]
  by_cases c2 : q < a
  · rw [if_neg (by omega), if_neg (by omega), if_neg (by omega), if_neg (by omega)]
  by_cases c3 : a ≤ p
  · by_cases c4 : b ≤ q
    · have p0 : P ≠ 0 := fun z => n4 z (by omega)
      have b0 : B ≠ 0 := fun z => n3 z (by omega)
      have k : 0 < P ↔ B < 0 := by
        constructor
        · intro hP
          refine Int.lt_of_not_ge (fun hB => ?_)
          have hB : 0 < B := by omega
          have a1 := pm P (q - p) hP (by omega)
          have a2 := Int.mul_nonneg (show 0 ≤ B by omega) (show 0 ≤ p - a by omega)
          have a2' : B * (a - p) = -(B * (p - a)) := by grind
          have hA : A < 0 := by
            refine Int.lt_of_not_ge (fun hA => ?_)
            have := Int.mul_nonneg hA (show 0 ≤ b - p by omega)
            omega
          have hQ : Q < 0 := by
            refine Int.lt_of_not_ge (fun hQ => ?_)
            have b1 := Int.mul_nonneg hQ (show 0 ≤ q - p by omega)
            have b2 := pm B (q - a) hB (by omega)
            have b2' : B * (a - q) = -(B * (q - a)) := by grind
            have b3 := Int.mul_nonneg (show 0 ≤ -A by omega) (show 0 ≤ q - b by omega)
            have b3' : -A * (q - b) = A * (b - q) := by grind
            omega
          exact n1 ⟨(s A B).2.2.1 hA hB, (s P Q).2.1 hP hQ⟩
        · intro hB
          refine Int.lt_of_not_ge (fun hP => ?_)
          have hP : P < 0 := by omega
          have a1 := nm P (q - p) hP (by omega)
          have a2 := Int.mul_nonneg (show 0 ≤ -B by omega) (show 0 ≤ p - a by omega)
          have a2' : -B * (p - a) = B * (a - p) := by grind
          have hA : 0 < A := by
            refine Int.lt_of_not_ge (fun hA => ?_)
            have := Int.mul_nonneg (show 0 ≤ -A by omega) (show 0 ≤ b - p by omega)
            have t : -A * (b - p) = -(A * (b - p)) := by grind
            omega
          have hQ : 0 < Q := by
            refine Int.lt_of_not_ge (fun hQ => ?_)
            have b1 := Int.mul_nonneg (show 0 ≤ -Q by omega) (show 0 ≤ q - p by omega)
            have b1' : -Q * (q - p) = -(Q * (q - p)) := by grind
            have b2 := nm B (q - a) hB (by omega)
            have b2' : B * (a - q) = -(B * (q - a)) := by grind
            have b3 := Int.mul_nonneg (show 0 ≤ A by omega) (show 0 ≤ q - b by omega)
            have b3' : A * (q - b) = -(A * (b - q)) := by grind
            omega
          exact n1 ⟨(s A B).2.1 hA hB, (s P Q).2.2.1 hP hQ⟩
      rw [if_neg (show ¬ ((a ≤ q ∧ q < b) ∧ 0 < Q) by omega), if_neg (show ¬ ((p < a ∧ a ≤ q) ∧ A < 0) by omega)]
      by_cases d : 0 < P
      · rw [if_pos (by omega), if_pos (by omega)]
      · rw [if_neg (by omega), if_neg (by omega)]
    · have p0 : P ≠ 0 := fun z => n4 z (by omega)
      have q0 : Q ≠ 0 := fun z => n5 z (by omega)
      have k : 0 < P ↔ 0 < Q := by
        constructor
        · intro hP
          refine Int.lt_of_not_ge (fun hQ => ?_)
          have hQ : Q < 0 := by omega
          have hA : A < 0 := by
            refine Int.lt_of_not_ge (fun hA => ?_)
            have b1 := Int.mul_nonneg hA (show 0 ≤ b - a by omega)
            have b2 := pm P (q - a) hP (by omega)
            have b3 := Int.mul_nonneg (show 0 ≤ -Q by omega) (show 0 ≤ p - a by omega)
            have b3' : -Q * (p - a) = -(Q * (p - a)) := by grind
            omega
          have hB : 0 < B := by
            refine Int.lt_of_not_ge (fun hB => ?_)
            have b1 := Int.mul_nonneg (show 0 ≤ -B by omega) (show 0 ≤ b - a by omega)
            have b1' : -B * (b - a) = -(B * (b - a)) := by grind
            have b2 := pm P (b - q) hP (by omega)
            have b2' : P * (b - q) = -(P * (q - b)) := by grind
            have b3 := Int.mul_nonneg (show 0 ≤ -Q by omega) (show 0 ≤ b - p by omega)
            have b3' : -Q * (b - p) = Q * (p - b) := by grind
            omega
          exact n1 ⟨(s A B).2.2.1 hA hB, (s P Q).2.1 hP hQ⟩
        · intro hQ
          refine Int.lt_of_not_ge (fun hP => ?_)
          have hP : P < 0 := by omega
          have hA : 0 < A := by
            refine Int.lt_of_not_ge (fun hA => ?_)
            have b1 := Int.mul_nonneg (show 0 ≤ -A by omega) (show 0 ≤ b - a by omega)
            have b1' : -A * (b - a) = -(A * (b - a)) := by grind
            have b2 := nm P (q - a) hP (by omega)
            have b3 := Int.mul_nonneg (show 0 ≤ Q by omega) (show 0 ≤ p - a by omega)
            omega
          have hB : B < 0 := by
            refine Int.lt_of_not_ge (fun hB => ?_)
            have b1 := Int.mul_nonneg (show 0 ≤ B by omega) (show 0 ≤ b - a by omega)
            have b2 := nm P (b - q) hP (by omega)
            have b2' : P * (b - q) = -(P * (q - b)) := by grind
            have b3 := Int.mul_nonneg (show 0 ≤ Q by omega) (show 0 ≤ b - p by omega)
            have b3' : Q * (b - p) = -(Q * (p - b)) := by grind
            omega
          exact n1 ⟨(s A B).2.1 hA hB, (s P Q).2.2.1 hP hQ⟩
      rw [if_neg (show ¬ ((p < b ∧ b ≤ q) ∧ B < 0) by omega), if_neg (show ¬ ((p < a ∧ a ≤ q) ∧ A < 0) by omega)]
      by_cases d : 0 < P
      · rw [if_pos (by omega), if_pos (by omega)]; rfl
      · rw [if_neg (by omega), if_neg (by omega)]
  · by_cases c4 : b ≤ q
    · have a0 : A ≠ 0 := fun z => n2 z (by omega)
      have b0 : B ≠ 0 := fun z => n3 z (by omega)
      have k : A < 0 ↔ B < 0 := by
        constructor
        · intro hA
          refine Int.lt_of_not_ge (fun hB => ?_)
          have hB : 0 < B := by omega
          have b1 := pm B (a - p) hB (by omega)
          have b2 := nm A (b - p) hA (by omega)
          have hP : 0 < P := by
            refine Int.lt_of_not_ge (fun hP => ?_)
            have b3 := Int.mul_nonneg (show 0 ≤ -P by omega) (show 0 ≤ q - p by omega)
            have b3' : -P * (q - p) = -(P * (q - p)) := by grind
            omega
          have d1 := pm B (q - a) hB (by omega)
          have d1' : B * (q - a) = -(B * (a - q)) := by grind
          have d2 := Int.mul_nonneg (show 0 ≤ -A by omega) (show 0 ≤ q - b by omega)
          have d2' : -A * (q - b) = A * (b - q) := by grind
          have hQ : Q < 0 := by
            refine Int.lt_of_not_ge (fun hQ => ?_)
            have b3 := Int.mul_nonneg hQ (show 0 ≤ q - p by omega)
            omega
          exact n1 ⟨(s A B).2.2.1 hA hB, (s P Q).2.1 hP hQ⟩
        · intro hB
          refine Int.lt_of_not_ge (fun hA => ?_)
          have hA : 0 < A := by omega
          have b1 := nm B (a - p) hB (by omega)
          have b2 := pm A (b - p) hA (by omega)
          have hP : P < 0 := by
            refine Int.lt_of_not_ge (fun hP => ?_)
            have b3 := Int.mul_nonneg hP (show 0 ≤ q - p by omega)
            omega
          have d1 := nm B (q - a) hB (by omega)
          have d1' : B * (q - a) = -(B * (a - q)) := by grind
          have d2 := Int.mul_nonneg (show 0 ≤ A by omega) (show 0 ≤ q - b by omega)
          have d2' : A * (q - b) = -(A * (b - q)) := by grind
          have hQ : 0 < Q := by
            refine Int.lt_of_not_ge (fun hQ => ?_)
            have b3 := Int.mul_nonneg (show 0 ≤ -Q by omega) (show 0 ≤ q - p by omega)
            have b3' : -Q * (q - p) = -(Q * (q - p)) := by grind
            omega
          exact n1 ⟨(s A B).2.1 hA hB, (s P Q).2.2.1 hP hQ⟩
      rw [if_neg (show ¬ ((a ≤ p ∧ p < b) ∧ 0 < P) by omega), if_neg (show ¬ ((a ≤ q ∧ q < b) ∧ 0 < Q) by omega)]
      by_cases d : A < 0
      · rw [if_pos (by omega), if_pos (by omega)]; rfl
      · rw [if_neg (by omega), if_neg (by omega)]
    · have a0 : A ≠ 0 := fun z => n2 z (by omega)
      have q0 : Q ≠ 0 := fun z => n5 z (by omega)
      have k : A < 0 ↔ 0 < Q := by
        constructor
        · intro hA
          refine Int.lt_of_not_ge (fun hQ => ?_)
          have hQ : Q < 0 := by omega
          have b1 := nm A (b - a) hA (by omega)
          have b2 := nm Q (a - p) hQ (by omega)
          have b2' : Q * (a - p) = -(Q * (p - a)) := by grind
          have hP : 0 < P := by
            refine Int.lt_of_not_ge (fun hP => ?_)
            have b3 := Int.mul_nonneg (show 0 ≤ -P by omega) (show 0 ≤ q - a by omega)
            have b3' : -P * (q - a) = -(P * (q - a)) := by grind
            omega
          have hB : 0 < B := by
            refine Int.lt_of_not_ge (fun hB => ?_)
            have d1 := Int.mul_nonneg (show 0 ≤ -B by omega) (show 0 ≤ b - a by omega)
            have d1' : -B * (b - a) = -(B * (b - a)) := by grind
            have d2 := nm Q (b - p) hQ (by omega)
            have d2' : Q * (b - p) = -(Q * (p - b)) := by grind
            have d3 := pm P (b - q) hP (by omega)
            have d3' : P * (b - q) = -(P * (q - b)) := by grind
            omega
          exact n1 ⟨(s A B).2.2.1 hA hB, (s P Q).2.1 hP hQ⟩
        · intro hQ
          refine Int.lt_of_not_ge (fun hA => ?_)
          have hA : 0 < A := by omega
          have b1 := pm A (b - a) hA (by omega)
          have b2 := pm Q (a - p) hQ (by omega)
          have b2' : Q * (a - p) = -(Q * (p - a)) := by grind
          have hP : P < 0 := by
            refine Int.lt_of_not_ge (fun hP => ?_)
            have b3 := Int.mul_nonneg hP (show 0 ≤ q - a by omega)
            omega
          have hB : B < 0 := by
            refine Int.lt_of_not_ge (fun hB => ?_)
            have d1 := Int.mul_nonneg hB (show 0 ≤ b - a by omega)
            have d2 := pm Q (b - p) hQ (by omega)
            have d2' : Q * (b - p) = -(Q * (p - b)) := by grind
            have d3 := nm P (b - q) hP (by omega)
            have d3' : P * (b - q) = -(P * (q - b)) := by grind
            omega
          exact n1 ⟨(s A B).2.1 hA hB, (s P Q).2.2.1 hP hQ⟩
      rw [if_neg (show ¬ ((a ≤ p ∧ p < b) ∧ 0 < P) by omega), if_neg (show ¬ ((p < b ∧ b ≤ q) ∧ B < 0) by omega)]
      by_cases d : A < 0
      · rw [if_pos (show (a ≤ q ∧ q < b) ∧ 0 < Q by omega), if_pos (show (p < a ∧ a ≤ q) ∧ A < 0 by omega)]
      · rw [if_neg (show ¬ ((a ≤ q ∧ q < b) ∧ 0 < Q) by omega), if_neg (show ¬ ((p < a ∧ a ≤ q) ∧ A < 0) by omega)]
theorem gt_sw {ax ay bx b px py : Int} : g_turn bx b ax ay px py = -g_turn ax ay bx b px py := by unfold g_turn; grind
theorem gt_cs_sw {px py ax ay bx b : Int} : g_cs px py bx b ax ay = -g_cs px py ax ay bx b := by
  unfold g_cs
  rw [gt_sw]
  repeat' split
  all_goals omega
theorem gt_U_sw {px py qx qy zx zy : Int} : gt_U qx qy px py zx zy = -gt_U px py qx qy zx zy := by
  unfold gt_U
  repeat' split
  all_goals omega
theorem gt_on_sw {ax ay bx b px py : Int} (h : gt_on ax ay bx b px py) : gt_on bx b ax ay px py := by
  unfold gt_on at *
  rw [gt_sw]; omega
theorem gt_mt_sw {px py qx qy ax ay bx b : Int} (h : gt_mt px py qx qy ax ay bx b) : gt_mt qx qy px py ax ay bx b := by
  unfold gt_mt at *
  rcases h with h | h | h
  · refine Or.inl ⟨?_, by rw [Int.mul_comm]; exact h.2⟩
    rw [gt_sw (ax := px), gt_sw (ax := px) (px := bx), Int.neg_mul_neg]; exact h.1
  · exact Or.inr (Or.inl (h.imp gt_on_sw gt_on_sw))
  · exact Or.inr (Or.inr h.symm)
theorem gt_mt_ab {px py qx qy ax ay bx b : Int} (h : gt_mt px py qx qy ax ay bx b) : gt_mt ax ay bx b px py qx qy := by
  unfold gt_mt at *
  rcases h with h | h | h
  · exact Or.inl ⟨h.2, h.1⟩
  · exact Or.inr (Or.inr h)
  · exact Or.inr (Or.inl h)
theorem gt_T_up {px py qx qy ax ay bx b : Int} (h : ¬ gt_mt px py qx qy ax ay bx b) (h1 : py ≤ qy) (h2 : ay ≤ b) : g_cs px py ax ay bx b - g_cs qx qy ax ay bx b = gt_U px py qx qy bx b - gt_U px py qx qy ax ay := by
  have hx : ¬ (g_turn px py qx qy ax ay * g_turn px py qx qy bx b < 0 ∧ g_turn ax ay bx b px py * g_turn ax ay bx b qx qy < 0) := fun z => h (Or.inl z)
  have ha : ¬ gt_on px py qx qy ax ay := fun z => h (Or.inr (Or.inl (Or.inl z)))
  have hb : ¬ gt_on px py qx qy bx b := fun z => h (Or.inr (Or.inl (Or.inr z)))
  have hp : ¬ gt_on ax ay bx b px py := fun z => h (Or.inr (Or.inr (Or.inl z)))
  have hq : ¬ gt_on ax ay bx b qx qy := fun z => h (Or.inr (Or.inr (Or.inr z)))
  have c2 : ∀ (x y : Int), ¬ ((b ≤ y ∧ y < ay) ∧ g_turn ax ay bx b x y < 0) := fun x y z => by omega
  have cs : ∀ x y : Int, g_cs x y ax ay bx b = if (ay ≤ y ∧ y < b) ∧ 0 < g_turn ax ay bx b x y then 1 else 0 := fun x y => by
    unfold g_cs
    rw [if_neg (c2 x y)]
  have us : ∀ x y : Int, gt_U px py qx qy x y = if (py < y ∧ y ≤ qy) ∧ g_turn px py qx qy x y < 0 then 1 else 0 := fun x y => by
    unfold gt_U
    rw [if_pos h1]
  by_cases d1 : py < qy
  · by_cases d2 : ay < b
    · rw [cs, cs, us, us]
      refine gt_Ti _ _ _ _ _ _ _ _ (by unfold g_turn; grind) (by unfold g_turn; grind) d1 d2 hx (fun z w => ha (gt_on_y z d1 w)) (fun z w => hb (gt_on_y z d1 w)) (fun z w => hp (gt_on_y z d2 w)) (fun z w => hq (gt_on_y z d2 w))
    · have e : b = ay := by omega
      subst e
      rw [cs, cs, if_neg (by omega), if_neg (by omega), us, us]
      by_cases d3 : py < b ∧ b ≤ qy
      · suffices hk : g_turn px py qx qy ax b < 0 ↔ g_turn px py qx qy bx b < 0 by
          by_cases k : g_turn px py qx qy ax b < 0
          · rw [if_pos ⟨d3, hk.mp k⟩, if_pos ⟨d3, k⟩]; rfl
          · rw [if_neg (fun z => k (hk.mpr z.2)), if_neg (fun z => k z.2)]
        have a0 : g_turn px py qx qy ax b ≠ 0 := fun z => ha (gt_on_y z d1 (by omega))
        have b0 : g_turn px py qx qy bx b ≠ 0 := fun z => hb (gt_on_y z d1 (by omega))
        have key : ∀ ux vx : Int, g_turn px py qx qy ux b < 0 → 0 < g_turn px py qx qy vx b → (b < qy → (g_turn ux b vx b px py * g_turn ux b vx b qx qy < 0)) ∧ (b = qy → gt_on ux b vx b qx qy) := fun ux vx m1 m2 => by
          have e1 : (qy - py) * (ux - vx) = g_turn px py qx qy vx b - g_turn px py qx qy ux b := by unfold g_turn; grind
          have lt : 0 < ux - vx := Int.pos_of_mul_pos_right (by rw [e1]; omega) (by omega) 
          refine ⟨fun g => ?_, fun g => ?_⟩
          · have e2 : g_turn ux b vx b px py = (ux - vx) * (b - py) := by unfold g_turn; grind
            have e3 : g_turn ux b vx b qx qy = -((ux - vx) * (qy - b)) := by unfold g_turn; grind
            rw [e2, e3]
            have k1 := Int.mul_pos lt (show 0 < b - py by omega)
            have k2 := Int.mul_pos lt (show 0 < qy - b by omega)
            exact (gt_sp _ _).2.1 k1 (by omega)
          · subst g
            have e2 : g_turn px py qx b ux b = (b - py) * (qx - ux) := by unfold g_turn; grind
            have e3 : g_turn px py qx b vx b = (b - py) * (qx - vx) := by unfold g_turn; grind
            rw [e3] at m2
            have k2 := Int.pos_of_mul_pos_right m2 (by omega)
            have e2' : 0 < (b - py) * (ux - qx) := by
              have : (b - py) * (ux - qx) = -g_turn px py qx b ux b := by rw [e2]; grind
              omega
            have k1 := Int.pos_of_mul_pos_right e2' (by omega)
            refine ⟨by unfold g_turn; grind, by omega, by omega⟩
        constructor
        · intro m
          refine Int.lt_of_not_ge (fun w => ?_)
          have k := key ax bx m (by omega)
          by_cases g : b < qy
          · exact hx ⟨(gt_sp _ _).2.2.1 m (by omega), k.1 g⟩
          · exact hq (k.2 (by omega))
        · intro m
          refine Int.lt_of_not_ge (fun w => ?_)
          have k := key bx ax m (by omega)
          by_cases g : b < qy
          · refine hx ⟨(gt_sp _ _).2.1 (by omega) m, ?_⟩
            have := k.1 g
            rw [gt_sw, gt_sw (px := qx), Int.neg_mul_neg] at this
            exact this
          · exact hq (gt_on_sw (k.2 (by omega)))
      · rw [if_neg (fun z => d3 z.1), if_neg (fun z => d3 z.1)]
  · have e : qy = py := by omega
    subst e
    rw [us, us, if_neg (by omega), if_neg (by omega), cs, cs]
    by_cases d3 : ay ≤ qy ∧ qy < b
    · suffices hk : 0 < g_turn ax ay bx b px qy ↔ 0 < g_turn ax ay bx b qx qy by
        by_cases k : 0 < g_turn ax ay bx b px qy
        · rw [if_pos ⟨d3, k⟩, if_pos ⟨d3, hk.mp k⟩]; rfl
        · rw [if_neg (fun z => k z.2), if_neg (fun z => k (hk.mpr z.2))]
      have p0 : g_turn ax ay bx b px qy ≠ 0 := fun z => hp (gt_on_y z (by omega) (by omega))
      have q0 : g_turn ax ay bx b qx qy ≠ 0 := fun z => hq (gt_on_y z (by omega) (by omega))
      have key : ∀ ux vx : Int, 0 < g_turn ax ay bx b ux qy → g_turn ax ay bx b vx qy < 0 → (ay < qy → (g_turn ux qy vx qy ax ay * g_turn ux qy vx qy bx b < 0)) ∧ (ay = qy → gt_on ux qy vx qy ax ay) := fun ux vx m1 m2 => by
        have e1 : (b - ay) * (vx - ux) = g_turn ax ay bx b ux qy - g_turn ax ay bx b vx qy := by unfold g_turn; grind
        have lt : 0 < vx - ux := Int.pos_of_mul_pos_right (by rw [e1]; omega) (by omega)
        refine ⟨fun g => ?_, fun g => ?_⟩
        · have e2 : g_turn ux qy vx qy ax ay = -((vx - ux) * (qy - ay)) := by unfold g_turn; grind
          have e3 : g_turn ux qy vx qy bx b = (vx - ux) * (b - qy) := by unfold g_turn; grind
          rw [e2, e3]
          have k1 := Int.mul_pos lt (show 0 < qy - ay by omega)
          have k2 := Int.mul_pos lt (show 0 < b - qy by omega)
          exact (gt_sp _ _).2.2.1 (by omega) k2
        · subst g
          have e2 : g_turn ax ay bx b ux ay = (b - ay) * (ax - ux) := by unfold g_turn; grind
          have e3 : g_turn ax ay bx b vx ay = -((b - ay) * (vx - ax)) := by unfold g_turn; grind
          rw [e2] at m1
          rw [e3] at m2
          have k1 := Int.pos_of_mul_pos_right m1 (by omega)
          have k2 := Int.pos_of_mul_pos_right (show 0 < (b - ay) * (vx - ax) by omega) (by omega)
          refine ⟨by unfold g_turn; grind, by omega, by omega⟩
      constructor
      · intro m
        refine Int.lt_of_not_ge (fun w => ?_)
        have k := key px qx m (by omega)
        by_cases g : ay < qy
        · exact hx ⟨k.1 g, (gt_sp _ _).2.1 m (by omega)⟩
        · exact ha (k.2 (by omega))
      · intro m
        refine Int.lt_of_not_ge (fun w => ?_)
        have k := key qx px m (by omega)
        by_cases g : ay < qy
        · refine hx ⟨?_, (gt_sp _ _).2.2.1 (by omega) m⟩
          have := k.1 g
          rw [gt_sw, gt_sw (px := bx), Int.neg_mul_neg] at this
          exact this
        · exact ha (gt_on_sw (k.2 (by omega)))
    · rw [if_neg (fun z => d3 z.1), if_neg (fun z => d3 z.1)]
/-- what a stretch counts less for another point is what its ends say, if it does not meet the way there -/
theorem gt_T {px py qx qy ax ay bx b : Int} (h : ¬ gt_mt px py qx qy ax ay bx b) : g_cs px py ax ay bx b - g_cs qx qy ax ay bx b = gt_U px py qx qy bx b - gt_U px py qx qy ax ay := by
  have sw : ∀ {px py qx qy ax ay bx b : Int}, ¬ gt_mt px py qx qy ax ay bx b → ay ≤ b → g_cs px py ax ay bx b - g_cs qx qy ax ay bx b = gt_U px py qx qy bx b - gt_U px py qx qy ax ay := fun {px py qx qy ax ay bx b} h h2 => by
    by_cases c : py ≤ qy
    · exact gt_T_up h c h2
    · have := gt_T_up (px := qx) (py := qy) (qx := px) (qy := py) (fun z => h (gt_mt_sw z)) (by omega) h2
      rw [gt_U_sw (zx := bx), gt_U_sw (zx := ax)] at this
      omega
  by_cases c : ay ≤ b
  · exact sw h c
  · have := sw (px := px) (py := py) (qx := qx) (qy := qy) (ax := bx) (ay := b) (bx := ax) (b := ay) (fun z => h (gt_mt_ab (gt_mt_sw (gt_mt_ab z)))) (by omega)
    rw [gt_cs_sw, gt_cs_sw (px := qx)] at this
    omega
abbrev gt_P : Type := Int × Int
def gt_f (z b : gt_P) : Int := if 0 ≤ z.2 then (if 0 < b.2 ∧ 0 < b.1 * z.2 - b.2 * z.1 then 1 else 0) else (if b.2 ≤ 0 ∧ b.1 * z.2 - b.2 * z.1 < 0 then -1 else 0)
def gt_d (a b : gt_P) : gt_P := (b.1 - a.1, b.2 - a.2)
def gt_c (z a b : gt_P) : Int := g_cs z.1 z.2 a.1 a.2 b.1 b.2
def gt_M (p q a b : gt_P) : Prop := gt_mt p.1 p.2 q.1 q.2 a.1 a.2 b.1 b.2
def gt_V (p q z : gt_P) : Int := gt_U p.1 p.2 q.1 q.2 z.1 z.2
theorem gt_cV (z v b : gt_P) : gt_c z v b - gt_V z v b = gt_f (gt_d v z) (gt_d v b) := by
  obtain ⟨zx, zy⟩ := z
  obtain ⟨vx, vy⟩ := v
  obtain ⟨bx, b⟩ := b
  unfold gt_c gt_V gt_f gt_d g_cs gt_U g_turn
  dsimp only
  have e2 : (vx - zx) * (b - zy) - (vy - zy) * (bx - zx) = (bx - vx) * (zy - vy) - (b - vy) * (zx - vx) := by grind
  have e3 : (zx - vx) * (b - vy) - (zy - vy) * (bx - vx) = -((bx - vx) * (zy - vy) - (b - vy) * (zx - vx)) := by grind
  rw [e2, e3]
  have h1 := gt_sp (bx - vx) (zy - vy)
  have h2 := gt_sp (b - vy) (zx - vx)
  generalize (bx - vx) * (zy - vy) = u at *
  generalize (b - vy) * (zx - vx) = w at *
  repeat' split
  all_goals omega
theorem gt_c_sw {z a b : gt_P} : gt_c z b a = -gt_c z a b := gt_cs_sw
theorem gt_c_self {a b : gt_P} : gt_c a a b = 0 := by
  unfold gt_c g_cs g_turn
  have : (b.1 - a.1) * (a.2 - a.2) - (b.2 - a.2) * (a.1 - a.1) = 0 := by grind
  rw [this, if_neg (by omega), if_neg (by omega)]
theorem gt_V_self {z v : gt_P} : gt_V z v v = 0 := by
  unfold gt_V gt_U g_turn
  have e1 : (v.1 - z.1) * (v.2 - z.2) - (v.2 - z.2) * (v.1 - z.1) = 0 := by grind
  have e2 : (z.1 - v.1) * (v.2 - v.2) - (z.2 - v.2) * (v.1 - v.1) = 0 := by grind
  rw [e1, e2]
  repeat' split
  all_goals omega
/-! ways through points -/
def gt_ps (c : gt_P → gt_P → Int) : gt_P → List gt_P → Int
  | _, [] => 0
  | a, b :: r => c a b + gt_ps c b r
def gt_al (E : gt_P → gt_P → Prop) : gt_P → List gt_P → Prop
  | _, [] => True
  | a, b :: r => E a b ∧ gt_al E b r
def gt_ls : gt_P → List gt_P → gt_P
  | a, [] => a
  | _, b :: r => gt_ls b r
theorem gt_ps_app {c : gt_P → gt_P → Int} : ∀ {a : gt_P} {l r : List gt_P}, gt_ps c a (l ++ r) = gt_ps c a l + gt_ps c (gt_ls a l) r
  | _, [], _ => (Int.zero_add _).symm
  | a, b :: l, r => by
    show c a b + gt_ps c b (l ++ r) = c a b + gt_ps c b l + gt_ps c (gt_ls b l) r
    rw [gt_ps_app]; omega
theorem gt_al_app {E : gt_P → gt_P → Prop} : ∀ {a : gt_P} {l r : List gt_P}, gt_al E a (l ++ r) ↔ gt_al E a l ∧ gt_al E (gt_ls a l) r
  | _, [], _ => ⟨fun h => ⟨trivial, h⟩, fun h => h.2⟩
  | a, b :: l, r => by
    show (E a b ∧ gt_al E b (l ++ r)) ↔ (E a b ∧ gt_al E b l) ∧ gt_al E (gt_ls b l) r
    rw [gt_al_app]
    exact ⟨fun h => ⟨⟨h.1, h.2.1⟩, h.2.2⟩, fun h => ⟨h.1.1, h.1.2, h.2⟩⟩
theorem gt_ls_app : ∀ {a : gt_P} {l r : List gt_P}, gt_ls a (l ++ r) = gt_ls (gt_ls a l) r
  | _, [], _ => rfl
  | _, b :: l, r => gt_ls_app (a := b) (l := l) (r := r)
theorem gt_al_imp {E F : gt_P → gt_P → Prop} (h : ∀ a b, E a b → F a b) : ∀ {a : gt_P} {l : List gt_P}, gt_al E a l → gt_al F a l
  | _, [], _ => trivial
  | _, _ :: _, k => ⟨h _ _ k.1, gt_al_imp h k.2⟩
theorem gt_al_and {E F : gt_P → gt_P → Prop} : ∀ {a : gt_P} {l : List gt_P}, gt_al E a l → gt_al F a l → gt_al (fun x y => E x y ∧ F x y) a l
  | _, [], _, _ => trivial
  | _, _ :: _, k, j => ⟨⟨k.1, j.1⟩, gt_al_and k.2 j.2⟩
theorem gt_tel {p q : gt_P} : ∀ {a : gt_P} {l : List gt_P}, gt_al (fun x y => ¬ gt_M p q x y) a l → gt_ps (gt_c p) a l - gt_ps (gt_c q) a l = gt_V p q (gt_ls a l) - gt_V p q a
  | a, [], _ => by show (0 : Int) - 0 = gt_V p q a - gt_V p q a; omega
  | a, b :: l, ⟨h1, h2⟩ => by
    have e1 : gt_c p a b - gt_c q a b = gt_V p q b - gt_V p q a := gt_T h1
    have e2 := gt_tel h2
    show gt_c p a b + gt_ps (gt_c p) b l - (gt_c q a b + gt_ps (gt_c q) b l) = gt_V p q (gt_ls b l) - gt_V p q a
    omega
/-- how often a way v, b, r and back to v goes round a point -/
def gt_w (l : List gt_P) (z : gt_P) : Int := match l with
  | [] => 0
  | v :: r => gt_ps (gt_c z) v (r ++ [v])
theorem gt_w_rot {a : gt_P} {l : List gt_P} {z : gt_P} : gt_w (l ++ [a]) z = gt_w (a :: l) z := by
  cases l with
  | nil => rfl
  | cons b l =>
    show gt_ps (gt_c z) b (l ++ [a] ++ [b]) = gt_c z a b + gt_ps (gt_c z) b (l ++ [a])
    rw [gt_ps_app]
    have : gt_ls b (l ++ [a]) = a := by rw [gt_ls_app]; rfl
    rw [this]
    show _ + (gt_c z a b + 0) = _
    omega
/-- round a point that is seen from a corner -/
theorem gt_see {v b z : gt_P} {r : List gt_P} (h : gt_al (fun x y => ¬ gt_M z v x y) b r) : gt_w (v :: b :: r) z = gt_w (v :: b :: r) v + gt_f (gt_d v z) (gt_d v b) - gt_f (gt_d v z) (gt_d v (gt_ls b r)) := by
  have e : ∀ y, gt_w (v :: b :: r) y = gt_c y v b + gt_ps (gt_c y) b r + gt_c y (gt_ls b r) v := fun y => by
    show gt_c y v b + gt_ps (gt_c y) b (r ++ [v]) = _
    rw [gt_ps_app]
    show _ + (_ + (gt_c y (gt_ls b r) v + 0)) = _
    omega
  have k := gt_tel h
  have c1 := gt_cV z v b
  have c2 := gt_cV z v (gt_ls b r)
  rw [e z, e v, gt_c_sw (a := v), gt_c_sw (z := v) (a := v), gt_c_self, gt_c_self]
  omega
/-! directions, from a bit more than straight to the right on, once round -/
def gt_x (a b : gt_P) : Int := a.1 * b.2 - a.2 * b.1
abbrev gt_up (d : gt_P) : Prop := 0 < d.2 ∨ (d.2 = 0 ∧ d.1 < 0)
abbrev gt_lt (a b : gt_P) : Prop := (gt_up a ∧ ¬ gt_up b) ∨ ((gt_up a ↔ gt_up b) ∧ 0 < gt_x a b)
def gt_sd (a b : gt_P) : Prop := (gt_up a ↔ gt_up b) ∧ gt_x a b = 0
abbrev gt_nz (a : gt_P) : Prop := a.1 ≠ 0 ∨ a.2 ≠ 0
theorem gt_x_sw {a b : gt_P} : gt_x b a = -gt_x a b := by unfold gt_x; grind
theorem gt_lt_tri {a b : gt_P} (h : ¬ gt_sd a b) : gt_lt a b ∨ gt_lt b a := by
  have := gt_x_sw (a := a) (b := b)
  by_cases c1 : gt_up a
  · by_cases c2 : gt_up b
    · have e : gt_x a b ≠ 0 := fun z => h ⟨⟨fun _ => c2, fun _ => c1⟩, z⟩
      rcases Int.lt_or_gt_of_ne e with k | k
      · exact Or.inr (Or.inr ⟨⟨fun _ => c1, fun _ => c2⟩, by omega⟩)
      · exact Or.inl (Or.inr ⟨⟨fun _ => c2, fun _ => c1⟩, by omega⟩)
    · exact Or.inl (Or.inl ⟨c1, c2⟩)
  · by_cases c2 : gt_up b
    · exact Or.inr (Or.inl ⟨c2, c1⟩)
    · have e : gt_x a b ≠ 0 := fun z => h ⟨⟨fun h => absurd h c1, fun h => absurd h c2⟩, z⟩
      rcases Int.lt_or_gt_of_ne e with k | k
      · exact Or.inr (Or.inr ⟨⟨fun h => absurd h c2, fun h => absurd h c1⟩, by omega⟩)
      · exact Or.inl (Or.inr ⟨⟨fun h => absurd h c1, fun h => absurd h c2⟩, by omega⟩)
theorem gt_lt_asym {a b : gt_P} (h : gt_lt a b) (k : gt_lt b a) : False := by
  have := gt_x_sw (a := a) (b := b)
  rcases h with h | h
  · rcases k with k | k
    · exact k.2 h.1
    · exact h.2 (k.1.mpr h.1)
  · rcases k with k | k
    · exact k.2 (h.1.mpr k.1)
    · have := h.2
      have := k.2
      omega
theorem gt_lt_nsd {a b : gt_P} (h : gt_lt a b) : ¬ gt_sd a b := fun z => by
  rcases h with h | h
  · exact h.2 (z.1.mp h.1)
  · have := h.2
    have := z.2
    omega
theorem gt_sd_sw {a b : gt_P} (h : gt_sd a b) : gt_sd b a := ⟨h.1.symm, by rw [gt_x_sw, h.2]; rfl⟩
theorem gt_x3 (a b c : gt_P) : b.2 * gt_x a c = a.2 * gt_x b c + c.2 * gt_x a b := by unfold gt_x; grind
theorem gt_x3' (a b c : gt_P) : b.1 * gt_x a c = a.1 * gt_x b c + c.1 * gt_x a b := by unfold gt_x; grind
theorem gt_lt_trans {a b c : gt_P} (na : gt_nz a) (nb : gt_nz b) (nc : gt_nz c) (h : gt_lt a b) (k : gt_lt b c) : gt_lt a c := by
  rcases h with h | h
  · rcases k with k | k
    · exact absurd k.1 h.2
    · exact Or.inl ⟨h.1, fun z => h.2 (k.1.mpr z)⟩
  · rcases k with k | k
    · exact Or.inl ⟨h.1.mpr k.1, k.2⟩
    · refine Or.inr ⟨h.1.trans k.1, ?_⟩
      have e2 := gt_x3 a b c
      have e1 := gt_x3' a b c
      have h2 := h.2
      have k2 := k.2
      have hh := h.1
      have kk := k.1
      refine Int.lt_of_not_ge (fun z => ?_)
      by_cases ub : gt_up b
      · have ua := hh.mpr ub
        have uc := kk.mp ub
        have p1 := Int.mul_nonneg (show 0 ≤ a.2 by rcases ua with u | u <;> omega) (show 0 ≤ gt_x b c by omega)
        have p2 := Int.mul_nonneg (show 0 ≤ c.2 by rcases uc with u | u <;> omega) (show 0 ≤ gt_x a b by omega)
        have p3 := Int.mul_nonneg (show 0 ≤ b.2 by rcases ub with u | u <;> omega) (show 0 ≤ -gt_x a c by omega)
        have p3' : b.2 * -gt_x a c = -(b.2 * gt_x a c) := by grind
        have z1 : a.2 * gt_x b c = 0 := by omega
        have z2 : c.2 * gt_x a b = 0 := by omega
        have a0 : a.2 = 0 := by rcases Int.mul_eq_zero.mp z1 with u | u <;> omega
        have c0 : c.2 = 0 := by rcases Int.mul_eq_zero.mp z2 with u | u <;> omega
        have a1 : a.1 < 0 := by rcases ua with u | u <;> omega
        have c1 : c.1 < 0 := by rcases uc with u | u <;> omega
        unfold gt_x at h2 k2
        rw [a0] at h2
        rw [c0] at k2
        have b2 : b.2 < 0 := by
          refine Int.lt_of_not_ge (fun w => ?_)
          have := Int.mul_nonneg (show 0 ≤ -a.1 by omega) w
          have e : -a.1 * b.2 = -(a.1 * b.2) := by grind
          omega
        rcases ub with u | u <;> omega
      · have ua : ¬ gt_up a := fun w => ub (hh.mp w)
        have uc : ¬ gt_up c := fun w => ub (kk.mpr w)
        have fa : a.2 ≤ 0 := by omega
        have fb : b.2 ≤ 0 := by omega
        have fc : c.2 ≤ 0 := by omega
        have p1 := Int.mul_nonneg (show 0 ≤ -a.2 by omega) (show 0 ≤ gt_x b c by omega)
        have p2 := Int.mul_nonneg (show 0 ≤ -c.2 by omega) (show 0 ≤ gt_x a b by omega)
        have p3 := Int.mul_nonneg (show 0 ≤ -b.2 by omega) (show 0 ≤ -gt_x a c by omega)
        have p1' : -a.2 * gt_x b c = -(a.2 * gt_x b c) := by grind
        have p2' : -c.2 * gt_x a b = -(c.2 * gt_x a b) := by grind
        have p3' : -b.2 * -gt_x a c = b.2 * gt_x a c := by grind
        have z1 : a.2 * gt_x b c = 0 := by omega
        have z2 : c.2 * gt_x a b = 0 := by omega
        have a0 : a.2 = 0 := by rcases Int.mul_eq_zero.mp z1 with u | u <;> omega
        have c0 : c.2 = 0 := by rcases Int.mul_eq_zero.mp z2 with u | u <;> omega
        unfold gt_x at h2 k2
        rw [a0] at h2
        rw [c0] at k2
        have b2 : 0 < b.2 := by
          refine Int.lt_of_not_ge (fun w => ?_)
          have := Int.mul_nonneg (show 0 ≤ a.1 by omega) (show 0 ≤ -b.2 by omega)
          have e : a.1 * -b.2 = -(a.1 * b.2) := by grind
          omega
        omega
/-- how much a way off counts against a direction -/
theorem gt_f_up {z b : gt_P} (h : gt_up z) : gt_f z b = if gt_lt b z then 1 else 0 := by
  unfold gt_f
  have e : gt_x b z = b.1 * z.2 - b.2 * z.1 := rfl
  rw [← e]
  have hz : 0 ≤ z.2 := by rcases h with u | u <;> omega
  rw [if_pos hz]
  have k : (0 < b.2 ∧ 0 < gt_x b z) ↔ gt_lt b z := by
    constructor
    · intro w
      exact Or.inr ⟨⟨fun _ => h, fun _ => Or.inl w.1⟩, w.2⟩
    · intro w
      rcases w with w | w
      · exact absurd h w.2
      · refine ⟨?_, w.2⟩
        have ub := w.1.mpr h
        have w2 := w.2
        rcases ub with u | u
        · exact u
        · exfalso
          rw [e, u.1] at w2
          have := Int.mul_nonneg (show 0 ≤ -b.1 by omega) hz
          have e : -b.1 * z.2 = -(b.1 * z.2) := by grind
          omega
  by_cases c : gt_lt b z
  · rw [if_pos c, if_pos (k.mpr c)]
  · rw [if_neg c, if_neg (fun w => c (k.mp w))]
theorem gt_f_dn {z b : gt_P} (n : gt_nz z) (h : ¬ gt_up z) : gt_f z b = if gt_lt z b then -1 else 0 := by
  unfold gt_f
  have e : gt_x b z = b.1 * z.2 - b.2 * z.1 := rfl
  have es := gt_x_sw (a := b) (b := z)
  rw [← e]
  by_cases hz : 0 ≤ z.2
  · have z0 : z.2 = 0 := by omega
    have z1 : 0 < z.1 := by omega
    rw [if_pos hz, if_neg, if_neg]
    · intro w
      rcases w with w | w
      · exact h w.1
      · have ub : ¬ gt_up b := fun u => h (w.1.mpr u)
        have w2 := w.2
        rw [es, e, z0] at w2
        have := Int.mul_nonneg (show 0 ≤ -b.2 by omega) (show 0 ≤ z.1 by omega)
        have e : -b.2 * z.1 = -(b.2 * z.1) := by grind
        omega
    · intro w
      have w2 := w.2
      rw [e, z0] at w2
      have := Int.mul_pos w.1 z1
      omega
  · rw [if_neg hz]
    have k : (b.2 ≤ 0 ∧ gt_x b z < 0) ↔ gt_lt z b := by
      constructor
      · intro w
        refine Or.inr ⟨⟨fun u => absurd u h, fun u => ?_⟩, by omega⟩
        exfalso
        have u2 : b.2 = 0 ∧ b.1 < 0 := by rcases u with u | u <;> omega
        have w2 := w.2
        rw [e, u2.1] at w2
        have := (gt_sp b.1 z.2).2.2.2.1 u2.2 (by omega)
        omega
      · intro w
        rcases w with w | w
        · exact absurd w.1 h
        · have ub : ¬ gt_up b := fun u => h (w.1.mpr u)
          have := w.2
          exact ⟨by omega, by omega⟩
    by_cases c : gt_lt z b
    · rw [if_pos c, if_pos (k.mpr c)]
    · rw [if_neg c, if_neg (fun w => c (k.mp w))]
/-- of a point in a direction: 1 in the corner between the next and the last, on its left -/
def gt_s (a b z : gt_P) : Int := (if gt_lt a b then 1 else 0) + gt_f z b - gt_f z a
theorem gt_lt_cg {a b z : gt_P} (na : gt_nz a) (nb : gt_nz b) (h : gt_sd a b) (k : gt_lt a z) : gt_lt b z := by
  rcases k with k | k
  · exact Or.inl ⟨h.1.mp k.1, k.2⟩
  · refine Or.inr ⟨h.1.symm.trans k.1, ?_⟩
    have e2 := gt_x3 b a z
    have e1 := gt_x3' b a z
    have hs := gt_x_sw (a := a) (b := b)
    rw [h.2] at hs
    rw [hs] at e1 e2
    simp only [Int.neg_zero, Int.mul_zero, Int.add_zero] at e1 e2
    have k2 := k.2
    have hh := h.1
    have x0 := h.2
    unfold gt_x at x0
    refine Int.lt_of_not_ge (fun w => ?_)
    by_cases ua : gt_up a
    · have ub := hh.mp ua
      rcases ub with u | u
      · have p1 := Int.mul_pos u k2
        have p2 := Int.mul_nonneg (show 0 ≤ a.2 by rcases ua with u | u <;> omega) (show 0 ≤ -gt_x b z by omega)
        have p2' : a.2 * -gt_x b z = -(a.2 * gt_x b z) := by grind
        omega
      · have a2 : a.2 = 0 := by
          rw [u.1] at x0
          have : a.2 * b.1 = 0 := by omega
          rcases Int.mul_eq_zero.mp this with q | q <;> omega
        have a1 : a.1 < 0 := by rcases ua with u | u <;> omega
        have p1 := (gt_sp b.1 (gt_x a z)).2.2.1 u.2 k2
        have p2 := Int.mul_nonneg (show 0 ≤ -a.1 by omega) (show 0 ≤ -gt_x b z by omega)
        have p2' : -a.1 * -gt_x b z = a.1 * gt_x b z := by grind
        omega
    · have ub : ¬ gt_up b := fun u => ua (hh.mpr u)
      by_cases b0 : b.2 < 0
      · have p1 := (gt_sp b.2 (gt_x a z)).2.2.1 b0 k2
        have p2 := Int.mul_nonneg (show 0 ≤ -a.2 by omega) (show 0 ≤ -gt_x b z by omega)
        have p2' : -a.2 * -gt_x b z = a.2 * gt_x b z := by grind
        omega
      · have b1 : 0 < b.1 := by omega
        have a2 : a.2 = 0 := by
          have : b.2 = 0 := by omega
          rw [this] at x0
          have : a.2 * b.1 = 0 := by omega
          rcases Int.mul_eq_zero.mp this with q | q <;> omega
        have a1 : 0 < a.1 := by omega
        have p1 := Int.mul_pos b1 k2
        have p2 := Int.mul_nonneg (show 0 ≤ a.1 by omega) (show 0 ≤ -gt_x b z by omega)
        have p2' : a.1 * -gt_x b z = -(a.1 * gt_x b z) := by grind
        omega
theorem gt_lt_cg2 {a b z : gt_P} (na : gt_nz a) (nb : gt_nz b) (h : gt_sd a b) (k : gt_lt z a) : gt_lt z b := by
  by_cases c : gt_sd z b
  · exfalso
    refine gt_lt_nsd k ⟨c.1.trans h.1.symm, ?_⟩
    rcases k with k | k
    · exact absurd (h.1.mpr (c.1.mp k.1)) k.2
    · have e2 := gt_x3 z b a
      have e1 := gt_x3' z b a
      have hs : gt_x b a = 0 := by rw [gt_x_sw, h.2]; rfl
      rw [c.2, hs] at e1 e2
      simp only [Int.mul_zero, Int.add_zero] at e1 e2
      rcases Int.mul_eq_zero.mp e2 with q | q
      · rcases Int.mul_eq_zero.mp e1 with q1 | q1
        · omega
        · exact q1
      · exact q
  · rcases gt_lt_tri c with q | q
    · exact q
    · exact absurd (gt_lt_cg nb na (gt_sd_sw h) q) (fun w => gt_lt_asym k w)
theorem gt_lt_irr {a : gt_P} : ¬ gt_lt a a := fun h => gt_lt_asym h h
theorem gt_sd_refl {a : gt_P} : gt_sd a a := ⟨Iff.rfl, by unfold gt_x; grind⟩
theorem gt_sd_trans {a b c : gt_P} (nb : gt_nz b) (h : gt_sd a b) (k : gt_sd b c) : gt_sd a c := by
  refine ⟨h.1.trans k.1, ?_⟩
  have e2 := gt_x3 a b c
  have e1 := gt_x3' a b c
  rw [h.2, k.2] at e1 e2
  simp only [Int.mul_zero, Int.add_zero] at e1 e2
  rcases Int.mul_eq_zero.mp e2 with q | q
  · rcases Int.mul_eq_zero.mp e1 with q1 | q1
    · omega
    · exact q1
  · exact q
/-- 0 or 1 -/
theorem gt_s_01 {a b z : gt_P} (na : gt_nz a) (nb : gt_nz b) (nz : gt_nz z) (h : ¬ gt_sd a b) : gt_s a b z = 0 ∨ gt_s a b z = 1 := by
  unfold gt_s
  by_cases uz : gt_up z
  · rw [gt_f_up uz, gt_f_up uz]
    by_cases c1 : gt_lt a b
    · rw [if_pos c1]
      by_cases c2 : gt_lt b z
      · rw [if_pos c2, if_pos (gt_lt_trans na nb nz c1 c2)]; omega
      · rw [if_neg c2]; split <;> omega
    · rw [if_neg c1]
      have c1' : gt_lt b a := (gt_lt_tri h).resolve_left c1
      by_cases c2 : gt_lt a z
      · rw [if_pos c2, if_pos (gt_lt_trans nb na nz c1' c2)]; omega
      · rw [if_neg c2]; split <;> omega
  · rw [gt_f_dn nz uz, gt_f_dn nz uz]
    by_cases c1 : gt_lt a b
    · rw [if_pos c1]
      by_cases c2 : gt_lt z a
      · rw [if_pos c2, if_pos (gt_lt_trans nz na nb c2 c1)]; omega
      · rw [if_neg c2]; split <;> omega
    · rw [if_neg c1]
      have c1' : gt_lt b a := (gt_lt_tri h).resolve_left c1
      by_cases c2 : gt_lt z b
      · rw [if_pos c2, if_pos (gt_lt_trans nz nb na c2 c1')]; omega
      · rw [if_neg c2]; split <;> omega
/-- straight on the way to the next corner -/
theorem gt_s_b {a b z : gt_P} (na : gt_nz a) (nb : gt_nz b) (nz : gt_nz z) (h : ¬ gt_sd a b) (hz : gt_sd z b) : gt_s a b z = if gt_up b then 0 else 1 := by
  unfold gt_s
  by_cases uz : gt_up z
  · rw [gt_f_up uz, gt_f_up uz, if_pos (hz.1.mp uz), if_neg (fun k => gt_lt_nsd k (gt_sd_sw hz))]
    by_cases c1 : gt_lt a b
    · rw [if_pos c1, if_pos (gt_lt_cg2 nb nz (gt_sd_sw hz) c1)]; omega
    · rw [if_neg c1, if_neg (fun k => c1 (gt_lt_cg2 nz nb hz k))]; omega
  · rw [gt_f_dn nz uz, gt_f_dn nz uz, if_neg (fun k => uz (hz.1.mpr k)), if_neg (fun k => gt_lt_nsd k hz)]
    by_cases c1 : gt_lt a b
    · rw [if_pos c1, if_neg (fun k => gt_lt_asym c1 (gt_lt_cg nz nb hz k))]; omega
    · have c1' : gt_lt b a := (gt_lt_tri h).resolve_left c1
      rw [if_neg c1, if_pos (gt_lt_cg nb nz (gt_sd_sw hz) c1')]; omega
/-- the side on the left keeps from corner to corner -/
def gt_k (l : List gt_P) : Int := match l with
  | [] => 0
  | v :: b :: r => gt_w (v :: b :: r) v - (if gt_lt (gt_d v (gt_ls b r)) (gt_d v b) then 1 else 0)
  | _ => 0
def gt_P1 (l : List gt_P) : Prop := match l with
  | v :: b :: c :: r => v ≠ b ∧ ¬ gt_sd (gt_d v (gt_ls c r)) (gt_d v b) ∧ gt_al (fun x y => ¬ gt_M v b x y) c r
  | _ => False
theorem gt_d_nz {a b : gt_P} (h : a ≠ b) : gt_nz (gt_d a b) := by
  unfold gt_nz gt_d
  dsimp only
  refine Classical.byContradiction (fun z => h (Prod.ext ?_ ?_)) <;> omega
theorem gt_d_up {a b : gt_P} (h : a ≠ b) : gt_up (gt_d a b) ↔ ¬ gt_up (gt_d b a) := by
  have := gt_d_nz h
  unfold gt_nz gt_d at this
  unfold gt_up gt_d
  dsimp only at *
  omega
theorem gt_V_sw {p q z : gt_P} : gt_V q p z = -gt_V p q z := gt_U_sw
theorem gt_k_nx {v b c : gt_P} {r : List gt_P} (h : gt_P1 (v :: b :: c :: r)) (h2 : gt_P1 (b :: c :: (r ++ [v]))) (h3 : v ≠ gt_ls c r) : gt_k (b :: c :: (r ++ [v])) = gt_k (v :: b :: c :: r) := by
  have hp := h
  obtain ⟨n1, n2, n3⟩ := h
  have el : gt_ls c (r ++ [v]) = v := by rw [gt_ls_app]; rfl
  have m2 : b ≠ c ∧ ¬ gt_sd (gt_d b v) (gt_d b c) := by
    cases r with
    | nil => exact ⟨h2.1, h2.2.1⟩
    | cons e r =>
      refine ⟨h2.1, ?_⟩
      have : gt_ls e (r ++ [v]) = v := by rw [gt_ls_app]; rfl
      have k : ¬ gt_sd (gt_d b (gt_ls e (r ++ [v]))) (gt_d b c) := h2.2.1
      rw [this] at k
      exact k
  have w1 : ∀ y, gt_w (v :: b :: c :: r) y = gt_c y v b + (gt_c y b c + (gt_ps (gt_c y) c r + gt_c y (gt_ls c r) v)) := fun y => by
    show gt_c y v b + (gt_c y b c + gt_ps (gt_c y) c (r ++ [v])) = _
    rw [gt_ps_app]
    show _ + (_ + (_ + (gt_c y (gt_ls c r) v + 0))) = _
    omega
  have w2 : gt_w (b :: c :: (r ++ [v])) b = gt_w (v :: b :: c :: r) b := gt_w_rot (a := v) (l := b :: c :: r)
  show gt_w (b :: c :: (r ++ [v])) b - (if gt_lt (gt_d b (gt_ls c (r ++ [v]))) (gt_d b c) then 1 else 0) = gt_w (v :: b :: c :: r) v - (if gt_lt (gt_d v (gt_ls c r)) (gt_d v b) then 1 else 0)
  rw [w2, el, w1, w1]
  have k := gt_tel (p := b) (q := v) (a := c) (l := r) (gt_al_imp (fun x y z w => z (gt_mt_sw w)) n3)
  have c1 := gt_cV b v (gt_ls c r)
  have c2 := gt_cV v b c
  have z1 : gt_c b v b = 0 := by rw [gt_c_sw, gt_c_self]; rfl
  have z2 : gt_c v v b = 0 := gt_c_self
  have z3 : gt_c b b c = 0 := gt_c_self
  have z4 : gt_c v (gt_ls c r) v = 0 := by rw [gt_c_sw, gt_c_self]; rfl
  have z5 : gt_c b (gt_ls c r) v = -gt_c b v (gt_ls c r) := gt_c_sw
  have z6 : gt_V v b c = -gt_V b v c := gt_V_sw
  have nzα := gt_d_nz h3
  have nzd := gt_d_nz n1
  have nzd' := gt_d_nz (fun z => n1 z.symm)
  have nzβ := gt_d_nz m2.1
  generalize gt_d v (gt_ls c r) = α at *
  generalize gt_d b c = β at *
  have ud := gt_d_up n1
  generalize gt_d v b = d at *
  generalize gt_d b v = d' at *
  rw [z1, z2, z3, z4, z5]
  by_cases u : gt_up d
  · have f1 := gt_f_up (z := d) (b := α) u
    have f2 := gt_f_dn (z := d') (b := β) nzd' (ud.mp u)
    rw [f1] at c1
    rw [f2] at c2
    by_cases q : gt_lt d' β
    · rw [if_pos q] at c2 ⊢; omega
    · rw [if_neg q] at c2 ⊢; omega
  · have u' : gt_up d' := Classical.byContradiction (fun z => u (ud.mpr z))
    have f1 := gt_f_dn (z := d) (b := α) nzd u
    have f2 := gt_f_up (z := d') (b := β) u'
    rw [f1] at c1
    rw [f2] at c2
    have q1 : (if gt_lt α d then (1 : Int) else 0) = 1 - if gt_lt d α then 1 else 0 := by
      by_cases q : gt_lt d α
      · rw [if_pos q, if_neg (fun z => gt_lt_asym z q)]; rfl
      · rw [if_neg q, if_pos ((gt_lt_tri n2).resolve_right q)]; rfl
    have q2 : (if gt_lt d' β then (1 : Int) else 0) = 1 - if gt_lt β d' then 1 else 0 := by
      by_cases q : gt_lt β d'
      · rw [if_pos q, if_neg (fun z => gt_lt_asym z q)]; rfl
      · rw [if_neg q, if_pos ((gt_lt_tri m2.2).resolve_right q)]; rfl
    rw [q1, q2]
    by_cases q : gt_lt d α
    · rw [if_pos q] at c1 ⊢
      by_cases q' : gt_lt β d'
      · rw [if_pos q'] at c2 ⊢; omega
      · rw [if_neg q'] at c2 ⊢; omega
    · rw [if_neg q] at c1 ⊢
      by_cases q' : gt_lt β d'
      · rw [if_pos q'] at c2 ⊢; omega
      · rw [if_neg q'] at c2 ⊢; omega
