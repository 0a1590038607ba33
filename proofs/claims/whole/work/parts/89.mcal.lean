/-! THE MODEL: its calendar -/
/-- the model's tables -/
def cm_ok (M : e_M) : Prop := (∀ k, k < 640 → M 4457 k = (cal_yd k : Int)) ∧ ∀ l m, l < 2 → m < 13 → M 4458 (13 * l + m) = ((cal_mb m + (if l = 1 ∧ 2 ≤ m then 1 else 0) : Nat) : Int)
theorem cm_md {M : e_M} (h : cm_ok M) {y m : Nat} (hm : m < 13) : M 4458 ((if cal_lp y = true then 13 else 0) + m) = (cal_md y m : Int) := by
  by_cases c : cal_lp y = true
  · have := h.2 1 m (by omega) hm
    rw [if_pos c]
    rw [show 13 * 1 + m = 13 + m by omega] at this
    rw [this]
    unfold cal_md
    rw [c]
    by_cases c2 : 2 ≤ m
    · rw [if_pos ⟨rfl, c2⟩, show Nat.ble 2 m = true from Nat.ble_eq.mpr c2]; rfl
    · rw [if_neg (fun z => c2 z.2)]
      have : Nat.ble 2 m = false := by
        cases e : Nat.ble 2 m with
        | false => rfl
        | true => exact absurd (Nat.ble_eq.mp e) c2
      rw [this]; rfl
  · have := h.2 0 m (by omega) hm
    rw [if_neg c]
    rw [show 13 * 0 + m = 0 + m by omega] at this
    rw [this]
    unfold cal_md
    have c' : cal_lp y = false := by cases e : cal_lp y with
      | false => rfl
      | true => exact absurd e c
    rw [c', if_neg (by omega)]; rfl
theorem m_leaps {M : e_M} {y : Nat} {Q : Int → Prop} (q1 : cal_lp y = true → Q 1) (q0 : cal_lp y = false → Q 0) : WX12_leaps (1700 + y) M Q := by
  have no : ¬ ((1700 + y) % 4 = 0 ∧ ((1700 + y) % 100 ≠ 0 ∨ (1700 + y) % 400 = 0)) → Q 0 := fun z => q0 (by
    cases e : cal_lp y with
    | false => rfl
    | true => exact absurd (cal_lp_iff.mp e) z)
  have yes : ((1700 + y) % 4 = 0 ∧ ((1700 + y) % 100 ≠ 0 ∨ (1700 + y) % 400 = 0)) → Q 1 := fun z => q1 (cal_lp_iff.mpr z)
  unfold WX12_leaps VX12_leaps
  rw [Int.tmod_eq_emod_of_nonneg (by omega), Int.tmod_eq_emod_of_nonneg (by omega), Int.tmod_eq_emod_of_nonneg (by omega)]
  refine ⟨by decide, fun n4 => no (by omega), fun e4 => ⟨by decide, fun n100 => yes (by omega), fun e100 => ⟨by decide, fun n400 => no (by omega), fun e400 => yes (by omega)⟩⟩⟩
theorem m_leaps13 {M : e_M} {y : Nat} {Q : Int → Prop} (hq : ∀ r : Int, (r = 0 ↔ cal_lp y = false) → Q r) : WX12_leaps (1700 + y) M Q :=
  m_leaps (fun e => hq 1 ⟨fun z => by omega, fun z => by rw [e] at z; cases z⟩) (fun e => hq 0 ⟨fun _ => e, fun _ => rfl⟩)
theorem m_yearOf {M : e_M} {x y m d : Nat} {Q : Int → Prop} (h : cm_ok M) (hi : cal_is x y m d) (hx : x ≤ 219500) (hq : Q (1700 + y)) : WX12_yearOf x M Q := by
  have b := cal_is_b hi
  have hy : y < 602 := by
    by_cases c : y < 602
    · exact c
    · have := cal_yd_mono (show 602 ≤ y by omega)
      have e : cal_yd 602 = 219875 := by decide
      omega
  have h0 : x / 366 ≤ y := by
    by_cases c : x / 366 ≤ y
    · exact c
    · have key : ∀ n, cal_yd n ≤ 366 * n := by
        intro n
        induction n with
        | zero => decide
        | succ n ih => rw [cal_yd_succ]; split <;> omega
      have := key (x / 366)
      have := cal_yd_mono (show y + 1 ≤ x / 366 by omega)
      omega
  unfold WX12_yearOf VX12_yearOf
  refine ⟨by decide, ?_⟩
  rw [Int.tdiv_eq_ediv_of_nonneg (by omega), s_w (by omega) (by omega)]
  show ∃ j, WX12_yearOf_6 M Q j x ((x : Int) / 366)
  refine s_up (σ := Unit) (P := fun dd i _ => WX12_yearOf_6 M Q dd x i) (n := y) (i0 := (x : Int) / 366) (s := ()) (fun _ _ => True) (by omega) trivial ?_ ?_
  · intro d2 _ _
    unfold WX12_yearOf_6 VX12_yearOf_6
    rw [s_w (x := (y : Int) + 1) (by omega) (by omega), show ((y : Int) + 1).toNat = y + 1 by omega, h.1 (y + 1) (by omega), s_w (x := (y : Int) + 1700) (by omega) (by omega)]
    refine ⟨by omega, fun _ => ?_, fun z => by omega⟩
    rw [Int.add_comm]; exact hq
  · intro d2 i _ k1 k2 _ ih
    unfold WX12_yearOf_6 VX12_yearOf_6
    have m1 := cal_yd_mono (show i.toNat + 1 ≤ y by omega)
    rw [s_w (x := i + 1) (by omega) (by omega), show (i + 1).toNat = i.toNat + 1 by omega, h.1 (i.toNat + 1) (by omega)]
    exact ⟨by omega, fun z => by omega, fun _ => ih () trivial⟩
theorem m_monthOf {M : e_M} {x y m d : Nat} {Q : Int → Prop} (h : cm_ok M) (hi : cal_is x y m d) (hx : x ≤ 219500) (hq : Q (m + 1)) : WX12_monthOf x M Q := by
  have b := cal_is_b hi
  have hm := hi.1
  have hy : y < 602 := by
    by_cases c : y < 602
    · exact c
    · have := cal_yd_mono (show 602 ≤ y by omega)
      have e : cal_yd 602 = 219875 := by decide
      omega
  unfold WX12_monthOf VX12_monthOf
  refine m_yearOf h hi hx ?_
  rw [s_w (x := 1700 + (y : Int) - 1700) (by omega) (by omega), show (1700 + (y : Int) - 1700).toNat = y by omega, h.1 y (by omega)]
  refine ⟨by omega, fun y2 e2 => ?_⟩
  rw [s_w (by omega) (by omega)] at e2
  show ∃ j, WX12_monthOf_22 M Q j (1700 + (y : Int)) y2 1
  refine s_up (σ := Unit) (P := fun dd i _ => WX12_monthOf_22 M Q dd (1700 + (y : Int)) y2 i) (n := (m : Int) + 1) (i0 := 1) (s := ()) (fun _ _ => True) (by omega) trivial ?_ ?_
  · intro d2 _ _
    unfold WX12_monthOf_22 VX12_monthOf_22
    have go : WX12_monthOf_39 M (WX12_monthOf_22 M Q d2) Q (1700 + (y : Int)) y2 ((m : Int) + 1) (((if cal_lp y = true then 13 else 0 : Nat)) : Int) := by
      unfold WX12_monthOf_39 VX12_monthOf_39
      have e := cm_md h (y := y) (m := m + 1) (by omega)
      have bl : (if cal_lp y = true then 13 else 0 : Nat) ≤ 13 := by split <;> omega
      rw [s_w (by omega) (by omega), show ((((if cal_lp y = true then 13 else 0 : Nat)) : Int) + ((m : Int) + 1)).toNat = (if cal_lp y = true then 13 else 0) + (m + 1) by omega, e]
      exact ⟨by omega, fun _ => hq, fun z => by omega⟩
    refine m_leaps13 (fun r hr => ⟨fun z => ?_, fun z => ?_⟩)
    · rw [if_neg (by rw [hr.mp z]; exact Bool.false_ne_true)] at go; exact go
    · have : cal_lp y = true := by
        cases e : cal_lp y with
        | true => rfl
        | false => exact absurd (hr.mpr e) z
      rw [if_pos this] at go; exact go
  · intro d2 i _ k1 k2 _ ih
    unfold WX12_monthOf_22 VX12_monthOf_22
    have go : WX12_monthOf_39 M (WX12_monthOf_22 M Q d2) Q (1700 + (y : Int)) y2 i (((if cal_lp y = true then 13 else 0 : Nat)) : Int) := by
      unfold WX12_monthOf_39 VX12_monthOf_39
      have e := cm_md h (y := y) (m := i.toNat) (by omega)
      have bl : (if cal_lp y = true then 13 else 0 : Nat) ≤ 13 := by split <;> omega
      have mle := cal_md_le (y := y) (show i.toNat ≤ m by omega) (by omega)
      rw [s_w (x := (((if cal_lp y = true then 13 else 0 : Nat)) : Int) + i) (by omega) (by omega), show ((((if cal_lp y = true then 13 else 0 : Nat)) : Int) + i).toNat = (if cal_lp y = true then 13 else 0) + i.toNat by omega, e, s_w (x := i + 1) (by omega) (by omega)]
      exact ⟨by omega, fun z => by omega, fun _ => ih () trivial⟩
    refine m_leaps13 (fun r hr => ⟨fun z => ?_, fun z => ?_⟩)
    · rw [if_neg (by rw [hr.mp z]; exact Bool.false_ne_true)] at go; exact go
    · have : cal_lp y = true := by
        cases e : cal_lp y with
        | true => rfl
        | false => exact absurd (hr.mpr e) z
      rw [if_pos this] at go; exact go
theorem m_dateOf {M : e_M} {x y m d : Nat} {Q : Int → Prop} (h : cm_ok M) (hi : cal_is x y m d) (hx : x ≤ 219500) (hq : Q (d + 1)) : WX12_dateOf x M Q := by
  have b := cal_is_b hi
  have hm := hi.1
  have hd := cal_dim_le (y := y) hm
  have hi2 := hi.2.1
  have hi3 := hi.2.2
  have hy : y < 602 := by
    by_cases c : y < 602
    · exact c
    · have := cal_yd_mono (show 602 ≤ y by omega)
      have e : cal_yd 602 = 219875 := by decide
      omega
  unfold WX12_dateOf VX12_dateOf
  refine m_yearOf h hi hx ?_
  rw [s_w (x := 1700 + (y : Int) - 1700) (by omega) (by omega), show (1700 + (y : Int) - 1700).toNat = y by omega, h.1 y (by omega), s_w (x := (x : Int) - (cal_yd y : Int)) (by omega) (by omega)]
  refine ⟨by omega, ?_⟩
  have go : WX12_dateOf_35 M Q x (((if cal_lp y = true then 13 else 0 : Nat)) : Int) ((x : Int) - (cal_yd y : Int)) := by
    unfold WX12_dateOf_35 VX12_dateOf_35
    refine m_monthOf h hi hx ?_
    have e := cm_md h (y := y) (m := m) (by omega)
    have bl : (if cal_lp y = true then 13 else 0 : Nat) ≤ 13 := by split <;> omega
    rw [s_w (x := (((if cal_lp y = true then 13 else 0 : Nat)) : Int) + ((m : Int) + 1)) (by omega) (by omega), s_w (x := (((if cal_lp y = true then 13 else 0 : Nat)) : Int) + ((m : Int) + 1) - 1) (by omega) (by omega), show ((((if cal_lp y = true then 13 else 0 : Nat)) : Int) + ((m : Int) + 1) - 1).toNat = (if cal_lp y = true then 13 else 0) + m by omega, e, s_w (x := (x : Int) - (cal_yd y : Int) - (cal_md y m : Int)) (by omega) (by omega), s_w (by omega) (by omega)]
    refine ⟨by omega, ?_⟩
    rw [show (x : Int) - (cal_yd y : Int) - (cal_md y m : Int) + 1 = (d : Int) + 1 by omega]
    exact hq
  refine m_leaps13 (fun r hr => ⟨fun z => ?_, fun z => ?_⟩)
  · rw [if_neg (by rw [hr.mp z]; exact Bool.false_ne_true)] at go; exact go
  · have : cal_lp y = true := by
      cases e : cal_lp y with
      | true => rfl
      | false => exact absurd (hr.mpr e) z
    rw [if_pos this] at go; exact go
theorem m_dayOf {M : e_M} {y m d : Nat} {Q : Int → Prop} (h : cm_ok M) (hy : y < 640) (hm : m < 12) (hd : d < 99) (hq : Q ((cal_yd y + cal_md y m + d : Nat) : Int)) : WX12_dayOf (1700 + y) (m + 1) (d + 1) M Q := by
  have b1 : cal_yd y ≤ 240000 := by
    have := cal_yd_mono (show y ≤ 640 by omega)
    have e : cal_yd 640 = 233754 := by decide
    omega
  have b2 : cal_md y m ≤ 366 := by
    have := cal_md_le (y := y) (show m ≤ 12 by omega) (Nat.le_refl 12)
    rw [cal_md_12] at this
    split at this <;> omega
  unfold WX12_dayOf VX12_dayOf
  rw [s_w (x := 1700 + (y : Int) - 1700) (by omega) (by omega), show (1700 + (y : Int) - 1700).toNat = y by omega, h.1 y (by omega)]
  refine ⟨by omega, ?_⟩
  have go : WX12_dayOf_27 M Q ((m : Int) + 1) ((d : Int) + 1) (((if cal_lp y = true then 13 else 0 : Nat)) : Int) (cal_yd y : Int) := by
    unfold WX12_dayOf_27 VX12_dayOf_27
    have e := cm_md h (y := y) (m := m) (by omega)
    have bl : (if cal_lp y = true then 13 else 0 : Nat) ≤ 13 := by split <;> omega
    rw [s_w (x := (((if cal_lp y = true then 13 else 0 : Nat)) : Int) + ((m : Int) + 1)) (by omega) (by omega), s_w (x := (((if cal_lp y = true then 13 else 0 : Nat)) : Int) + ((m : Int) + 1) - 1) (by omega) (by omega), show ((((if cal_lp y = true then 13 else 0 : Nat)) : Int) + ((m : Int) + 1) - 1).toNat = (if cal_lp y = true then 13 else 0) + m by omega, e, s_w (x := (cal_yd y : Int) + (cal_md y m : Int)) (by omega) (by omega), s_w (x := (cal_yd y : Int) + (cal_md y m : Int) + ((d : Int) + 1)) (by omega) (by omega), s_w (by omega) (by omega)]
    refine ⟨by omega, ?_⟩
    rw [show (cal_yd y : Int) + (cal_md y m : Int) + ((d : Int) + 1) - 1 = ((cal_yd y + cal_md y m + d : Nat) : Int) by omega]
    exact hq
  refine m_leaps13 (fun r hr => ⟨fun z => ?_, fun z => ?_⟩)
  · rw [if_neg (by rw [hr.mp z]; exact Bool.false_ne_true)] at go; exact go
  · have : cal_lp y = true := by
      cases e : cal_lp y with
      | true => rfl
      | false => exact absurd (hr.mpr e) z
    rw [if_pos this] at go; exact go
theorem m_anniversary {M : e_M} {x y m d y' : Nat} {Q : Int → Prop} (h : cm_ok M) (hi : cal_is x y m d) (hx : x ≤ 219500) (hy : y' < 640) (hq : Q (cal_ann y' m d : Int)) : WX12_anniversary x (1700 + y') M Q := by
  have hd := cal_dim_le (y := y) hi.1
  have hi2 := hi.2.1
  unfold cal_ann at hq
  have k40 : ¬ (m = 1 ∧ d = 28 ∧ cal_lp y' = false) → WX12_anniversary_40 M Q (1700 + (y' : Int)) ((m : Int) + 1) ((d : Int) + 1) := by
    intro ne
    rw [if_neg ne] at hq
    unfold WX12_anniversary_40 VX12_anniversary_40
    exact m_dayOf h hy hi.1 (by omega) hq
  unfold WX12_anniversary VX12_anniversary
  refine m_monthOf h hi hx (m_dateOf h hi hx ⟨fun n2 => k40 (fun z => n2 (by omega)), fun e2 => ⟨fun n29 => k40 (fun z => n29 (by omega)), fun e29 => m_leaps13 (fun r hr => ⟨fun nz => k40 (fun z => nz (hr.mpr z.2.2)), fun ez => ?_⟩)⟩⟩)
  rw [if_pos ⟨by omega, by omega, hr.mp ez⟩] at hq
  exact m_dayOf (m := 2) (d := 0) h hy (by omega) (by omega) (by rw [Nat.add_zero]; exact hq)
theorem m_fullYears {M : e_M} {x y m d x' y' m' d' : Nat} {Q : Int → Prop} (h : cm_ok M) (hi : cal_is x y m d) (hi' : cal_is x' y' m' d') (hx : x ≤ x') (hx' : x' ≤ 219144) (hq : Q (cal_yrs x x')) : WX12_fullYears x x' M Q := by
  have b := cal_is_b hi
  have b' := cal_is_b hi'
  have hy600 : y' < 600 := by
    by_cases c : y' < 600
    · exact c
    · have := cal_yd_mono (show 600 ≤ y' by omega)
      have e : cal_yd 600 = 219145 := by decide
      omega
  have hyy : y ≤ y' := by
    by_cases c : y ≤ y'
    · exact c
    · have := cal_yd_mono (show y' + 1 ≤ y by omega); omega
  rw [cal_yrs_ok hi hi' hx hx'] at hq
  unfold WX12_fullYears VX12_fullYears
  refine m_yearOf h hi' (by omega) (m_yearOf h hi (by omega) (m_anniversary h hi (by omega) (by omega) ?_))
  rw [s_w (x := 1700 + (y' : Int) - (1700 + (y : Int))) (by omega) (by omega)]
  unfold WX12_fullYears_28 VX12_fullYears_28
  refine ⟨fun le => ?_, fun lt => ?_⟩
  · rw [if_neg (by omega)] at hq
    rw [s_w (by omega) (by omega), show 1700 + (y' : Int) - (1700 + (y : Int)) - 0 = (y' : Int) - y - 0 by omega]; exact hq
  · rw [if_pos (by omega)] at hq
    rw [s_w (by omega) (by omega), show 1700 + (y' : Int) - (1700 + (y : Int)) - 1 = (y' : Int) - y - 1 by omega]; exact hq
