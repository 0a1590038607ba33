/-! the calendar: the class's date of a DAY -/
def cal_f (t : Nat) : Nat := t - t / 1460 + t / 36524 - t / 146096
theorem cal_f_step {t : Nat} : cal_f t ≤ cal_f (t + 1) := by
  unfold cal_f
  have a : t / 1460 ≤ t := Nat.div_le_self _ _
  have a1 : (t + 1) / 1460 = t / 1460 ∨ ((t + 1) / 1460 = t / 1460 + 1) := by omega
  have b : (t + 1) / 36524 = t / 36524 ∨ ((t + 1) / 36524 = t / 36524 + 1) := by omega
  have c : (t + 1) / 146096 = t / 146096 ∨ ((t + 1) / 146096 = t / 146096 + 1 ∧ (t + 1) / 36524 = t / 36524 + 1) := by omega
  have d : t / 146096 ≤ t / 36524 := Nat.div_le_div_left (by decide) (by decide)
  have d1 : (t + 1) / 146096 ≤ (t + 1) / 36524 := Nat.div_le_div_left (by decide) (by decide)
  generalize (t + 1) / 1460 = a' at *
  generalize (t + 1) / 36524 = b' at *
  generalize (t + 1) / 146096 = c' at *
  generalize t / 1460 = a0 at *
  generalize t / 36524 = b0 at *
  generalize t / 146096 = c0 at *
  omega
theorem cal_f_mono {s t : Nat} (h : s ≤ t) : cal_f s ≤ cal_f t := by
  induction t with
  | zero => rw [Nat.le_zero.mp h]; exact Nat.le_refl _
  | succ t ih =>
    by_cases e : s = t + 1
    · rw [e]; exact Nat.le_refl _
    · exact Nat.le_trans (ih (by omega)) cal_f_step
def cal_lq (q : Nat) : Nat := cond (Nat.beq (q % 4) 0 && (!(Nat.beq (q % 100) 0) || Nat.beq (q % 400) 0)) 1 0
def cal_s (yo : Nat) : Nat := 365 * yo + yo / 4 - yo / 100
def cal_ck (yo : Nat) : Bool := Nat.beq (cal_f (cal_s yo) / 365) yo && Nat.beq (cal_f (cal_s yo + (364 + cal_lq (yo + 1))) / 365) yo
theorem cal_k : cal_all cal_ck 400 = true := by decide +kernel
theorem cal_y3_ok {yo doy : Nat} (h : yo < 400) (hd : doy ≤ 364 + cal_lq (yo + 1)) : cal_y3 (cal_s yo + doy) = yo := by
  have z := cal_all_at cal_k yo h
  unfold cal_ck at z
  rw [Bool.and_eq_true, Nat.beq_eq, Nat.beq_eq] at z
  have m1 := Nat.div_le_div_right (c := 365) (cal_f_mono (show cal_s yo ≤ cal_s yo + doy by omega))
  have m2 := Nat.div_le_div_right (c := 365) (cal_f_mono (show cal_s yo + doy ≤ cal_s yo + (364 + cal_lq (yo + 1)) by omega))
  show cal_f (cal_s yo + doy) / 365 = yo
  rw [z.1] at m1
  rw [z.2] at m2
  exact Nat.le_antisymm m2 m1
theorem cal_lq_b {q : Nat} : cal_lq q ≤ 1 := by
  unfold cal_lq
  cases (Nat.beq (q % 4) 0 && (!(Nat.beq (q % 100) 0) || Nat.beq (q % 400) 0)) <;> decide
theorem cal_go {x : Int} {n e yo mp d : Nat} (hx : e_w32 (x + 620853) = (n : Int)) (hb : n ≤ 1000000) (hn : n = 146097 * e + (cal_s yo + ((153 * mp + 2) / 5 + d))) (h0 : yo < 400) (hm : mp ≤ 11) (hd : (153 * mp + 2) / 5 + d ≤ 364 + cal_lq (yo + 1)) (hd2 : (153 * mp + 2) / 5 + d < (153 * (mp + 1) + 2) / 5) : cal_of x = ((cal_fin e yo ((153 * mp + 2) / 5 + d) mp : Nat) : Int) := by
  have lq := cal_lq_b (q := yo + 1)
  have r : cal_s yo + ((153 * mp + 2) / 5 + d) < 146097 := by
    have s : cal_s yo ≤ 145731 := by unfold cal_s; omega
    omega
  have d1 : n / 146097 = e := by
    generalize cal_s yo + ((153 * mp + 2) / 5 + d) = t at *
    omega
  have d2 : n % 146097 = cal_s yo + ((153 * mp + 2) / 5 + d) := by
    generalize cal_s yo + ((153 * mp + 2) / 5 + d) = t at *
    omega
  refine cal_core (k := 0) hx hb ?_
  rw [d1, d2]
  have e5 : cal_y5 ((153 * mp + 2) / 5 + d) = mp := by
    unfold cal_y5
    have cs : mp = 0 ∨ mp = 1 ∨ mp = 2 ∨ mp = 3 ∨ mp = 4 ∨ mp = 5 ∨ mp = 6 ∨ mp = 7 ∨ mp = 8 ∨ mp = 9 ∨ mp = 10 ∨ mp = 11 := by omega
    rcases cs with e | e | e | e | e | e | e | e | e | e | e | e <;> subst e <;> omega
  have y3 := cal_y3_ok h0 hd
  have lo : (153 * mp + 2) / 5 ≤ (153 * mp + 2) / 5 + d := by omega
  generalize (153 * mp + 2) / 5 + d = doy at *
  have e4 : cal_y4 (cal_s yo + doy) yo = doy := by unfold cal_y4 cal_s; omega
  have le1 : yo * 365 + yo / 4 - yo / 100 ≤ cal_s yo + doy := by unfold cal_s; omega
  unfold cal_c1 cal_c2 cal_c3 cal_c4
  rw [y3, e4, e5, Bool.and_eq_true, Bool.and_eq_true, Bool.and_eq_true, Nat.ble_eq, Nat.ble_eq, Nat.ble_eq, Nat.beq_eq]
  exact ⟨le1, lo, hm, rfl⟩
theorem cal_yd_412 {y : Nat} : cal_yd y + 412 = 365 * y + ((1699 + y) / 4 - (1699 + y) / 100 + (1699 + y) / 400) := by
  have b1 : (1699 + y) / 100 + 408 ≤ (1699 + y) / 4 := by omega
  have b2 : 4 ≤ (1699 + y) / 400 := by omega
  unfold cal_yd
  generalize (1699 + y) / 4 = q4 at *
  generalize (1699 + y) / 100 = q100 at *
  generalize (1699 + y) / 400 = q400 at *
  omega
/-- days ahead of a year that begins with March -/
theorem cal_sY {Y : Nat} : 365 * Y + (Y / 4 - Y / 100 + Y / 400) = 146097 * (Y / 400) + cal_s (Y % 400) := by
  have h4 : Y / 4 = 100 * (Y / 400) + (Y % 400) / 4 := by omega
  have h100 : Y / 100 = 4 * (Y / 400) + (Y % 400) / 100 := by omega
  have hY : Y = 400 * (Y / 400) + Y % 400 := by omega
  have hb : (Y % 400) / 100 ≤ (Y % 400) / 4 := Nat.div_le_div_left (by decide) (by decide)
  unfold cal_s
  rw [h4, h100]
  generalize Y / 400 = e at *
  generalize Y % 400 = r at *
  generalize r / 4 = r4 at *
  generalize r / 100 = r100 at *
  subst hY
  omega
def cal_L (y : Nat) : Nat := cond (cal_lp y) 1 0
theorem cal_mar {y x doy : Nat} (hx : x = cal_yd y + cal_L y + 59 + doy) : x + 620853 = 146097 * ((1700 + y) / 400) + (cal_s ((1700 + y) % 400) + doy) := by
  have ys : cal_yd (y + 1) = cal_yd y + 365 + cal_L y := by
    have e : (if cal_lp y = true then 366 else 365) = 365 + cal_L y := by
      unfold cal_L
      cases cal_lp y <;> decide
    rw [cal_yd_succ, e]
    exact (Nat.add_assoc _ _ _).symm
  have y1 := cal_yd_412 (y := y + 1)
  rw [show 1699 + (y + 1) = 1700 + y by omega] at y1
  have sy := cal_sY (Y := 1700 + y)
  generalize (1700 + y) / 4 - (1700 + y) / 100 + (1700 + y) / 400 = Q at *
  generalize 146097 * ((1700 + y) / 400) = A at *
  generalize cal_s ((1700 + y) % 400) = B at *
  omega
theorem cal_jan {y x k : Nat} (hx : x = cal_yd y + k) : x + 620853 = 146097 * ((1699 + y) / 400) + (cal_s ((1699 + y) % 400) + (306 + k)) := by
  have y1 := cal_yd_412 (y := y)
  have sy := cal_sY (Y := 1699 + y)
  generalize (1699 + y) / 4 - (1699 + y) / 100 + (1699 + y) / 400 = Q at *
  generalize 146097 * ((1699 + y) / 400) = A at *
  generalize cal_s ((1699 + y) % 400) = B at *
  omega
theorem cal_L_q {y : Nat} : cal_L y ≤ cal_lq ((1699 + y) % 400 + 1) := by
  unfold cal_L
  cases h : cal_lp y with
  | false => exact Nat.zero_le _
  | true =>
    obtain ⟨c1, c2⟩ := cal_lp_iff.mp h
    unfold cal_lq
    have e1 : Nat.beq (((1699 + y) % 400 + 1) % 4) 0 = true := by rw [Nat.beq_eq]; omega
    have e2 : (!(Nat.beq (((1699 + y) % 400 + 1) % 100) 0) || Nat.beq (((1699 + y) % 400 + 1) % 400) 0) = true := by
      rw [Bool.or_eq_true, Bool.not_eq_true', ← Bool.not_eq_true, Nat.beq_eq, Nat.beq_eq]
      rcases c2 with c2 | c2
      · left; omega
      · right; omega
    rw [e1, e2]
    decide
theorem cal_L_b {y : Nat} : cal_L y ≤ 1 := by unfold cal_L; cases cal_lp y <;> decide
/-- the class's date of a DAY -/
theorem cal_date {x y m d : Nat} (h : cal_is x y m d) (hx : x ≤ 219500) : cal_of x = (cal_enc y m d : Int) := by
  obtain ⟨hm, hdm, hxx⟩ := h
  unfold cal_dim at hdm
  have lb := cal_L_b (y := y)
  have lq := cal_L_q (y := y)
  have h0 : (1700 + y) % 400 < 400 := Nat.mod_lt _ (by decide)
  have h1 : (1699 + y) % 400 < 400 := Nat.mod_lt _ (by decide)
  have hw : e_w32 ((x : Int) + 620853) = ((x + 620853 : Nat) : Int) := by rw [s_w (by omega) (by omega)]; rfl
  have a0 : (1700 + y) % 400 + (1700 + y) / 400 * 400 = 1700 + y := by omega
  have a1 : (1699 + y) % 400 + (1699 + y) / 400 * 400 = 1699 + y := by omega
  have z0 : cal_md y 0 = 0 := by unfold cal_md; cases cal_lp y <;> rfl
  have z1 : cal_md y 1 = 31 := by unfold cal_md; cases cal_lp y <;> rfl
  have cs : m = 0 ∨ m = 1 ∨ m = 2 ∨ m = 3 ∨ m = 4 ∨ m = 5 ∨ m = 6 ∨ m = 7 ∨ m = 8 ∨ m = 9 ∨ m = 10 ∨ m = 11 := by omega
  rcases cs with e | e | e | e | e | e | e | e | e | e | e | e
  · subst e
    rw [z0] at hdm hxx
    rw [z1] at hdm
    have g := cal_jan (y := y) (x := x) (k := 0 + d) (by omega)
    have oo : (153 * 10 + 2) / 5 = 306 := rfl
    have on : (153 * (10 + 1) + 2) / 5 = 337 := rfl
    rw [show 306 + (0 + d) = 306 + d by omega] at g
    have r := cal_go (mp := 10) (d := d) hw (by omega) (by rw [oo]; exact g) h1 (by omega) (by rw [oo]; omega) (by rw [oo, on]; omega)
    rw [oo] at r
    refine r.trans (congrArg Int.ofNat ?_)
    show ((1699 + y) % 400 + (1699 + y) / 400 * 400 + 1) * 10000 + (10 - 9) * 100 + (306 + d - (153 * 10 + 2) / 5 + 1) = (1700 + y) * 10000 + (0 + 1) * 100 + (d + 1)
    rw [oo, a1]
    omega
  · subst e
    have en : cal_md y 2 = 59 + cal_L y := rfl
    rw [z1] at hdm hxx
    rw [en] at hdm
    have g := cal_jan (y := y) (x := x) (k := 31 + d) (by omega)
    have oo : (153 * 11 + 2) / 5 = 337 := rfl
    have on : (153 * (11 + 1) + 2) / 5 = 367 := rfl
    rw [show 306 + (31 + d) = 337 + d by omega] at g
    have r := cal_go (mp := 11) (d := d) hw (by omega) (by rw [oo]; exact g) h1 (by omega) (by rw [oo]; omega) (by rw [oo, on]; omega)
    rw [oo] at r
    refine r.trans (congrArg Int.ofNat ?_)
    show ((1699 + y) % 400 + (1699 + y) / 400 * 400 + 1) * 10000 + (11 - 9) * 100 + (337 + d - (153 * 11 + 2) / 5 + 1) = (1700 + y) * 10000 + (1 + 1) * 100 + (d + 1)
    rw [oo, a1]
    omega
  · subst e
    have em : cal_md y 2 = 59 + cal_L y := rfl
    have en : cal_md y (2 + 1) = 90 + cal_L y := rfl
    rw [en] at hdm
    rw [em] at hdm hxx
    have g := cal_mar (y := y) (x := x) (doy := 0 + d) (by omega)
    have oo : (153 * 0 + 2) / 5 = 0 := rfl
    have on : (153 * (0 + 1) + 2) / 5 = 31 := rfl
    have r := cal_go (mp := 0) (d := d) hw (by omega) (by rw [oo]; exact g) h0 (by omega) (by rw [oo]; omega) (by rw [oo, on]; omega)
    rw [oo] at r
    refine r.trans (congrArg Int.ofNat ?_)
    show ((1700 + y) % 400 + (1700 + y) / 400 * 400 + 0) * 10000 + (0 + 3) * 100 + (0 + d - (153 * 0 + 2) / 5 + 1) = (1700 + y) * 10000 + (2 + 1) * 100 + (d + 1)
    rw [oo]
    omega
  · subst e
    have em : cal_md y 3 = 90 + cal_L y := rfl
    have en : cal_md y (3 + 1) = 120 + cal_L y := rfl
    rw [en] at hdm
    rw [em] at hdm hxx
    have g := cal_mar (y := y) (x := x) (doy := 31 + d) (by omega)
    have oo : (153 * 1 + 2) / 5 = 31 := rfl
    have on : (153 * (1 + 1) + 2) / 5 = 61 := rfl
    have r := cal_go (mp := 1) (d := d) hw (by omega) (by rw [oo]; exact g) h0 (by omega) (by rw [oo]; omega) (by rw [oo, on]; omega)
    rw [oo] at r
    refine r.trans (congrArg Int.ofNat ?_)
    show ((1700 + y) % 400 + (1700 + y) / 400 * 400 + 0) * 10000 + (1 + 3) * 100 + (31 + d - (153 * 1 + 2) / 5 + 1) = (1700 + y) * 10000 + (3 + 1) * 100 + (d + 1)
    rw [oo]
    omega
  · subst e
    have em : cal_md y 4 = 120 + cal_L y := rfl
    have en : cal_md y (4 + 1) = 151 + cal_L y := rfl
    rw [en] at hdm
    rw [em] at hdm hxx
    have g := cal_mar (y := y) (x := x) (doy := 61 + d) (by omega)
    have oo : (153 * 2 + 2) / 5 = 61 := rfl
    have on : (153 * (2 + 1) + 2) / 5 = 92 := rfl
    have r := cal_go (mp := 2) (d := d) hw (by omega) (by rw [oo]; exact g) h0 (by omega) (by rw [oo]; omega) (by rw [oo, on]; omega)
    rw [oo] at r
    refine r.trans (congrArg Int.ofNat ?_)
    show ((1700 + y) % 400 + (1700 + y) / 400 * 400 + 0) * 10000 + (2 + 3) * 100 + (61 + d - (153 * 2 + 2) / 5 + 1) = (1700 + y) * 10000 + (4 + 1) * 100 + (d + 1)
    rw [oo]
    omega
  · subst e
    have em : cal_md y 5 = 151 + cal_L y := rfl
    have en : cal_md y (5 + 1) = 181 + cal_L y := rfl
    rw [en] at hdm
    rw [em] at hdm hxx
    have g := cal_mar (y := y) (x := x) (doy := 92 + d) (by omega)
    have oo : (153 * 3 + 2) / 5 = 92 := rfl
    have on : (153 * (3 + 1) + 2) / 5 = 122 := rfl
    have r := cal_go (mp := 3) (d := d) hw (by omega) (by rw [oo]; exact g) h0 (by omega) (by rw [oo]; omega) (by rw [oo, on]; omega)
    rw [oo] at r
    refine r.trans (congrArg Int.ofNat ?_)
    show ((1700 + y) % 400 + (1700 + y) / 400 * 400 + 0) * 10000 + (3 + 3) * 100 + (92 + d - (153 * 3 + 2) / 5 + 1) = (1700 + y) * 10000 + (5 + 1) * 100 + (d + 1)
    rw [oo]
    omega
  · subst e
    have em : cal_md y 6 = 181 + cal_L y := rfl
    have en : cal_md y (6 + 1) = 212 + cal_L y := rfl
    rw [en] at hdm
    rw [em] at hdm hxx
    have g := cal_mar (y := y) (x := x) (doy := 122 + d) (by omega)
    have oo : (153 * 4 + 2) / 5 = 122 := rfl
    have on : (153 * (4 + 1) + 2) / 5 = 153 := rfl
    have r := cal_go (mp := 4) (d := d) hw (by omega) (by rw [oo]; exact g) h0 (by omega) (by rw [oo]; omega) (by rw [oo, on]; omega)
    rw [oo] at r
    refine r.trans (congrArg Int.ofNat ?_)
    show ((1700 + y) % 400 + (1700 + y) / 400 * 400 + 0) * 10000 + (4 + 3) * 100 + (122 + d - (153 * 4 + 2) / 5 + 1) = (1700 + y) * 10000 + (6 + 1) * 100 + (d + 1)
    rw [oo]
    omega
  · subst e
    have em : cal_md y 7 = 212 + cal_L y := rfl
    have en : cal_md y (7 + 1) = 243 + cal_L y := rfl
    rw [en] at hdm
    rw [em] at hdm hxx
    have g := cal_mar (y := y) (x := x) (doy := 153 + d) (by omega)
    have oo : (153 * 5 + 2) / 5 = 153 := rfl
    have on : (153 * (5 + 1) + 2) / 5 = 184 := rfl
    have r := cal_go (mp := 5) (d := d) hw (by omega) (by rw [oo]; exact g) h0 (by omega) (by rw [oo]; omega) (by rw [oo, on]; omega)
    rw [oo] at r
    refine r.trans (congrArg Int.ofNat ?_)
    show ((1700 + y) % 400 + (1700 + y) / 400 * 400 + 0) * 10000 + (5 + 3) * 100 + (153 + d - (153 * 5 + 2) / 5 + 1) = (1700 + y) * 10000 + (7 + 1) * 100 + (d + 1)
    rw [oo]
    omega
  · subst e
    have em : cal_md y 8 = 243 + cal_L y := rfl
    have en : cal_md y (8 + 1) = 273 + cal_L y := rfl
    rw [en] at hdm
    rw [em] at hdm hxx
    have g := cal_mar (y := y) (x := x) (doy := 184 + d) (by omega)
    have oo : (153 * 6 + 2) / 5 = 184 := rfl
    have on : (153 * (6 + 1) + 2) / 5 = 214 := rfl
    have r := cal_go (mp := 6) (d := d) hw (by omega) (by rw [oo]; exact g) h0 (by omega) (by rw [oo]; omega) (by rw [oo, on]; omega)
    rw [oo] at r
    refine r.trans (congrArg Int.ofNat ?_)
    show ((1700 + y) % 400 + (1700 + y) / 400 * 400 + 0) * 10000 + (6 + 3) * 100 + (184 + d - (153 * 6 + 2) / 5 + 1) = (1700 + y) * 10000 + (8 + 1) * 100 + (d + 1)
    rw [oo]
    omega
  · subst e
    have em : cal_md y 9 = 273 + cal_L y := rfl
    have en : cal_md y (9 + 1) = 304 + cal_L y := rfl
    rw [en] at hdm
    rw [em] at hdm hxx
    have g := cal_mar (y := y) (x := x) (doy := 214 + d) (by omega)
    have oo : (153 * 7 + 2) / 5 = 214 := rfl
    have on : (153 * (7 + 1) + 2) / 5 = 245 := rfl
    have r := cal_go (mp := 7) (d := d) hw (by omega) (by rw [oo]; exact g) h0 (by omega) (by rw [oo]; omega) (by rw [oo, on]; omega)
    rw [oo] at r
    refine r.trans (congrArg Int.ofNat ?_)
    show ((1700 + y) % 400 + (1700 + y) / 400 * 400 + 0) * 10000 + (7 + 3) * 100 + (214 + d - (153 * 7 + 2) / 5 + 1) = (1700 + y) * 10000 + (9 + 1) * 100 + (d + 1)
    rw [oo]
    omega
  · subst e
    have em : cal_md y 10 = 304 + cal_L y := rfl
    have en : cal_md y (10 + 1) = 334 + cal_L y := rfl
    rw [en] at hdm
    rw [em] at hdm hxx
    have g := cal_mar (y := y) (x := x) (doy := 245 + d) (by omega)
    have oo : (153 * 8 + 2) / 5 = 245 := rfl
    have on : (153 * (8 + 1) + 2) / 5 = 275 := rfl
    have r := cal_go (mp := 8) (d := d) hw (by omega) (by rw [oo]; exact g) h0 (by omega) (by rw [oo]; omega) (by rw [oo, on]; omega)
    rw [oo] at r
    refine r.trans (congrArg Int.ofNat ?_)
    show ((1700 + y) % 400 + (1700 + y) / 400 * 400 + 0) * 10000 + (8 + 3) * 100 + (245 + d - (153 * 8 + 2) / 5 + 1) = (1700 + y) * 10000 + (10 + 1) * 100 + (d + 1)
    rw [oo]
    omega
  · subst e
    have em : cal_md y 11 = 334 + cal_L y := rfl
    have en : cal_md y (11 + 1) = 365 + cal_L y := rfl
    rw [en] at hdm
    rw [em] at hdm hxx
    have g := cal_mar (y := y) (x := x) (doy := 275 + d) (by omega)
    have oo : (153 * 9 + 2) / 5 = 275 := rfl
    have on : (153 * (9 + 1) + 2) / 5 = 306 := rfl
    have r := cal_go (mp := 9) (d := d) hw (by omega) (by rw [oo]; exact g) h0 (by omega) (by rw [oo]; omega) (by rw [oo, on]; omega)
    rw [oo] at r
    refine r.trans (congrArg Int.ofNat ?_)
    show ((1700 + y) % 400 + (1700 + y) / 400 * 400 + 0) * 10000 + (9 + 3) * 100 + (275 + d - (153 * 9 + 2) / 5 + 1) = (1700 + y) * 10000 + (11 + 1) * 100 + (d + 1)
    rw [oo]
    omega
