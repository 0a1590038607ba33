/-! the calendar: the class's words and whole numbers -/
/-- the class's way, in whole numbers from 0 on -/
def cal_y2 (x : Nat) : Nat := (x + 620853) % 146097
def cal_y3 (y2 : Nat) : Nat := (y2 - y2 / 1460 + y2 / 36524 - y2 / 146096) / 365
def cal_y4 (y2 y3 : Nat) : Nat := y2 - (y3 * 365 + y3 / 4 - y3 / 100)
def cal_y5 (y4 : Nat) : Nat := (5 * y4 + 2) / 153
def cal_fin (y1 y3 y4 y5 : Nat) : Nat := (y3 + y1 * 400 + cond (Nat.ble 10 y5) 1 0) * 10000 + cond (Nat.ble 10 y5) (y5 - 9) (y5 + 3) * 100 + (y4 - (153 * y5 + 2) / 5 + 1)
def cal_c4 (x y1 y2 y3 y4 y5 v : Nat) : Bool := Nat.ble (y3 * 365 + y3 / 4 - y3 / 100) y2 && (Nat.ble ((153 * y5 + 2) / 5) y4 && (Nat.ble y5 11 && Nat.beq (cal_fin y1 y3 y4 y5) v))
def cal_c3 (x y1 y2 y3 y4 v : Nat) : Bool := cal_c4 x y1 y2 y3 y4 (cal_y5 y4) v
def cal_c2 (x y1 y2 y3 v : Nat) : Bool := cal_c3 x y1 y2 y3 (cal_y4 y2 y3) v
def cal_c1 (x y1 y2 v : Nat) : Bool := cal_c2 x y1 y2 (cal_y3 y2) v
def cal_chk (x v : Nat) : Bool := cal_c1 x ((x + 620853) / 146097) (cal_y2 x) v
def cal_enc (y m d : Nat) : Nat := (1700 + y) * 10000 + (m + 1) * 100 + (d + 1)
theorem cal_b1 {n : Nat} (hn : n ≤ 1000000) : e_w32 ((n : Int).tdiv 146097) = ((n / 146097 : Nat) : Int) := by
  have e : (n : Int) / 146097 = ((n / 146097 : Nat) : Int) := rfl
  have b : n / 146097 ≤ n := Nat.div_le_self _ _
  rw [Int.tdiv_eq_ediv_of_nonneg (Int.natCast_nonneg n), e]
  generalize n / 146097 = q at *
  exact s_w (by omega) (by omega)
theorem cal_b2 {n y1 y2 : Nat} (h : n = y1 * 146097 + y2) (hb : n ≤ 1000000) : e_w32 ((n : Int) - e_w32 ((y1 : Int) * 146097)) = (y2 : Int) := by
  have e : (n : Int) = (y1 : Int) * 146097 + (y2 : Int) := by rw [h]; rfl
  generalize (n : Int) = N at *
  have p : 0 ≤ (y1 : Int) * 146097 ∧ (y1 : Int) * 146097 ≤ 1000000 := by omega
  rw [s_w (x := (y1 : Int) * 146097) (by omega) (by omega), s_w (by omega) (by omega)]
  omega
theorem cal_b3 {y2 : Nat} (h : y2 < 146097) : e_w32 ((e_w32 ((e_w32 ((e_w32 ((y2 : Int) - (e_w32 ((y2 : Int).tdiv 1460)))) + (e_w32 ((y2 : Int).tdiv 36524)))) - (e_w32 ((y2 : Int).tdiv 146096)))).tdiv 365) = ((cal_y3 y2 : Nat) : Int) := by
  have ea : (y2 : Int) / 1460 = ((y2 / 1460 : Nat) : Int) := rfl
  have eb : (y2 : Int) / 36524 = ((y2 / 36524 : Nat) : Int) := rfl
  have ec : (y2 : Int) / 146096 = ((y2 / 146096 : Nat) : Int) := rfl
  have ba : y2 / 1460 ≤ y2 := Nat.div_le_self _ _
  have bb : y2 / 36524 ≤ y2 := Nat.div_le_self _ _
  have bc : y2 / 146096 ≤ y2 / 36524 := Nat.div_le_div_left (by decide) (by decide)
  rw [Int.tdiv_eq_ediv_of_nonneg (a := (y2 : Int)) (Int.natCast_nonneg y2), Int.tdiv_eq_ediv_of_nonneg (a := (y2 : Int)) (Int.natCast_nonneg y2), Int.tdiv_eq_ediv_of_nonneg (a := (y2 : Int)) (Int.natCast_nonneg y2), ea, eb, ec]
  unfold cal_y3
  generalize y2 / 1460 = a at *
  generalize y2 / 36524 = b at *
  generalize y2 / 146096 = c at *
  have e : (y2 : Int) - (a : Int) + (b : Int) - (c : Int) = ((y2 - a + b - c : Nat) : Int) := by omega
  have bt : y2 - a + b - c ≤ 300000 := by omega
  rw [s_w (x := (a : Int)) (by omega) (by omega), s_w (x := (b : Int)) (by omega) (by omega), s_w (x := (c : Int)) (by omega) (by omega), s_w (x := (y2 : Int) - (a : Int)) (by omega) (by omega), s_w (x := (y2 : Int) - (a : Int) + (b : Int)) (by omega) (by omega), s_w (x := (y2 : Int) - (a : Int) + (b : Int) - (c : Int)) (by omega) (by omega), e, Int.tdiv_eq_ediv_of_nonneg (Int.natCast_nonneg _)]
  generalize y2 - a + b - c = t at *
  have et : (t : Int) / 365 = ((t / 365 : Nat) : Int) := rfl
  have bt2 : t / 365 ≤ t := Nat.div_le_self _ _
  rw [et]
  generalize t / 365 = q at *
  exact s_w (by omega) (by omega)
theorem cal_b3b {y2 : Nat} (h : y2 < 146097) : cal_y3 y2 ≤ 1000 := by
  unfold cal_y3
  have bb : y2 / 36524 ≤ y2 := Nat.div_le_self _ _
  generalize y2 / 1460 = a at *
  generalize y2 / 36524 = b at *
  generalize y2 / 146096 = c at *
  omega
theorem cal_b4 {y2 y3 : Nat} (h : y2 < 146097) (h3 : y3 ≤ 1000) (hl : y3 * 365 + y3 / 4 - y3 / 100 ≤ y2) : e_w32 ((y2 : Int) - (e_w32 ((e_w32 ((e_w32 ((y3 : Int) * 365)) + (e_w32 ((y3 : Int).tdiv 4)))) - (e_w32 ((y3 : Int).tdiv 100))))) = ((cal_y4 y2 y3 : Nat) : Int) := by
  have ea : (y3 : Int) / 4 = ((y3 / 4 : Nat) : Int) := rfl
  have eb : (y3 : Int) / 100 = ((y3 / 100 : Nat) : Int) := rfl
  have ba : y3 / 4 ≤ y3 := Nat.div_le_self _ _
  have bb : y3 / 100 ≤ y3 := Nat.div_le_self _ _
  rw [Int.tdiv_eq_ediv_of_nonneg (a := (y3 : Int)) (Int.natCast_nonneg y3), Int.tdiv_eq_ediv_of_nonneg (a := (y3 : Int)) (Int.natCast_nonneg y3), ea, eb]
  unfold cal_y4
  generalize y3 / 4 = a at *
  generalize y3 / 100 = b at *
  rw [s_w (x := (y3 : Int) * 365) (by omega) (by omega), s_w (x := (a : Int)) (by omega) (by omega), s_w (x := (b : Int)) (by omega) (by omega), s_w (x := (y3 : Int) * 365 + (a : Int)) (by omega) (by omega), s_w (x := (y3 : Int) * 365 + (a : Int) - (b : Int)) (by omega) (by omega), s_w (by omega) (by omega)]
  omega
theorem cal_b5 {y4 : Nat} (h : y4 < 146097) : e_w32 ((e_w32 ((e_w32 (5 * (y4 : Int))) + 2)).tdiv 153) = ((cal_y5 y4 : Nat) : Int) := by
  have e : 5 * (y4 : Int) + 2 = ((5 * y4 + 2 : Nat) : Int) := by omega
  have b : (5 * y4 + 2) / 153 ≤ 5 * y4 + 2 := Nat.div_le_self _ _
  rw [s_w (x := 5 * (y4 : Int)) (by omega) (by omega), s_w (x := 5 * (y4 : Int) + 2) (by omega) (by omega), e, Int.tdiv_eq_ediv_of_nonneg (Int.natCast_nonneg _)]
  unfold cal_y5
  have bt : 5 * y4 + 2 ≤ 1000000 := by omega
  generalize 5 * y4 + 2 = t at *
  have et : (t : Int) / 153 = ((t / 153 : Nat) : Int) := rfl
  rw [et]
  generalize t / 153 = q at *
  exact s_w (by omega) (by omega)
theorem cal_b6 {y4 y5 : Nat} (h : y4 < 146097) (h5 : y5 ≤ 11) (hl : (153 * y5 + 2) / 5 ≤ y4) : e_w32 ((e_w32 ((y4 : Int) - (e_w32 ((e_w32 ((e_w32 (153 * (y5 : Int))) + 2)).tdiv 5)))) + 1) = ((y4 - (153 * y5 + 2) / 5 + 1 : Nat) : Int) := by
  have e : 153 * (y5 : Int) + 2 = ((153 * y5 + 2 : Nat) : Int) := by omega
  have et : ((153 * y5 + 2 : Nat) : Int) / 5 = (((153 * y5 + 2) / 5 : Nat) : Int) := rfl
  rw [s_w (x := 153 * (y5 : Int)) (by omega) (by omega), s_w (x := 153 * (y5 : Int) + 2) (by omega) (by omega), e, Int.tdiv_eq_ediv_of_nonneg (Int.natCast_nonneg _), et]
  generalize (153 * y5 + 2) / 5 = q at *
  rw [s_w (x := (q : Int)) (by omega) (by omega), s_w (x := (y4 : Int) - (q : Int)) (by omega) (by omega), s_w (by omega) (by omega)]
  omega
theorem cal_b7 {y1 y3 y5 z : Nat} (h1 : y1 ≤ 100) (h3 : y3 ≤ 1000) (h5 : y5 ≤ 11) (hz : z ≤ 146097) : e_w32 ((e_w32 ((e_w32 ((e_w32 ((e_w32 ((y3 : Int) + (e_w32 ((y1 : Int) * 400)))) + (if 3 ≤ (if 10 ≤ (y5 : Int) then e_w32 ((y5 : Int) - 9) else e_w32 ((y5 : Int) + 3)) then 0 else 1))) * 10000)) + (e_w32 ((if 10 ≤ (y5 : Int) then e_w32 ((y5 : Int) - 9) else e_w32 ((y5 : Int) + 3)) * 100)))) + (z : Int)) = (((y3 + y1 * 400 + cond (Nat.ble 10 y5) 1 0) * 10000 + cond (Nat.ble 10 y5) (y5 - 9) (y5 + 3) * 100 + z : Nat) : Int) := by
  rw [s_w (x := (y1 : Int) * 400) (by omega) (by omega), s_w (x := (y3 : Int) + (y1 : Int) * 400) (by omega) (by omega)]
  by_cases c : 10 ≤ y5
  · have c2 : Nat.ble 10 y5 = true := Nat.ble_eq.mpr c
    rw [c2, if_pos (show (10 : Int) ≤ (y5 : Int) by omega), s_w (x := (y5 : Int) - 9) (by omega) (by omega), if_neg (show ¬ (3 : Int) ≤ (y5 : Int) - 9 by omega)]
    rw [s_w (x := (y3 : Int) + (y1 : Int) * 400 + 1) (by omega) (by omega), s_w (x := ((y3 : Int) + (y1 : Int) * 400 + 1) * 10000) (by omega) (by omega), s_w (x := ((y5 : Int) - 9) * 100) (by omega) (by omega), s_w (x := ((y3 : Int) + (y1 : Int) * 400 + 1) * 10000 + ((y5 : Int) - 9) * 100) (by omega) (by omega), s_w (by omega) (by omega)]
    show _ = (((y3 + y1 * 400 + 1) * 10000 + (y5 - 9) * 100 + z : Nat) : Int)
    omega
  · have c2 : Nat.ble 10 y5 = false := by
      cases e : Nat.ble 10 y5 with
      | false => rfl
      | true => exact absurd (Nat.ble_eq.mp e) c
    rw [c2, if_neg (show ¬ (10 : Int) ≤ (y5 : Int) by omega), s_w (x := (y5 : Int) + 3) (by omega) (by omega), if_pos (show (3 : Int) ≤ (y5 : Int) + 3 by omega)]
    rw [s_w (x := (y3 : Int) + (y1 : Int) * 400 + 0) (by omega) (by omega), s_w (x := ((y3 : Int) + (y1 : Int) * 400 + 0) * 10000) (by omega) (by omega), s_w (x := ((y5 : Int) + 3) * 100) (by omega) (by omega), s_w (x := ((y3 : Int) + (y1 : Int) * 400 + 0) * 10000 + ((y5 : Int) + 3) * 100) (by omega) (by omega), s_w (by omega) (by omega)]
    show _ = (((y3 + y1 * 400 + 0) * 10000 + (y5 + 3) * 100 + z : Nat) : Int)
    omega
theorem cal_core {x : Int} {n v k : Nat} (hn : e_w32 (x + 620853) = (n : Int)) (hb : n ≤ 1000000) (h : cal_c1 k (n / 146097) (n % 146097) v = true) : cal_of x = v := by
  have k1 : n / 146097 ≤ 100 := by omega
  have k2 : n % 146097 < 146097 := Nat.mod_lt _ (by decide)
  have k12 : n = n / 146097 * 146097 + n % 146097 := by omega
  have e1 := cal_b1 hb
  have e2 := cal_b2 k12 hb
  unfold cal_of
  dsimp only
  rw [hn, e1, e2]
  clear e1 e2 k12 hn
  generalize n / 146097 = y1 at *
  generalize n % 146097 = y2 at *
  rw [cal_b3 k2]
  unfold cal_c1 cal_c2 at h
  have b3 := cal_b3b k2
  generalize cal_y3 y2 = y3 at *
  unfold cal_c3 cal_c4 at h
  rw [Bool.and_eq_true, Bool.and_eq_true, Bool.and_eq_true, Nat.ble_eq, Nat.ble_eq, Nat.ble_eq, Nat.beq_eq] at h
  obtain ⟨h1, h2, h3, h4⟩ := h
  rw [cal_b4 k2 b3 h1]
  have b4 : cal_y4 y2 y3 < 146097 := by unfold cal_y4; omega
  generalize cal_y4 y2 y3 = y4 at *
  rw [cal_b5 b4]
  generalize cal_y5 y4 = y5 at *
  rw [cal_b6 b4 h3 h2]
  unfold cal_fin at h4
  generalize hz : y4 - (153 * y5 + 2) / 5 + 1 = z at *
  have bz : z ≤ 146097 := by omega
  rw [cal_b7 k1 b3 h3 bz, h4]
theorem cal_chk_ok {x v : Nat} (hx : x ≤ 300000) (h : cal_chk x v = true) : cal_of x = v := by
  unfold cal_chk cal_y2 at h
  exact cal_core (n := x + 620853) (by rw [s_w (by omega) (by omega)]; rfl) (by omega) h
