/-! the calendar -/
def cal_all (f : Nat → Bool) (n : Nat) : Bool := Nat.rec true (fun k b => cond (f k) b false) n
theorem cal_all_at {f : Nat → Bool} : ∀ {n : Nat}, cal_all f n = true → ∀ k, k < n → f k = true
  | 0, _, k, hk => by omega
  | n + 1, h, k, hk => by
    have h2 : cond (f n) (cal_all f n) false = true := h
    cases e : f n with
    | false => rw [e] at h2; cases h2
    | true =>
      rw [e] at h2
      by_cases c : k = n
      · rw [c]; exact e
      · exact cal_all_at h2 k (by omega)
def cal_lp (y : Nat) : Bool := Nat.beq ((1700 + y) % 4) 0 && (!(Nat.beq ((1700 + y) % 100) 0) || Nat.beq ((1700 + y) % 400) 0)
theorem cal_lp_iff {y : Nat} : cal_lp y = true ↔ (1700 + y) % 4 = 0 ∧ ((1700 + y) % 100 ≠ 0 ∨ (1700 + y) % 400 = 0) := by
  unfold cal_lp
  rw [Bool.and_eq_true, Bool.or_eq_true, Nat.beq_eq, Nat.beq_eq, Bool.not_eq_true', ← Bool.not_eq_true, Nat.beq_eq]
/-- days ahead of a year, from 1700 on -/
def cal_yd (y : Nat) : Nat := 365 * y + ((1699 + y) / 4 - (1699 + y) / 100 + (1699 + y) / 400) - 412
def cal_mb (m : Nat) : Nat := x_get 0 [0, 31, 59, 90, 120, 151, 181, 212, 243, 273, 304, 334, 365] m
/-- days of a year ahead of a month -/
def cal_md (y m : Nat) : Nat := cal_mb m + cond (cal_lp y) (cond (Nat.ble 2 m) 1 0) 0
def cal_dim (y m : Nat) : Nat := cal_md y (m + 1) - cal_md y m
theorem cal_mb_v : cal_mb 0 = 0 ∧ cal_mb 1 = 31 ∧ cal_mb 2 = 59 ∧ cal_mb 3 = 90 ∧ cal_mb 4 = 120 ∧ cal_mb 5 = 151 ∧ cal_mb 6 = 181 ∧ cal_mb 7 = 212 ∧ cal_mb 8 = 243 ∧ cal_mb 9 = 273 ∧ cal_mb 10 = 304 ∧ cal_mb 11 = 334 ∧ cal_mb 12 = 365 := ⟨rfl, rfl, rfl, rfl, rfl, rfl, rfl, rfl, rfl, rfl, rfl, rfl, rfl⟩
/-- a DAY is that date (month and date from 0 on) -/
def cal_is (day y m d : Nat) : Prop := m < 12 ∧ d < cal_dim y m ∧ day = cal_yd y + cal_md y m + d
theorem cal_yd_succ {y : Nat} : cal_yd (y + 1) = cal_yd y + (if cal_lp y = true then 366 else 365) := by
  have a4 : (1699 + (y + 1)) / 4 = (1699 + y) / 4 + (if (1700 + y) % 4 = 0 then 1 else 0) := by split <;> omega
  have a100 : (1699 + (y + 1)) / 100 = (1699 + y) / 100 + (if (1700 + y) % 100 = 0 then 1 else 0) := by split <;> omega
  have a400 : (1699 + (y + 1)) / 400 = (1699 + y) / 400 + (if (1700 + y) % 400 = 0 then 1 else 0) := by split <;> omega
  have b1 : (1699 + y) / 100 + 408 ≤ (1699 + y) / 4 := by omega
  have b2 : 4 ≤ (1699 + y) / 400 := by omega
  unfold cal_yd
  rw [a4, a100, a400]
  generalize (1699 + y) / 4 = q4 at *
  generalize (1699 + y) / 100 = q100 at *
  generalize (1699 + y) / 400 = q400 at *
  clear a4 a100 a400
  by_cases c : cal_lp y = true
  · rw [if_pos c]
    obtain ⟨c1, c2⟩ := cal_lp_iff.mp c
    rw [if_pos c1]
    rcases c2 with c2 | c2
    · rw [if_neg c2, if_neg (fun z => c2 (by omega))]; omega
    · have c3 : (1700 + y) % 100 = 0 := by omega
      rw [if_pos c3, if_pos c2]; omega
  · rw [if_neg c]
    rw [cal_lp_iff] at c
    by_cases c1 : (1700 + y) % 4 = 0
    · have c3 : (1700 + y) % 100 = 0 := Decidable.byContradiction (fun n => c ⟨c1, Or.inl n⟩)
      have c4 : (1700 + y) % 400 ≠ 0 := fun n => c ⟨c1, Or.inr n⟩
      rw [if_pos c1, if_pos c3, if_neg c4]; omega
    · have c3 : ¬ (1700 + y) % 100 = 0 := by omega
      have c4 : ¬ (1700 + y) % 400 = 0 := by omega
      rw [if_neg c1, if_neg c3, if_neg c4]; omega
theorem cal_yd_mono {a b : Nat} (h : a ≤ b) : cal_yd a + 365 * (b - a) ≤ cal_yd b := by
  induction b with
  | zero => have : a = 0 := by omega
            subst this; omega
  | succ b ih =>
    by_cases e : a = b + 1
    · subst e; omega
    · have := ih (by omega)
      rw [cal_yd_succ]
      split <;> omega
theorem cal_md_12 {y : Nat} : cal_md y 12 = if cal_lp y = true then 366 else 365 := by
  unfold cal_md
  cases cal_lp y <;> rfl
theorem cal_md_mono {y : Nat} : ∀ m, m < 12 → cal_md y m + 28 ≤ cal_md y (m + 1) ∧ cal_md y (m + 1) ≤ cal_md y m + 31 := by
  intro m hm
  unfold cal_md
  have cs : m = 0 ∨ m = 1 ∨ m = 2 ∨ m = 3 ∨ m = 4 ∨ m = 5 ∨ m = 6 ∨ m = 7 ∨ m = 8 ∨ m = 9 ∨ m = 10 ∨ m = 11 := by omega
  cases cal_lp y <;> rcases cs with e | e | e | e | e | e | e | e | e | e | e | e <;> subst e <;> decide
theorem cal_md_le {y a b : Nat} (h : a ≤ b) (hb : b ≤ 12) : cal_md y a ≤ cal_md y b := by
  induction b with
  | zero => rw [Nat.le_zero.mp h]; exact Nat.le_refl _
  | succ b ih =>
    by_cases e : a = b + 1
    · rw [e]; exact Nat.le_refl _
    · have := ih (by omega) (by omega)
      have := (cal_md_mono (y := y) b (by omega)).1
      omega
theorem cal_ex_m {y k : Nat} (h : k < cal_md y 12) : ∃ m d, m < 12 ∧ d < cal_dim y m ∧ k = cal_md y m + d := by
  have key : ∀ n, n ≤ 12 → k < cal_md y n → ∃ m d, m < 12 ∧ d < cal_dim y m ∧ k = cal_md y m + d := by
    intro n
    induction n with
    | zero =>
      intro _ h0
      have : cal_md y 0 = 0 := by unfold cal_md; cases cal_lp y <;> rfl
      omega
    | succ n ih =>
      intro hn h1
      by_cases c : k < cal_md y n
      · exact ih (by omega) c
      · exact ⟨n, k - cal_md y n, by omega, by unfold cal_dim; omega, by omega⟩
  exact key 12 (Nat.le_refl _) h
theorem cal_ex {day : Nat} : ∃ y m d, cal_is day y m d := by
  have key : ∀ n, day < cal_yd n → ∃ y m d, cal_is day y m d := by
    intro n
    induction n with
    | zero =>
      intro h
      have : cal_yd 0 = 0 := by decide
      omega
    | succ n ih =>
      intro h
      by_cases c : day < cal_yd n
      · exact ih c
      · rw [cal_yd_succ] at h
        obtain ⟨m, d, h1, h2, h3⟩ := cal_ex_m (y := n) (k := day - cal_yd n) (by rw [cal_md_12]; omega)
        exact ⟨n, m, d, h1, h2, by omega⟩
  refine key (day + 1) ?_
  have := cal_yd_mono (Nat.zero_le (day + 1))
  omega
theorem cal_is_b {day y m d : Nat} (h : cal_is day y m d) : cal_yd y ≤ day ∧ day < cal_yd (y + 1) ∧ cal_md y m ≤ day - cal_yd y ∧ day - cal_yd y < cal_md y (m + 1) := by
  obtain ⟨h1, h2, h3⟩ := h
  unfold cal_dim at h2
  have a1 := cal_md_le (y := y) (show m + 1 ≤ 12 by omega) (Nat.le_refl 12)
  rw [cal_md_12] at a1
  rw [cal_yd_succ]
  generalize (if cal_lp y = true then 366 else 365) = Z at a1 ⊢
  exact ⟨by omega, by omega, by omega, by omega⟩
theorem cal_is_un {day y m d y' m' d' : Nat} (h : cal_is day y m d) (h' : cal_is day y' m' d') : y = y' ∧ m = m' ∧ d = d' := by
  have b := cal_is_b h
  have b' := cal_is_b h'
  have e : y = y' := by
    rcases Nat.lt_trichotomy y y' with c | c | c
    · have := cal_yd_mono (show y + 1 ≤ y' by omega); omega
    · exact c
    · have := cal_yd_mono (show y' + 1 ≤ y by omega); omega
  subst e
  have e2 : m = m' := by
    rcases Nat.lt_trichotomy m m' with c | c | c
    · have := cal_md_le (y := y) (show m + 1 ≤ m' by omega) (by have := h'.1; omega); omega
    · exact c
    · have := cal_md_le (y := y) (show m' + 1 ≤ m by omega) (by have := h.1; omega); omega
  subst e2
  exact ⟨rfl, rfl, by have := h.2.2; have := h'.2.2; omega⟩
