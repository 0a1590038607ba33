/-! the calendar: what both sides make of it -/
theorem cal_dim_le {y m : Nat} (hm : m < 12) : cal_dim y m ≤ 31 ∧ 28 ≤ cal_dim y m := by
  have := cal_md_mono (y := y) m hm
  unfold cal_dim
  omega
theorem cal_enc_un {y m d y' m' d' : Nat} (hm : m < 12) (hm' : m' < 12) (hd : d < 99) (hd' : d' < 99) (h : cal_enc y m d = cal_enc y' m' d') : y = y' ∧ m = m' ∧ d = d' := by
  unfold cal_enc at h
  omega
theorem cal_mdv {y : Nat} : cal_md y 0 = 0 ∧ cal_md y 1 = 31 ∧ ∀ m, 2 ≤ m → cal_md y m = cal_mb m + (if cal_lp y = true then 1 else 0) := by
  refine ⟨?_, ?_, fun m hm => ?_⟩
  · unfold cal_md; cases cal_lp y <;> rfl
  · unfold cal_md; cases cal_lp y <;> rfl
  · unfold cal_md
    rw [show Nat.ble 2 m = true from Nat.ble_eq.mpr hm]
    cases cal_lp y <;> rfl
theorem cal_form {y m d : Nat} (hy : y < 600) (hm : m < 12) (hd : d < 99) : ((if m < 2 then (1699 + y : Int) else 1700 + y) * 365 + (if m < 2 then (1699 + y : Int) else 1700 + y) / 4 - (if m < 2 then (1699 + y : Int) else 1700 + y) / 100 + (if m < 2 then (1699 + y : Int) else 1700 + y) / 400 + (153 * (if m < 2 then (m : Int) + 10 else (m : Int) - 2) + 2) / 5 + ((d : Int) + 1) - 1 - 620853) = ((cal_yd y + cal_md y m + d : Nat) : Int) := by
  obtain ⟨v0, v1, v2, v3, v4, v5, v6, v7, v8, v9, v10, v11, v12⟩ := cal_mb_v
  obtain ⟨d0, d1, d2⟩ := cal_mdv (y := y)
  have cs : m = 0 ∨ m = 1 ∨ m = 2 ∨ m = 3 ∨ m = 4 ∨ m = 5 ∨ m = 6 ∨ m = 7 ∨ m = 8 ∨ m = 9 ∨ m = 10 ∨ m = 11 := by omega
  have ey : cal_yd y = 365 * y + ((1699 + y) / 4 - (1699 + y) / 100 + (1699 + y) / 400) - 412 := rfl
  have big : ∀ k : Nat, 2 ≤ k → k = m → ∀ b : Nat, cal_mb k = b → ∀ c : Int, (153 * ((k : Int) - 2) + 2) / 5 = c → c = (b : Int) - 59 → ((if m < 2 then (1699 + y : Int) else 1700 + y) * 365 + (if m < 2 then (1699 + y : Int) else 1700 + y) / 4 - (if m < 2 then (1699 + y : Int) else 1700 + y) / 100 + (if m < 2 then (1699 + y : Int) else 1700 + y) / 400 + (153 * (if m < 2 then (m : Int) + 10 else (m : Int) - 2) + 2) / 5 + ((d : Int) + 1) - 1 - 620853) = ((cal_yd y + cal_md y m + d : Nat) : Int) := by
    intro k k2 ek b eb c ec e59
    subst ek
    rw [d2 k k2, eb, if_neg (by omega), if_neg (by omega), ec, e59, ey]
    by_cases lp : cal_lp y = true
    · rw [if_pos lp]
      rw [cal_lp_iff] at lp
      omega
    · rw [if_neg lp]
      rw [cal_lp_iff] at lp
      omega
  rcases cs with e | e | e | e | e | e | e | e | e | e | e | e
  · subst e; rw [d0, ey, if_pos (by omega), if_pos (by omega)]; omega
  · subst e; rw [d1, ey, if_pos (by omega), if_pos (by omega)]; omega
  · exact big 2 (by omega) e.symm 59 v2 0 (by decide) (by decide)
  · exact big 3 (by omega) e.symm 90 v3 31 (by decide) (by decide)
  · exact big 4 (by omega) e.symm 120 v4 61 (by decide) (by decide)
  · exact big 5 (by omega) e.symm 151 v5 92 (by decide) (by decide)
  · exact big 6 (by omega) e.symm 181 v6 122 (by decide) (by decide)
  · exact big 7 (by omega) e.symm 212 v7 153 (by decide) (by decide)
  · exact big 8 (by omega) e.symm 243 v8 184 (by decide) (by decide)
  · exact big 9 (by omega) e.symm 273 v9 214 (by decide) (by decide)
  · exact big 10 (by omega) e.symm 304 v10 245 (by decide) (by decide)
  · exact big 11 (by omega) e.symm 334 v11 275 (by decide) (by decide)
theorem cal_day60_ok {y m d : Nat} (hy : y < 600) (hm : m < 12) (hd : d < 99) {x3 xs0 : Int} (e3 : x3 = if m < 2 then (1699 + y : Int) else 1700 + y) (e0 : xs0 = if m < 2 then (m : Int) + 10 else (m : Int) - 2) : cal_day60 (1700 + y) (m + 1) (d + 1) x3 xs0 = if d < cal_dim y m then ((cal_yd y + cal_md y m + d : Nat) : Int) else -1 := by
  have hf := cal_form hy hm hd
  rw [← e3, ← e0] at hf
  have b3 : 1699 ≤ x3 ∧ x3 ≤ 2299 := by rw [e3]; split <;> omega
  have b0 : 0 ≤ xs0 ∧ xs0 ≤ 11 := by rw [e0]; split <;> omega
  have by1 : cal_yd y ≤ 218780 := by
    have := cal_yd_mono (show y ≤ 599 by omega)
    have e : cal_yd 599 = 218780 := by decide
    omega
  have bm : cal_md y m ≤ 366 := by
    have := cal_md_le (y := y) (show m ≤ 12 by omega) (Nat.le_refl 12)
    rw [cal_md_12] at this
    split at this <;> omega
  unfold cal_day60
  dsimp only
  rw [s_w (x := x3 * 365) (by omega) (by omega), Int.tdiv_eq_ediv_of_nonneg (a := x3) (by omega), Int.tdiv_eq_ediv_of_nonneg (a := x3) (by omega), Int.tdiv_eq_ediv_of_nonneg (a := x3) (by omega), s_w (x := x3 / 4) (by omega) (by omega), s_w (x := x3 / 100) (by omega) (by omega), s_w (x := x3 / 400) (by omega) (by omega), s_w (x := 153 * xs0) (by omega) (by omega), s_w (x := 153 * xs0 + 2) (by omega) (by omega), Int.tdiv_eq_ediv_of_nonneg (a := 153 * xs0 + 2) (by omega), s_w (x := (153 * xs0 + 2) / 5) (by omega) (by omega), s_w (x := x3 * 365 + x3 / 4) (by omega) (by omega), s_w (x := x3 * 365 + x3 / 4 - x3 / 100) (by omega) (by omega), s_w (x := x3 * 365 + x3 / 4 - x3 / 100 + x3 / 400) (by omega) (by omega), s_w (x := x3 * 365 + x3 / 4 - x3 / 100 + x3 / 400 + (153 * xs0 + 2) / 5) (by omega) (by omega), s_w (x := x3 * 365 + x3 / 4 - x3 / 100 + x3 / 400 + (153 * xs0 + 2) / 5 + ((d : Int) + 1)) (by omega) (by omega), s_w (x := x3 * 365 + x3 / 4 - x3 / 100 + x3 / 400 + (153 * xs0 + 2) / 5 + ((d : Int) + 1) - 1) (by omega) (by omega), s_w (x := x3 * 365 + x3 / 4 - x3 / 100 + x3 / 400 + (153 * xs0 + 2) / 5 + ((d : Int) + 1) - 1 - 620853) (by omega) (by omega), hf]
  rw [s_w (x := (1700 + (y : Int)) * 10000) (by omega) (by omega), s_w (x := ((m : Int) + 1) * 100) (by omega) (by omega), s_w (x := (1700 + (y : Int)) * 10000 + ((m : Int) + 1) * 100) (by omega) (by omega), s_w (by omega) (by omega)]
  have een : (1700 + (y : Int)) * 10000 + ((m : Int) + 1) * 100 + ((d : Int) + 1) = ((cal_enc y m d : Nat) : Int) := by unfold cal_enc; omega
  rw [een]
  generalize hx : cal_yd y + cal_md y m + d = x at *
  obtain ⟨y', m', d', hi⟩ := cal_ex (day := x)
  rw [cal_date hi (by omega)]
  by_cases c : d < cal_dim y m
  · rw [if_pos c]
    obtain ⟨e1, e2, e3⟩ := cal_is_un hi ⟨hm, c, hx.symm⟩
    rw [e1, e2, e3, if_pos rfl]
  · rw [if_neg c, if_neg (fun z => ?_)]
    have z2 : cal_enc y' m' d' = cal_enc y m d := by omega
    have bd := cal_dim_le (y := y') hi.1
    obtain ⟨e1, e2, e3⟩ := cal_enc_un hi.1 hm (by have := hi.2.1; omega) hd z2
    have := hi.2.1
    rw [e1, e2, e3] at this
    exact c this
theorem cal_day_ok {y m d : Nat} (hy : y < 600) (hm : m < 12) (hd : d < 99) : cal_day (1700 + y) (m + 1) (d + 1) = if d < cal_dim y m then ((cal_yd y + cal_md y m + d : Nat) : Int) else -1 := by
  unfold cal_day
  rw [if_neg (by omega), if_neg (by omega), if_neg (by omega), if_neg (by omega), if_neg (by omega)]
  refine cal_day60_ok hy hm hd ?_ ?_
  · by_cases c : m < 2
    · rw [if_pos (by omega), if_pos c, s_w (by omega) (by omega)]; omega
    · rw [if_neg (by omega), if_neg c]
  · by_cases c : m < 2
    · rw [if_pos (by omega), if_pos c, s_w (by omega) (by omega)]; omega
    · rw [if_neg (by omega), if_neg c, s_w (by omega) (by omega)]; omega
/-- a birthday in a year -/
def cal_ann (y m d : Nat) : Nat := if m = 1 ∧ d = 28 ∧ cal_lp y = false then cal_yd y + cal_md y 2 else cal_yd y + cal_md y m + d
theorem cal_dim_v {y y' m : Nat} (hm : m < 12) : cal_dim y m = cal_dim y' m ∨ m = 1 := by
  by_cases c : m = 1
  · exact Or.inr c
  · left
    unfold cal_dim
    obtain ⟨a0, a1, a2⟩ := cal_mdv (y := y)
    obtain ⟨b0, b1, b2⟩ := cal_mdv (y := y')
    by_cases c0 : m = 0
    · subst c0; rw [a0, a1, b0, b1]
    · rw [a2 m (by omega), a2 (m + 1) (by omega), b2 m (by omega), b2 (m + 1) (by omega)]
      omega
theorem cal_dim_1 {y : Nat} : cal_dim y 1 = if cal_lp y = true then 29 else 28 := by
  unfold cal_dim
  obtain ⟨a0, a1, a2⟩ := cal_mdv (y := y)
  rw [a1, a2 2 (by omega), cal_mb_v.2.2.1]
  split <;> omega
/-- whether a birthday's date is there in a year -/
theorem cal_ann_valid {y y' m d : Nat} (hm : m < 12) (hd : d < cal_dim y m) : ¬ d < cal_dim y' m ↔ m = 1 ∧ d = 28 ∧ cal_lp y' = false := by
  rcases cal_dim_v (y := y) (y' := y') hm with e | e
  · rw [← e]
    constructor
    · exact fun h => absurd hd h
    · rintro ⟨rfl, rfl, h⟩
      rw [cal_dim_1] at e
      rw [cal_dim_1] at e hd
      rw [h, if_neg Bool.false_ne_true] at e
      rw [e] at hd
      omega
  · subst e
    rw [cal_dim_1] at hd ⊢
    cases h : cal_lp y' with
    | true =>
      rw [if_pos rfl]
      constructor
      · intro z; split at hd <;> omega
      · rintro ⟨_, _, z⟩; cases z
    | false =>
      rw [if_neg Bool.false_ne_true]
      constructor
      · intro z; refine ⟨rfl, ?_, rfl⟩; split at hd <;> omega
      · rintro ⟨_, z, _⟩; omega
theorem cal_dec {E y m d : Nat} (hE : E = (1700 + y) * 10000 + (m + 1) * 100 + (d + 1)) (hm : m < 12) (hd : d < 99) (hy : y ≤ 700) : e_w32 ((E : Int).tdiv 10000) = 1700 + (y : Int) ∧ (e_w32 ((E : Int).tdiv 100)).tmod 100 = (m : Int) + 1 ∧ (E : Int).tmod 100 = (d : Int) + 1 := by
  have a : E / 10000 = 1700 + y := by omega
  have b : E / 100 = (1700 + y) * 100 + (m + 1) := by omega
  have c : E % 100 = d + 1 := by omega
  clear hE
  have ea : (E : Int) / 10000 = ((E / 10000 : Nat) : Int) := rfl
  have eb : (E : Int) / 100 = ((E / 100 : Nat) : Int) := rfl
  have ec : (E : Int) % 100 = ((E % 100 : Nat) : Int) := rfl
  rw [Int.tdiv_eq_ediv_of_nonneg (Int.natCast_nonneg E), Int.tdiv_eq_ediv_of_nonneg (Int.natCast_nonneg E), Int.tmod_eq_emod_of_nonneg (a := (E : Int)) (Int.natCast_nonneg E), ea, eb, ec, a, b, c]
  clear a b c ea eb ec
  refine ⟨?_, ?_, ?_⟩
  · rw [s_w (by omega) (by omega)]; omega
  · generalize ht : (1700 + y) * 100 + (m + 1) = t
    have et : (t : Int) % 100 = ((t % 100 : Nat) : Int) := rfl
    have em : t % 100 = m + 1 := by omega
    have bt : t ≤ 1000000 := by omega
    clear ht
    rw [s_w (by omega) (by omega), Int.tmod_eq_emod_of_nonneg (Int.natCast_nonneg t), et, em]
    omega
  · omega
theorem cal_full_ok {x y m d : Nat} (h : cal_is x y m d) (hx : x ≤ 219144) : cal_full x = if y + 18 < 600 then (cal_ann (y + 18) m d : Int) else 1000000 := by
  have b := cal_is_b h
  have hy : y < 600 := by
    by_cases c : y < 600
    · exact c
    · have := cal_yd_mono (show 600 ≤ y by omega)
      have e : cal_yd 600 = 219145 := by decide
      omega
  have hd31 := cal_dim_le (y := y) h.1
  have hd := h.2.1
  have hm := h.1
  unfold cal_full
  dsimp only
  rw [cal_date h (by omega)]
  obtain ⟨p1, p2, p3⟩ := cal_dec (E := cal_enc y m d) rfl h.1 (by omega) (by omega)
  rw [p1, p2, p3]
  clear p1 p2 p3
  have e1 : e_w32 (1700 + (y : Int) + 18) = 1700 + ((y + 18 : Nat) : Int) := by
    rw [s_w (by omega) (by omega)]
    omega
  rw [e1]
  clear e1
  by_cases c : y + 18 < 600
  · rw [if_pos c, cal_day_ok c h.1 (by omega)]
    by_cases v : d < cal_dim (y + 18) m
    · rw [if_pos v]
      have nv : ¬ (m = 1 ∧ d = 28 ∧ cal_lp (y + 18) = false) := fun z => (cal_ann_valid h.1 hd).mpr z v
      unfold cal_ann
      rw [if_neg nv, if_pos (by omega), if_pos (by omega)]
    · have nv := (cal_ann_valid (y := y) (y' := y + 18) h.1 hd).mp v
      have e31 := cal_day_ok (m := 2) (d := 0) c (by omega) (by omega)
      rw [if_pos (show 0 < cal_dim (y + 18) 2 by have := (cal_dim_le (y := y + 18) (show 2 < 12 by omega)).2; omega)] at e31
      rw [if_neg v, if_neg (show ¬ (0 : Int) ≤ -1 by omega)]
      unfold cal_ann
      rw [if_pos nv]
      have e31' : cal_day (1700 + ((y + 18 : Nat) : Int)) 3 1 = ((cal_yd (y + 18) + cal_md (y + 18) 2 + 0 : Nat) : Int) := e31
      rw [e31', if_pos (by omega)]
      omega
  · rw [if_neg c]
    have f : ∀ a b : Int, cal_day (1700 + ((y + 18 : Nat) : Int)) a b = -1 := by
      intro a b
      unfold cal_day
      rw [if_neg (by omega), if_pos (by omega)]
    rw [f, f, if_neg (show ¬ (0 : Int) ≤ -1 by omega), if_neg (show ¬ (0 : Int) ≤ -1 by omega)]
theorem cal_yrs_ok {x y m d x' y' m' d' : Nat} (h : cal_is x y m d) (h' : cal_is x' y' m' d') (hx : x ≤ x') (hx' : x' ≤ 219144) : cal_yrs x x' = (y' : Int) - y - (if x' < cal_ann y' m d then 1 else 0) := by
  have b := cal_is_b h
  have b' := cal_is_b h'
  have hd31 := cal_dim_le (y := y) h.1
  have hd31' := cal_dim_le (y := y') h'.1
  have hd := h.2.1
  have hd' := h'.2.1
  have hyy : y ≤ y' := by
    by_cases c : y ≤ y'
    · exact c
    · have := cal_yd_mono (show y' + 1 ≤ y by omega); omega
  have hy600 : y' < 600 := by
    by_cases c : y' < 600
    · exact c
    · have := cal_yd_mono (show 600 ≤ y' by omega)
      have e : cal_yd 600 = 219145 := by decide
      omega
  have hmm' := h'.1
  have hmm := h.1
  have mono : y = y' → m < m' ∨ (m = m' ∧ d ≤ d') := by
    intro e
    subst e
    rcases Nat.lt_trichotomy m m' with c | c | c
    · exact Or.inl c
    · subst c
      have := h.2.2; have := h'.2.2
      exact Or.inr ⟨rfl, by omega⟩
    · have := cal_md_le (y := y) (show m' + 1 ≤ m by omega) (by omega); omega
  unfold cal_yrs
  rw [cal_date h (by omega), cal_date h' (by omega)]
  have cmp : x' < cal_ann y' m d ↔ (m' < m ∨ (m' = m ∧ d' < d)) := by
    unfold cal_ann
    have e' := h'.2.2
    by_cases nv : m = 1 ∧ d = 28 ∧ cal_lp y' = false
    · rw [if_pos nv]
      obtain ⟨n1, n2, n3⟩ := nv
      subst n1
      subst n2
      have d1 := cal_dim_1 (y := y')
      rw [n3, if_neg Bool.false_ne_true] at d1
      constructor
      · intro z
        by_cases c : m' < 2
        · by_cases c0 : m' = 0
          · exact Or.inl (by omega)
          · have : m' = 1 := by omega
            subst this
            exact Or.inr ⟨rfl, by omega⟩
        · have := cal_md_le (y := y') (show 2 ≤ m' by omega) (by omega); omega
      · intro z
        have hle := cal_md_le (y := y') (show m' + 1 ≤ 2 by omega) (by omega)
        omega
    · rw [if_neg nv]
      have hv : d < cal_dim y' m := Decidable.byContradiction (fun z => nv ((cal_ann_valid (y := y) h.1 hd).mp z))
      have e2 : cal_dim y' m = cal_md y' (m + 1) - cal_md y' m := rfl
      have e3 : cal_dim y' m' = cal_md y' (m' + 1) - cal_md y' m' := rfl
      have g1 := (cal_md_mono (y := y') m h.1).1
      have g2 := (cal_md_mono (y := y') m' h'.1).1
      rcases Nat.lt_trichotomy m' m with c | c | c
      · have := cal_md_le (y := y') (show m' + 1 ≤ m by omega) (by omega)
        constructor
        · exact fun _ => Or.inl c
        · intro _; omega
      · subst c
        constructor
        · intro z; exact Or.inr ⟨rfl, by omega⟩
        · intro z; omega
      · have := cal_md_le (y := y') (show m + 1 ≤ m' by omega) (by omega)
        constructor
        · intro z; omega
        · intro z; omega
  have een : e_w32 (((cal_enc y' m' d' : Nat) : Int) - ((cal_enc y m d : Nat) : Int)) = ((y' : Int) - y) * 10000 + ((m' : Int) - m) * 100 + ((d' : Int) - d) := by
    have : ((cal_enc y' m' d' : Nat) : Int) - ((cal_enc y m d : Nat) : Int) = ((y' : Int) - y) * 10000 + ((m' : Int) - m) * 100 + ((d' : Int) - d) := by unfold cal_enc; omega
    rw [this, s_w (by omega) (by omega)]
  rw [een]
  have nn : 0 ≤ ((y' : Int) - y) * 10000 + ((m' : Int) - m) * 100 + ((d' : Int) - d) := by
    by_cases e : y = y'
    · have := mono e; omega
    · omega
  rw [Int.tdiv_eq_ediv_of_nonneg nn, s_w (by omega) (by omega)]
  by_cases c : x' < cal_ann y' m d
  · rw [if_pos c]
    have := cmp.mp c
    omega
  · rw [if_neg c]
    have : ¬ (m' < m ∨ (m' = m ∧ d' < d)) := fun z => c (cmp.mpr z)
    omega
