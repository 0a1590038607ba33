/-! leaves: Lot.begin, Thing, Deed's writing -/
theorem c_lbegin {M : e_M} {a : Nat} {w : Int} {Q : e_M → Prop} (hq : ∀ M', (M' a 0 = w ∧ M' a 1 = 0 ∧ M' a 2 = 0) → s_own M' a = [] → s_ook M' a → s_fig M' (a + 1) = [] → s_fok M' (a + 1) → s_row M' (a + 4) = [] → s_rok M' (a + 4) → (∀ k, k ≠ 0 → k ≠ 1 → k ≠ 2 → k ≠ 8 → M' a k = M a k) → (∀ k, k ≠ 2 → M' (a + 1) k = M (a + 1) k) → M' (a + 4) 0 = M (a + 4) 0 → (∀ b, b ≠ a → b ≠ a + 1 → b ≠ a + 4 → M' b = M b) → Q M') : WX4_begin a w M Q := by
  intro M1 e1
  refine ⟨by omega, fun M2 e2 M3 e3 => c_fclear (fun M4 f1 f2 f3 f4 => c_rclear (fun M5 r1 r2 r3 r4 => fun M6 e6 => ?_))⟩
  have u3 : ∀ b, b ≠ a → M3 b = M b := fun b hb => by rw [e3, e_up_row hb, e2, e_up_row hb, e1, e_up_row hb]
  have a5 : M5 a = M3 a := by rw [r4 a (by omega), f4 a (by omega)]
  have u6 : ∀ b, b ≠ a → M6 b = M5 b := fun b hb => by rw [e6, e_up_row hb]
  have v6 : ∀ k, k ≠ 8 → M6 a k = M3 a k := fun k hk => by rw [e6, e_up_ne (fun z => hk z.2), a5]
  have a8 : M6 a 8 = 0 := by rw [e6, e_up_eq]
  refine hq M6 ⟨?_, ?_, ?_⟩ (by unfold s_own; rw [a8]; rfl) ⟨by omega, by omega⟩ ?_ ?_ ?_ ?_ ?_ ?_ ?_ ?_
  · rw [v6 0 (by omega), e3, e_up_ne (by omega), e2, e_up_ne (by omega), e1, e_up_eq]
  · rw [v6 1 (by omega), e3, e_up_ne (by omega), e2, e_up_eq]
  · rw [v6 2 (by omega), e3, e_up_eq]
  · rw [← f1]; unfold s_fig
    rw [u6 _ (by omega), r4 _ (by omega), u6 _ (by omega), r4 _ (by omega), u6 _ (by omega), r4 _ (by omega)]
  · unfold s_fok; rw [u6 _ (by omega), r4 _ (by omega)]; exact f2
  · rw [← r1]; exact s_row_congr (u6 _ (by omega)) (u6 _ (by omega))
  · exact s_rok_congr (u6 _ (by omega)) r2
  · intro k k0 k1 k2 k8
    rw [v6 k k8, e3, e_up_ne (fun z => k2 z.2), e2, e_up_ne (fun z => k1 z.2), e1, e_up_ne (fun z => k0 z.2)]
  · intro k hk
    rw [u6 _ (by omega), r4 _ (by omega), f3 k hk, u3 _ (by omega)]
  · rw [u6 _ (by omega), r3, f4 _ (by omega), u3 _ (by omega)]
  · intro b b0 b1 b4
    rw [u6 b b0, r4 b b4, f4 b b1, u3 b b0]
/-- a Thing begun anew -/
def t_new (called told made : Int) (f : Nat → Int) : Nat → Int := fun k => if k = 0 then called else if k = 1 then made else if k = 2 then 0 else if k = 3 then 1000000 else if k = 4 then -1 else if k = 5 then -1 else if k = 6 then 0 else if k = 7 then 0 else if k = 8 then 0 else if k = 11 then told else if k = 12 then 0 else if k = 13 then 1 else f k
theorem c_tbegin {M : e_M} {t d : Nat} {called made : Int} {Q : e_M → Prop} (h9 : M t 9 = ((t + 1 : Nat) : Int)) (h10 : M t 10 = ((t + 3 : Nat) : Int)) (hq : ∀ M', M' t = t_new called d made (M t) → M' (t + 1) 1 = 0 → M' (t + 3) 1 = 0 → M' (t + 1) 0 = M (t + 1) 0 → M' (t + 3) 0 = M (t + 3) 0 → (∀ b, b ≠ t → b ≠ t + 1 → b ≠ t + 3 → M' b = M b) → Q M') : WX9_begin t called d made M Q := by
  intro M1 e1 M2 e2 M3 e3
  refine ⟨by omega, fun M4 e4 M5 e5 M6 e6 M7 e7 M8 e8 M9 e9 => ⟨by omega, fun M10 e10 => ?_⟩⟩
  have r10 : ∀ k, k ≠ 0 → k ≠ 11 → k ≠ 1 → k ≠ 2 → k ≠ 3 → k ≠ 4 → k ≠ 5 → k ≠ 6 → k ≠ 7 → k ≠ 8 → M10 t k = M t k := by
    intro k a0 a11 a1 a2 a3 a4 a5 a6 a7 a8
    rw [e10, e_up_ne (fun z => a8 z.2), e9, e_up_ne (fun z => a7 z.2), e8, e_up_ne (fun z => a6 z.2), e7, e_up_ne (fun z => a5 z.2), e6, e_up_ne (fun z => a4 z.2), e5, e_up_ne (fun z => a3 z.2), e4, e_up_ne (fun z => a2 z.2), e3, e_up_ne (fun z => a1 z.2), e2, e_up_ne (fun z => a11 z.2), e1, e_up_ne (fun z => a0 z.2)]
  have o10 : ∀ b, b ≠ t → M10 b = M b := fun b hb => by rw [e10, e_up_row hb, e9, e_up_row hb, e8, e_up_row hb, e7, e_up_row hb, e6, e_up_row hb, e5, e_up_row hb, e4, e_up_row hb, e3, e_up_row hb, e2, e_up_row hb, e1, e_up_row hb]
  have x9 : (M10 t 9).toNat = t + 1 := by rw [r10 9 (by omega) (by omega) (by omega) (by omega) (by omega) (by omega) (by omega) (by omega) (by omega) (by omega), h9]; omega
  have x10 : M10 t 10 = ((t + 3 : Nat) : Int) := by rw [r10 10 (by omega) (by omega) (by omega) (by omega) (by omega) (by omega) (by omega) (by omega) (by omega) (by omega), h10]
  intro M11 e11
  rw [x9] at e11
  have x11 : (M11 t 10).toNat = t + 3 := by rw [e11, e_up_row (by omega), x10]; omega
  intro M12 e12
  rw [x11] at e12
  intro M13 e13 M14 e14
  have t12 : M12 t = M10 t := by rw [e12, e_up_row (by omega), e11, e_up_row (by omega)]
  refine hq M14 ?_ ?_ ?_ ?_ ?_ ?_
  · funext k
    unfold t_new
    have v : M14 t k = if k = 13 then 1 else if k = 12 then 0 else M10 t k := by
      rw [e14, e_up_at]
      split
      · rfl
      · rw [e13, e_up_at, t12]
    rw [v]
    by_cases c13 : k = 13
    · subst c13; rfl
    by_cases c12 : k = 12
    · subst c12; rfl
    rw [if_neg c13, if_neg c12, if_neg c12, if_neg c13]
    rw [e10, e_up_at, e9, e_up_at, e8, e_up_at, e7, e_up_at, e6, e_up_at, e5, e_up_at, e4, e_up_at, e3, e_up_at, e2, e_up_at, e1, e_up_at]
    by_cases c8 : k = 8
    · subst c8; rfl
    by_cases c7 : k = 7
    · subst c7; rfl
    by_cases c6 : k = 6
    · subst c6; rfl
    by_cases c5 : k = 5
    · subst c5; rfl
    by_cases c4 : k = 4
    · subst c4; rfl
    by_cases c3 : k = 3
    · subst c3; rfl
    by_cases c2 : k = 2
    · subst c2; rfl
    by_cases c1 : k = 1
    · subst c1; rfl
    by_cases c0 : k = 0
    · subst c0; rfl
    simp only [c8, c7, c6, c5, c4, c3, c2, c1, c0, if_false]
  · rw [e14, e_up_row (by omega), e13, e_up_row (by omega), e12, e_up_row (by omega), e11, e_up_eq]
  · rw [e14, e_up_row (by omega), e13, e_up_row (by omega), e12, e_up_eq]
  · rw [e14, e_up_row (by omega), e13, e_up_row (by omega), e12, e_up_row (by omega), e11, e_up_ne (by omega), o10 _ (by omega)]
  · rw [e14, e_up_row (by omega), e13, e_up_row (by omega), e12, e_up_ne (by omega), e11, e_up_row (by omega), o10 _ (by omega)]
  · intro b b0 b1 b3
    rw [e14, e_up_row b0, e13, e_up_row b0, e12, e_up_row b3, e11, e_up_row b1, o10 b b0]
theorem c_tthere {M : e_M} {t : Nat} {day : Int} {Q : Int → Prop} (q1 : M t 2 = 0 → day < M t 3 → Q 1) (q0 : ¬ (M t 2 = 0 ∧ day < M t 3) → Q 0) : WX9_isThere t day M Q :=
  ⟨fun ne => q0 (fun z => ne z.1), fun e => ⟨fun le => q0 (fun z => by omega), fun lt => q1 e lt⟩⟩
/-- a Deed cleared -/
def d_clr (f : Nat → Int) : Nat → Int := fun k => if k = 12 then 1 else if k = 0 ∨ k = 1 ∨ k = 2 ∨ k = 3 ∨ k = 4 ∨ k = 7 ∨ k = 8 ∨ k = 9 ∨ k = 10 ∨ k = 11 ∨ k = 15 ∨ k = 18 then 0 else f k
theorem c_dclear {M : e_M} {d : Nat} {Q : e_M → Prop} (hq : ∀ M', M' d = d_clr (M d) → (∀ b, b ≠ d → M' b = M b) → Q M') : WX2_clear d M Q := by
  intro M1 e1 M2 e2 M3 e3 M4 e4 M5 e5 M6 e6 M7 e7 M8 e8 M9 e9 M10 e10 M11 e11 M12 e12 M13 e13
  refine hq M13 ?_ (fun b hb => by rw [e13, e_up_row hb, e12, e_up_row hb, e11, e_up_row hb, e10, e_up_row hb, e9, e_up_row hb, e8, e_up_row hb, e7, e_up_row hb, e6, e_up_row hb, e5, e_up_row hb, e4, e_up_row hb, e3, e_up_row hb, e2, e_up_row hb, e1, e_up_row hb])
  funext k
  rw [e13, e_up_at, e12, e_up_at, e11, e_up_at, e10, e_up_at, e9, e_up_at, e8, e_up_at, e7, e_up_at, e6, e_up_at, e5, e_up_at, e4, e_up_at, e3, e_up_at, e2, e_up_at, e1, e_up_at]
  unfold d_clr
  by_cases c18 : k = 18
  · subst c18; rfl
  by_cases c15 : k = 15
  · subst c15; rfl
  by_cases c12 : k = 12
  · subst c12; rfl
  by_cases c11 : k = 11
  · subst c11; rfl
  by_cases c10 : k = 10
  · subst c10; rfl
  by_cases c9 : k = 9
  · subst c9; rfl
  by_cases c8 : k = 8
  · subst c8; rfl
  by_cases c7 : k = 7
  · subst c7; rfl
  by_cases c4 : k = 4
  · subst c4; rfl
  by_cases c3 : k = 3
  · subst c3; rfl
  by_cases c2 : k = 2
  · subst c2; rfl
  by_cases c1 : k = 1
  · subst c1; rfl
  by_cases c0 : k = 0
  · subst c0; rfl
  simp only [c18, c15, c12, c11, c10, c9, c8, c7, c4, c3, c2, c1, c0, if_false, or_self]
theorem c_addName {M : e_M} {d : Nat} {w x : Int} {Q : e_M → Prop} (h : 0 ≤ M d 7 ∧ M d 7 ≤ 8) (hq : ∀ M', s_dnm M' d = (if M d 7 < 8 then s_dnm M d ++ [(w, x)] else s_dnm M d) → M' d 7 = (if M d 7 < 8 then M d 7 + 1 else M d 7) → (∀ k, k ≠ 7 → M' d k = M d k) → (∀ b, b ≠ d → b ≠ d + 1 → b ≠ d + 2 → M' b = M b) → Q M') : WX2_addName d w x M Q := by
  refine ⟨fun e => hq M (by rw [if_neg (by omega)]) (by rw [if_neg (by omega)]) (fun _ _ => rfl) (fun _ _ _ _ => rfl), fun e => ⟨⟨h.1, e⟩, fun M1 e1 => ?_⟩⟩
  have a1 : M1 d = M d := by rw [e1, e_up_row (by omega)]
  refine ⟨by rw [a1]; exact ⟨h.1, e⟩, fun M2 e2 M3 e3 => ?_⟩
  have a2 : M2 d = M d := by rw [e2, e_up_row (by omega), a1]
  have a3 : M3 d 7 = M d 7 + 1 := by rw [e3, e_up_eq, a2, s_w (by omega) (by omega)]
  refine hq M3 ?_ (by rw [if_pos e, a3]) (fun k hk => by rw [e3, e_up_ne (fun z => hk z.2), a2]) (fun b b0 b1 b2 => by rw [e3, e_up_row b0, e2, e_up_row b2, e1, e_up_row b1])
  rw [if_pos e]
  unfold s_dnm
  rw [a3, s_ar_succ h.1]
  have k1 : ∀ j, M3 (d + 1) j = if j = (M d 7).toNat then w else M (d + 1) j := fun j => by rw [e3, e_up_row (by omega), e2, e_up_row (by omega), e1, e_up_at]
  have k2 : ∀ j, M3 (d + 2) j = if j = (M d 7).toNat then x else M (d + 2) j := fun j => by rw [e3, e_up_row (by omega), e2, e_up_at, a1, e1, e_up_row (by omega)]
  congr 1
  · refine s_ar_congr (fun j hj => ?_)
    rw [k1, k2, if_neg (by omega), if_neg (by omega)]
  · rw [k1, k2, if_pos rfl, if_pos rfl]
theorem c_addPart {M : e_M} {d : Nat} {w x : Int} {Q : e_M → Prop} (h : 0 ≤ M d 15 ∧ M d 15 ≤ 6) (hq : ∀ M', s_dpt M' d = (if M d 15 < 6 then s_dpt M d ++ [(w, x)] else s_dpt M d) → M' d 15 = (if M d 15 < 6 then M d 15 + 1 else M d 15) → (∀ k, k ≠ 15 → M' d k = M d k) → (∀ b, b ≠ d → b ≠ d + 3 → b ≠ d + 4 → M' b = M b) → Q M') : WX2_addPart d w x M Q := by
  refine ⟨fun e => hq M (by rw [if_neg (by omega)]) (by rw [if_neg (by omega)]) (fun _ _ => rfl) (fun _ _ _ _ => rfl), fun e => ⟨⟨h.1, e⟩, fun M1 e1 => ?_⟩⟩
  have a1 : M1 d = M d := by rw [e1, e_up_row (by omega)]
  refine ⟨by rw [a1]; exact ⟨h.1, e⟩, fun M2 e2 M3 e3 => ?_⟩
  have a2 : M2 d = M d := by rw [e2, e_up_row (by omega), a1]
  have a3 : M3 d 15 = M d 15 + 1 := by rw [e3, e_up_eq, a2, s_w (by omega) (by omega)]
  refine hq M3 ?_ (by rw [if_pos e, a3]) (fun k hk => by rw [e3, e_up_ne (fun z => hk z.2), a2]) (fun b b0 b1 b2 => by rw [e3, e_up_row b0, e2, e_up_row b2, e1, e_up_row b1])
  rw [if_pos e]
  unfold s_dpt
  rw [a3, s_ar_succ h.1]
  have k1 : ∀ j, M3 (d + 3) j = if j = (M d 15).toNat then w else M (d + 3) j := fun j => by rw [e3, e_up_row (by omega), e2, e_up_row (by omega), e1, e_up_at]
  have k2 : ∀ j, M3 (d + 4) j = if j = (M d 15).toNat then x else M (d + 4) j := fun j => by rw [e3, e_up_row (by omega), e2, e_up_at, a1, e1, e_up_row (by omega)]
  congr 1
  · refine s_ar_congr (fun j hj => ?_)
    rw [k1, k2, if_neg (by omega), if_neg (by omega)]
  · rw [k1, k2, if_pos rfl, if_pos rfl]
theorem c_addPoint {M : e_M} {d : Nat} {w x : Int} {Q : e_M → Prop} (h : 0 ≤ M d 18 ∧ M d 18 ≤ 12) (hq : ∀ M', s_dps M' d = (if M d 18 < 12 then s_dps M d ++ [(w, x)] else s_dps M d) → M' d 18 = (if M d 18 < 12 then M d 18 + 1 else M d 18) → (∀ k, k ≠ 18 → M' d k = M d k) → (∀ b, b ≠ d → b ≠ d + 5 → b ≠ d + 6 → M' b = M b) → Q M') : WX2_addPoint d w x M Q := by
  refine ⟨fun e => hq M (by rw [if_neg (by omega)]) (by rw [if_neg (by omega)]) (fun _ _ => rfl) (fun _ _ _ _ => rfl), fun e => ⟨⟨h.1, e⟩, fun M1 e1 => ?_⟩⟩
  have a1 : M1 d = M d := by rw [e1, e_up_row (by omega)]
  refine ⟨by rw [a1]; exact ⟨h.1, e⟩, fun M2 e2 M3 e3 => ?_⟩
  have a2 : M2 d = M d := by rw [e2, e_up_row (by omega), a1]
  have a3 : M3 d 18 = M d 18 + 1 := by rw [e3, e_up_eq, a2, s_w (by omega) (by omega)]
  refine hq M3 ?_ (by rw [if_pos e, a3]) (fun k hk => by rw [e3, e_up_ne (fun z => hk z.2), a2]) (fun b b0 b1 b2 => by rw [e3, e_up_row b0, e2, e_up_row b2, e1, e_up_row b1])
  rw [if_pos e]
  unfold s_dps
  rw [a3, s_ar_succ h.1]
  have k1 : ∀ j, M3 (d + 5) j = if j = (M d 18).toNat then w else M (d + 5) j := fun j => by rw [e3, e_up_row (by omega), e2, e_up_row (by omega), e1, e_up_at]
  have k2 : ∀ j, M3 (d + 6) j = if j = (M d 18).toNat then x else M (d + 6) j := fun j => by rw [e3, e_up_row (by omega), e2, e_up_at, a1, e1, e_up_row (by omega)]
  congr 1
  · refine s_ar_congr (fun j hj => ?_)
    rw [k1, k2, if_neg (by omega), if_neg (by omega)]
  · rw [k1, k2, if_pos rfl, if_pos rfl]
theorem s_gcd_le2 {a b : Int} (hb : 0 < b) : s_gcd a b ≤ b := by
  unfold s_gcd
  split
  · omega
  · exact Int.le_of_dvd hb (Int.gcd_dvd_right ..)
/-- whether PARTS are 1 together -/
def d_wh : List (Int × Int) → Int → Int → Bool
  | [], t, b => decide (t = b)
  | (p, q) :: l, t, b => if q < p then false else if b * q < t * q + p * b then false else d_wh l ((s_red (t * q + p * b) (b * q)).1) ((s_red (t * q + p * b) (b * q)).2)
def d_pok (l : List (Int × Int)) : Prop := ∀ q ∈ l, (1 ≤ q.1 ∧ q.1 ≤ 1000) ∧ 1 ≤ q.2 ∧ q.2 ≤ 1000
theorem s_pow1000 {n : Nat} (h : n ≤ 5) : (1000 : Int) ^ n ≤ 1000000000000000 := by
  have : n = 0 ∨ n = 1 ∨ n = 2 ∨ n = 3 ∨ n = 4 ∨ n = 5 := by omega
  rcases this with e | e | e | e | e | e <;> subst e <;> decide
theorem c_isWhole {M : e_M} {d : Nat} {Q : Int → Prop} (hd : s_dok M d) (hp : d_pok (s_dpt M d)) (q1 : d_wh (s_dpt M d) 0 1 = true → Q 1) (q0 : d_wh (s_dpt M d) 0 1 = false → Q 0) : WX2_isWhole d M Q := by
  obtain ⟨g0, g6⟩ := hd.2.1
  have hl := s_dpt_len hd
  refine s_up (P := fun n i (s : Int × Int) => WX2_isWhole_7 M Q n d s.1 s.2 i) (n := M d 15) (s := (0, 1)) (fun i s => d_wh (s_dpt M d) 0 1 = d_wh ((s_dpt M d).drop i.toNat) s.1 s.2 ∧ 0 ≤ s.1 ∧ s.1 ≤ s.2 ∧ 1 ≤ s.2 ∧ s.2 ≤ 1000 ^ i.toNat) g0 ⟨rfl, by decide, by decide, by decide, by decide⟩ ?_ ?_
  · intro n ⟨t, b⟩ ⟨i1, i2, i3, i4, i5⟩
    dsimp only at i1 i2 i3 i4 i5 ⊢
    rw [List.drop_eq_nil_of_le (by omega)] at i1
    refine ⟨fun _ => ⟨fun ne => q0 ?_, fun e => q1 ?_⟩, fun z => by omega⟩
    · rw [i1]; exact decide_eq_false ne
    · rw [i1]; exact decide_eq_true e
  · intro n i ⟨t, b⟩ h1 h2 ⟨i1, i2, i3, i4, i5⟩ ih
    dsimp only at i1 i2 i3 i4 i5 ⊢
    have at_ := s_dpt_at (M := M) (d := d) (i := i.toNat) (by omega)
    obtain ⟨⟨p1, p2⟩, p3, p4⟩ := hp _ (List.mem_of_getElem? at_)
    dsimp only at p1 p2 p3 p4
    obtain ⟨hlt, eq_⟩ := List.getElem?_eq_some_iff.mp at_
    rw [List.drop_eq_getElem_cons hlt, eq_] at i1
    have hi : 0 ≤ i ∧ i < 6 := ⟨h1, by omega⟩
    have bb : b ≤ 1000000000000000 := by
      have := s_pow1000 (n := i.toNat) (by omega)
      omega
    have m1 := s_mulB i2 (show t ≤ 1000000000000000 by omega) (show 0 ≤ M (d + 4) i.toNat by omega) p4
    have m2 := s_mulB (show 0 ≤ M (d + 3) i.toNat by omega) p2 (show 0 ≤ b by omega) bb
    have m3 := s_mulB (show 0 ≤ b by omega) bb (show 0 ≤ M (d + 4) i.toNat by omega) p4
    have m4 : 1 ≤ b * M (d + 4) i.toNat := Int.mul_pos (by omega) (by omega)
    have ep : (1000 : Int) ^ (i + 1).toNat = 1000 ^ i.toNat * 1000 := by rw [show (i + 1).toNat = i.toNat + 1 by omega, Int.pow_succ]
    have m5 := s_mulB (show 0 ≤ b by omega) i5 (show 0 ≤ M (d + 4) i.toNat by omega) p4
    refine ⟨fun z => by omega, fun _ => ⟨hi, hi, fun le => ⟨hi, hi, fun y1 e1 => ⟨hi, fun y2 e2 => ?_⟩⟩, fun lt => q0 (by rw [i1]; unfold d_wh; rw [if_pos lt])⟩⟩
    rw [s_wj (x := t * M (d + 4) i.toNat) (by omega) (by omega), s_wj (x := M (d + 3) i.toNat * b) (by omega) (by omega), s_wj (by omega) (by omega)] at e1
    rw [s_wj (by omega) (by omega)] at e2
    rw [d_wh, if_neg (by omega), ← e1, ← e2] at i1
    refine ⟨fun le2 => c_gcd (by omega) (by omega) (by omega) (by omega) ?_, fun lt => q0 (by rw [i1, if_pos lt])⟩
    rw [if_neg (by omega)] at i1
    have hg := s_gcd_pos (a := y1) (b := y2)
    have d1 := s_div_le (x := y1) (by omega) hg
    have d2 := s_div_le (x := y2) (by omega) hg
    have f1 : e_w64 (y1.tdiv (s_gcd y1 y2)) = (s_red y1 y2).1 := by rw [Int.tdiv_eq_ediv_of_nonneg (by omega), s_wj (by omega) (by omega)]; rfl
    have f2 : e_w64 (y2.tdiv (s_gcd y1 y2)) = (s_red y1 y2).2 := by rw [Int.tdiv_eq_ediv_of_nonneg (by omega), s_wj (by omega) (by omega)]; rfl
    refine ⟨by omega, by omega, ?_⟩
    rw [f1, f2, s_w (by omega) (by omega)]
    refine ih ((s_red y1 y2).1, (s_red y1 y2).2) ⟨by rw [i1, show (i + 1).toNat = i.toNat + 1 by omega], d1.1, Int.ediv_le_ediv hg le2, ?_, ?_⟩
    · show 1 ≤ y2 / s_gcd y1 y2
      exact Int.le_ediv_of_mul_le hg (by rw [Int.one_mul]; exact s_gcd_le2 (by omega))
    · show y2 / s_gcd y1 y2 ≤ _
      rw [ep]; omega
