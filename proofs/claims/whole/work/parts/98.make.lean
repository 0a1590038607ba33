/-! THE MODEL: a thing made -/
def n_new (N : n_S) (name : Int) : w_T := (fun k => if k = 0 then name else if k = 1 then N.2.2.2.2.2.1 else if k = 3 then 2147483647 else if k = 4 then N.2.2.2.2.2.2.1 else if k = 5 then -1 else 0, [], [])
def n_mk (N : n_S) (s : Nat) (t : w_T) : n_S := (s_fu N.1 s (N.1 s + 1), s_fu N.2.1 (80 * s + (N.1 s).toNat) t, (if s = 0 then s_fu N.2.2.1 (N.1 s).toNat n_L0 else N.2.2.1), (if s = 3 then s_fu N.2.2.2.1 (N.1 s).toNat [] else N.2.2.2.1), N.2.2.2.2.1, N.2.2.2.2.2.1 + 1, N.2.2.2.2.2.2)
theorem m_make {M : e_M} {s : Nat} {name : Int} {Q : Int → e_M → Prop} (h : nn_ok M) (hs : s < 7) (hf : M 4483 s < w_mx s) (ht : 0 ≤ M 4456 85 ∧ M 4456 85 ≤ 1000) (hq : ∀ M', nn_ok M' → n_of M' = n_mk (n_of M) s (n_new (n_of M) name) → j_keep M M' → Q (M 4483 s) M') : WX12_make s name M Q := by
  have hz := h.1 s hs
  have hmx : w_mx s ≤ 80 := by unfold w_mx; (repeat' split) <;> omega
  have hid : ((80 * s + (M 4483 s).toNat : Nat) : Int) = 80 * (s : Int) + M 4483 s := by omega
  have rt : 0 ≤ (((80 * s + (M 4483 s).toNat : Nat)) : Int) ∧ (((80 * s + (M 4483 s).toNat : Nat)) : Int) < 560 := by omega
  have et : (((80 * s + (M 4483 s).toNat : Nat)) : Int).toNat = 80 * s + (M 4483 s).toNat := by omega
  obtain ⟨h1, h2, h3, h4, h5, h6⟩ := id h
  unfold WX12_make VX12_make
  rw [show ((s : Nat) : Int).toNat = s by omega]
  refine ⟨by omega, by omega, by omega, fun M1 e1 => m_idt (t := 80 * s + (M 4483 s).toNat) (by omega) (by omega) hid ?_⟩
  rw [et]
  rw [s_w (by omega) (by omega)] at e1
  generalize hT : 80 * s + (M 4483 s).toNat = t at *
  refine ⟨rt, fun M3 e3 => ⟨⟨rt, Or.inl rfl⟩, fun M4 e4 => ⟨rt, fun M5 e5 => ⟨rt, fun M6 e6 => ⟨rt, fun M7 e7 => fun M8 e8 => ⟨rt, fun M9 e9 => ⟨rt, fun M10 e10 => ⟨rt, fun M11 e11 => ⟨rt, fun M12 e12 => ⟨rt, fun M13 e13 => ?_⟩⟩⟩⟩⟩⟩⟩⟩⟩⟩
  have c86 : M4 4456 86 = M 4456 86 := by rw [e4, e_up_row (by omega), e3, e_up_row (by omega), e1, e_up_row (by omega)]
  have c85 : M6 4456 85 = M 4456 85 := by rw [e6, e_up_row (by omega), e5, e_up_row (by omega), e4, e_up_row (by omega), e3, e_up_row (by omega), e1, e_up_row (by omega)]
  have c85' : M7 4456 85 = M 4456 85 := by rw [e7, e_up_row (by omega), c85]
  rw [c86] at e5
  rw [c85] at e7
  rw [c85', s_w (by omega) (by omega)] at e8
  have o13 : ∀ b, (b < 4456 ∨ (4457 ≤ b ∧ b ≤ 4482) ∨ b = 4493 ∨ 4495 ≤ b) → M13 b = M b := fun b hb => by
    rw [e13, e_up_row (by omega), e12, e_up_row (by omega), e11, e_up_row (by omega), e10, e_up_row (by omega), e9, e_up_row (by omega), e8, e_up_row (by omega), e7, e_up_row (by omega), e6, e_up_row (by omega), e5, e_up_row (by omega), e4, e_up_row (by omega), e3, e_up_row (by omega), e1, e_up_row (by omega)]
  have k56 : ∀ k, M13 4456 k = if k = 85 then M 4456 85 + 1 else M 4456 k := fun k => by
    rw [e13, e_up_row (by omega), e12, e_up_row (by omega), e11, e_up_row (by omega), e10, e_up_row (by omega), e9, e_up_row (by omega), e8, e_up_at, e7, e_up_row (by omega), e6, e_up_row (by omega), e5, e_up_row (by omega), e4, e_up_row (by omega), e3, e_up_row (by omega), e1, e_up_row (by omega)]
  have k83 : ∀ u, M13 4483 u = if u = s then M 4483 s + 1 else M 4483 u := fun u => by
    rw [e13, e_up_row (by omega), e12, e_up_row (by omega), e11, e_up_row (by omega), e10, e_up_row (by omega), e9, e_up_row (by omega), e8, e_up_row (by omega), e7, e_up_row (by omega), e6, e_up_row (by omega), e5, e_up_row (by omega), e4, e_up_row (by omega), e3, e_up_row (by omega), e1, e_up_at]
  have k84 : ∀ u, M13 4484 u = if u = t then name else M 4484 u := fun u => by
    rw [e13, e_up_row (by omega), e12, e_up_row (by omega), e11, e_up_row (by omega), e10, e_up_row (by omega), e9, e_up_row (by omega), e8, e_up_row (by omega), e7, e_up_row (by omega), e6, e_up_row (by omega), e5, e_up_row (by omega), e4, e_up_row (by omega), e3, e_up_at, e1, e_up_row (by omega)]
  have k85 : ∀ u, M13 4485 u = if u = t then 0 else M 4485 u := fun u => by
    rw [e13, e_up_row (by omega), e12, e_up_row (by omega), e11, e_up_row (by omega), e10, e_up_row (by omega), e9, e_up_row (by omega), e8, e_up_row (by omega), e7, e_up_row (by omega), e6, e_up_row (by omega), e5, e_up_row (by omega), e4, e_up_at, e3, e_up_row (by omega), e1, e_up_row (by omega)]
  have k86 : ∀ u, M13 4486 u = if u = t then M 4456 86 else M 4486 u := fun u => by
    rw [e13, e_up_row (by omega), e12, e_up_row (by omega), e11, e_up_row (by omega), e10, e_up_row (by omega), e9, e_up_row (by omega), e8, e_up_row (by omega), e7, e_up_row (by omega), e6, e_up_row (by omega), e5, e_up_at, e4, e_up_row (by omega), e3, e_up_row (by omega), e1, e_up_row (by omega)]
  have k87 : ∀ u, M13 4487 u = if u = t then 2147483647 else M 4487 u := fun u => by
    rw [e13, e_up_row (by omega), e12, e_up_row (by omega), e11, e_up_row (by omega), e10, e_up_row (by omega), e9, e_up_row (by omega), e8, e_up_row (by omega), e7, e_up_row (by omega), e6, e_up_at, e5, e_up_row (by omega), e4, e_up_row (by omega), e3, e_up_row (by omega), e1, e_up_row (by omega)]
  have k88 : ∀ u, M13 4488 u = if u = t then M 4456 85 else M 4488 u := fun u => by
    rw [e13, e_up_row (by omega), e12, e_up_row (by omega), e11, e_up_row (by omega), e10, e_up_row (by omega), e9, e_up_row (by omega), e8, e_up_row (by omega), e7, e_up_at, e6, e_up_row (by omega), e5, e_up_row (by omega), e4, e_up_row (by omega), e3, e_up_row (by omega), e1, e_up_row (by omega)]
  have k89 : ∀ u, M13 4489 u = if u = t then -1 else M 4489 u := fun u => by
    rw [e13, e_up_row (by omega), e12, e_up_row (by omega), e11, e_up_row (by omega), e10, e_up_row (by omega), e9, e_up_at, e8, e_up_row (by omega), e7, e_up_row (by omega), e6, e_up_row (by omega), e5, e_up_row (by omega), e4, e_up_row (by omega), e3, e_up_row (by omega), e1, e_up_row (by omega)]
  have k90 : ∀ u, M13 4490 u = if u = t then 0 else M 4490 u := fun u => by
    rw [e13, e_up_row (by omega), e12, e_up_row (by omega), e11, e_up_row (by omega), e10, e_up_at, e9, e_up_row (by omega), e8, e_up_row (by omega), e7, e_up_row (by omega), e6, e_up_row (by omega), e5, e_up_row (by omega), e4, e_up_row (by omega), e3, e_up_row (by omega), e1, e_up_row (by omega)]
  have k91 : ∀ u, M13 4491 u = if u = t then 0 else M 4491 u := fun u => by
    rw [e13, e_up_row (by omega), e12, e_up_row (by omega), e11, e_up_at, e10, e_up_row (by omega), e9, e_up_row (by omega), e8, e_up_row (by omega), e7, e_up_row (by omega), e6, e_up_row (by omega), e5, e_up_row (by omega), e4, e_up_row (by omega), e3, e_up_row (by omega), e1, e_up_row (by omega)]
  have k92 : ∀ u, M13 4492 u = if u = t then 0 else M 4492 u := fun u => by
    rw [e13, e_up_row (by omega), e12, e_up_at, e11, e_up_row (by omega), e10, e_up_row (by omega), e9, e_up_row (by omega), e8, e_up_row (by omega), e7, e_up_row (by omega), e6, e_up_row (by omega), e5, e_up_row (by omega), e4, e_up_row (by omega), e3, e_up_row (by omega), e1, e_up_row (by omega)]
  have k94 : ∀ u, M13 4494 u = if u = t then 0 else M 4494 u := fun u => by
    rw [e13, e_up_at, e12, e_up_row (by omega), e11, e_up_row (by omega), e10, e_up_row (by omega), e9, e_up_row (by omega), e8, e_up_row (by omega), e7, e_up_row (by omega), e6, e_up_row (by omega), e5, e_up_row (by omega), e4, e_up_row (by omega), e3, e_up_row (by omega), e1, e_up_row (by omega)]
  clear e1 e3 e4 e5 e6 e7 e8 e9 e10 e11 e12 e13 c86 c85 c85'
  have hth : ∀ u, u < 560 → n_th M13 u = if u = t then n_new (n_of M) name else n_th M u := fun u hu => by
    by_cases cu : u = t
    · rw [if_pos cu, cu]
      unfold n_th n_new
      refine Prod.ext (funext fun j => ?_) (Prod.ext ?_ ?_)
      · show n_sc M13 t j = _
        unfold n_sc
        rw [k84, k85, k86, k87, k88, k89, k90, k91, if_pos rfl, if_pos rfl, if_pos rfl, if_pos rfl, if_pos rfl, if_pos rfl, if_pos rfl, if_pos rfl]
        show _ = if j = 0 then name else if j = 1 then M 4456 85 else if j = 3 then 2147483647 else if j = 4 then M 4456 86 else if j = 5 then -1 else 0
        by_cases j0 : j = 0
        · simp [j0]
        by_cases j1 : j = 1
        · simp [j1]
        by_cases j2 : j = 2
        · simp [j2]
        by_cases j3 : j = 3
        · simp [j3]
        by_cases j4 : j = 4
        · simp [j4]
        by_cases j5 : j = 5
        · simp [j5]
        by_cases j6 : j = 6
        · simp [j6]
        by_cases j7 : j = 7
        · simp [j7]
        simp [j0, j1, j2, j3, j4, j5, j6, j7]
      · show j_row M13 4492 4493 t = []
        unfold j_row
        rw [k92, if_pos rfl]; rfl
      · show j_row M13 4494 4495 t = []
        unfold j_row
        rw [k94, if_pos rfl]; rfl
    · rw [if_neg cu]
      unfold n_th j_row n_sc
      rw [k84, k85, k86, k87, k88, k89, k90, k91, k92, k94, o13 4493 (by omega), o13 4495 (by omega), if_neg cu, if_neg cu, if_neg cu, if_neg cu, if_neg cu, if_neg cu, if_neg cu, if_neg cu, if_neg cu, if_neg cu]
  have kp13 : j_keep M M13 := ⟨fun b hb => o13 b (by omega), fun k hk => by rw [k56, if_neg (by omega)]⟩
  have ok2 : ∀ u, u < 560 → j_ok M13 4492 u ∧ j_ok M13 4494 u := fun u hu => by
    have := h2 u hu
    unfold j_ok at *
    rw [k92, k94]
    split <;> omega
  have zz : ∀ r, r < 7 → 0 ≤ M13 4483 r ∧ M13 4483 r ≤ w_mx r := fun r hr => by
    rw [k83]
    by_cases c : r = s
    · rw [if_pos c, c]; omega
    · rw [if_neg c]; exact h1 r hr
  -- the rest: by the sort
  have k152 : s ≠ 0 → WX12_make_152 Q s (M 4483 s) M13 := by
    intro s0
    unfold WX12_make_152 VX12_make_152
    refine ⟨fun n3 => ?_, fun e3' => ⟨by omega, fun M14 e14 => ?_⟩⟩
    · refine hq M13 ⟨zz, ok2, fun l hl => ?_, fun v hv => by rw [o13 4503 (by omega)]; exact h4 v hv, fun k hk => by rw [o13 4510 (by omega)]; exact h5 k hk, by rw [k56, if_neg (by omega)]; exact h6⟩ (n_of_ext (fun r => ?_) (fun u => ?_) (fun l => ?_) (fun v => ?_) (fun k => ?_) ?_ ?_ ?_) kp13
      · have := h3 l hl
        unfold n_lok j_ok at *
        rw [o13 4496 (by omega), o13 4497 (by omega), o13 4499 (by omega)]; exact this
      · show _ = s_fu (n_of M).1 s ((n_of M).1 s + 1) r
        unfold s_fu
        rw [k83, n_z hs]
        by_cases c : r = s
        · rw [if_pos c, if_pos c, if_pos (by omega)]
        · rw [if_neg c, if_neg c]; rfl
      · show _ = s_fu (n_of M).2.1 (80 * s + ((n_of M).1 s).toNat) _ u
        rw [n_z hs, hT]
        unfold s_fu
        by_cases c : u = t
        · rw [if_pos (by omega), if_pos c, hth u (by omega), if_pos c]
        · rw [if_neg c]
          by_cases c5 : u < 560
          · rw [if_pos c5, hth u c5, if_neg c, n_t c5]
          · rw [if_neg c5]; exact (if_neg c5).symm
      · show _ = (if s = 0 then _ else (n_of M).2.2.1) l
        rw [if_neg s0, n_lo_congr (M := M) (fun b hb => o13 b (by omega))]; rfl
      · show _ = (if s = 3 then _ else (n_of M).2.2.2.1) v
        rw [if_neg (show ¬ s = 3 by omega), n_pt_congr (M := M) (fun b b1 b2 => o13 b (by omega))]; rfl
      · rw [n_sa_congr (M := M) (fun b b1 b2 => o13 b (by omega))]; rfl
      · rw [k56, if_pos rfl]; rfl
      · rw [k56, if_neg (by omega)]; rfl
      · rw [k56, if_neg (by omega)]; rfl
    · have es3 : s = 3 := by omega
      have hm3 : (M 4483 s).toNat < 80 := by omega
      have o14 : ∀ b, b ≠ 4503 → M14 b = M13 b := fun b hb => by rw [e14, e_up_row hb]
      have c03 : ∀ u, M14 4503 u = if u = (M 4483 s).toNat then 0 else M 4503 u := fun u => by rw [e14, e_up_at, o13 4503 (by omega)]
      refine hq M14 ⟨fun r hr => by rw [o14 4483 (by omega)]; exact zz r hr, fun u hu => ?_, fun l hl => ?_, fun v hv => ?_, fun k hk => by rw [o14 4510 (by omega), o13 4510 (by omega)]; exact h5 k hk, by rw [o14 4456 (by omega), k56, if_neg (by omega)]; exact h6⟩ (n_of_ext (fun r => ?_) (fun u => ?_) (fun l => ?_) (fun v => ?_) (fun k => ?_) ?_ ?_ ?_) (j_keep_trans kp13 (by rw [e14]; exact j_keep_cell (by omega)))
      · have := ok2 u hu
        unfold j_ok at *
        rw [o14 4492 (by omega), o14 4494 (by omega)]; exact this
      · have := h3 l hl
        unfold n_lok j_ok at *
        rw [o14 4496 (by omega), o14 4497 (by omega), o14 4499 (by omega), o13 4496 (by omega), o13 4497 (by omega), o13 4499 (by omega)]; exact this
      · rw [c03]
        have := h4 v hv
        split <;> omega
      · show _ = s_fu (n_of M).1 s ((n_of M).1 s + 1) r
        unfold s_fu
        rw [o14 4483 (by omega), k83, n_z hs]
        by_cases c : r = s
        · rw [if_pos c, if_pos c, if_pos (by omega)]
        · rw [if_neg c, if_neg c]; rfl
      · show _ = s_fu (n_of M).2.1 (80 * s + ((n_of M).1 s).toNat) _ u
        rw [n_z hs, hT]
        have e14' : n_th M14 u = n_th M13 u := by
          unfold n_th j_row n_sc
          rw [o14 4484 (by omega), o14 4485 (by omega), o14 4486 (by omega), o14 4487 (by omega), o14 4488 (by omega), o14 4489 (by omega), o14 4490 (by omega), o14 4491 (by omega), o14 4492 (by omega), o14 4493 (by omega), o14 4494 (by omega), o14 4495 (by omega)]
        rw [e14']
        unfold s_fu
        by_cases c : u = t
        · rw [if_pos (by omega), if_pos c, hth u (by omega), if_pos c]
        · rw [if_neg c]
          by_cases c5 : u < 560
          · rw [if_pos c5, hth u c5, if_neg c, n_t c5]
          · rw [if_neg c5]; exact (if_neg c5).symm
      · show _ = (if s = 0 then _ else (n_of M).2.2.1) l
        rw [if_neg s0, n_lo_congr (M := M) (fun b hb => by rw [o14 b (by omega), o13 b (by omega)])]; rfl
      · show _ = (if s = 3 then s_fu (n_of M).2.2.2.1 ((n_of M).1 s).toNat [] else _) v
        rw [if_pos es3, n_z hs]
        unfold s_fu
        by_cases c : v = (M 4483 s).toNat
        · rw [if_pos c, if_pos (by omega)]
          unfold n_pt
          rw [c03, if_pos c]; rfl
        · rw [if_neg c]
          have : n_pt M14 v = n_pt M v := by
            unfold n_pt
            rw [c03, if_neg c, o14 4504 (by omega), o14 4505 (by omega), o13 4504 (by omega), o13 4505 (by omega)]
          rw [this]; rfl
      · rw [n_sa_congr (M := M) (fun b b1 b2 => by rw [o14 b (by omega), o13 b (by omega)])]; rfl
      · rw [o14 4456 (by omega), k56, if_pos rfl]; rfl
      · rw [o14 4456 (by omega), k56, if_neg (by omega)]; rfl
      · rw [o14 4456 (by omega), k56, if_neg (by omega)]; rfl
  refine ⟨fun ne => k152 (by omega), fun e0 => ⟨by omega, fun M14 f14 => ⟨by omega, fun M15 f15 => ⟨by omega, fun M16 f16 => ?_⟩⟩⟩⟩
  have es0 : s = 0 := by omega
  have o16 : ∀ b, b ≠ 4496 → b ≠ 4497 → b ≠ 4499 → M16 b = M13 b := fun b b1 b2 b3 => by rw [f16, e_up_row b3, f15, e_up_row b2, f14, e_up_row b1]
  have c96 : ∀ u, M16 4496 u = if u = (M 4483 s).toNat then 0 else M 4496 u := fun u => by rw [f16, e_up_row (by omega), f15, e_up_row (by omega), f14, e_up_at, o13 4496 (by omega)]
  have c97 : ∀ u, M16 4497 u = if u = (M 4483 s).toNat then 0 else M 4497 u := fun u => by rw [f16, e_up_row (by omega), f15, e_up_at, f14, e_up_row (by omega), o13 4497 (by omega)]
  have c99 : ∀ u, M16 4499 u = if u = (M 4483 s).toNat then 0 else M 4499 u := fun u => by rw [f16, e_up_at, f15, e_up_row (by omega), f14, e_up_row (by omega), o13 4499 (by omega)]
  unfold WX12_make_152 VX12_make_152
  refine ⟨fun n3 => ?_, fun e3' => by omega⟩
  refine hq M16 ⟨fun r hr => by rw [o16 4483 (by omega) (by omega) (by omega)]; exact zz r hr, fun u hu => ?_, fun l hl => ?_, fun v hv => by rw [o16 4503 (by omega) (by omega) (by omega), o13 4503 (by omega)]; exact h4 v hv, fun k hk => by rw [o16 4510 (by omega) (by omega) (by omega), o13 4510 (by omega)]; exact h5 k hk, by rw [o16 4456 (by omega) (by omega) (by omega), k56, if_neg (by omega)]; exact h6⟩ (n_of_ext (fun r => ?_) (fun u => ?_) (fun l => ?_) (fun v => ?_) (fun k => ?_) ?_ ?_ ?_) (j_keep_trans kp13 (j_keep_of (fun b hb => o16 b (by omega) (by omega) (by omega))))
  · have := ok2 u hu
    unfold j_ok at *
    rw [o16 4492 (by omega) (by omega) (by omega), o16 4494 (by omega) (by omega) (by omega)]; exact this
  · have := h3 l hl
    unfold n_lok j_ok at *
    rw [c96, c97, c99]
    split <;> omega
  · show _ = s_fu (n_of M).1 s ((n_of M).1 s + 1) r
    unfold s_fu
    rw [o16 4483 (by omega) (by omega) (by omega), k83, n_z hs]
    by_cases c : r = s
    · rw [if_pos c, if_pos c, if_pos (by omega)]
    · rw [if_neg c, if_neg c]; rfl
  · show _ = s_fu (n_of M).2.1 (80 * s + ((n_of M).1 s).toNat) _ u
    rw [n_z hs, hT]
    have e16' : n_th M16 u = n_th M13 u := by
      unfold n_th j_row n_sc
      rw [o16 4484 (by omega) (by omega) (by omega), o16 4485 (by omega) (by omega) (by omega), o16 4486 (by omega) (by omega) (by omega), o16 4487 (by omega) (by omega) (by omega), o16 4488 (by omega) (by omega) (by omega), o16 4489 (by omega) (by omega) (by omega), o16 4490 (by omega) (by omega) (by omega), o16 4491 (by omega) (by omega) (by omega), o16 4492 (by omega) (by omega) (by omega), o16 4493 (by omega) (by omega) (by omega), o16 4494 (by omega) (by omega) (by omega), o16 4495 (by omega) (by omega) (by omega)]
    rw [e16']
    unfold s_fu
    by_cases c : u = t
    · rw [if_pos (by omega), if_pos c, hth u (by omega), if_pos c]
    · rw [if_neg c]
      by_cases c5 : u < 560
      · rw [if_pos c5, hth u c5, if_neg c, n_t c5]
      · rw [if_neg c5]; exact (if_neg c5).symm
  · show _ = (if s = 0 then s_fu (n_of M).2.2.1 ((n_of M).1 s).toNat n_L0 else _) l
    rw [if_pos es0, n_z hs]
    unfold s_fu
    by_cases c : l = (M 4483 s).toNat
    · rw [if_pos c, if_pos (by omega)]
      unfold n_lo j_fg j_row j_own
      rw [c96, c97, c99, if_pos c, if_pos c, if_pos c]; rfl
    · rw [if_neg c]
      have : n_lo M16 l = n_lo M l := by
        unfold n_lo j_fg j_row j_own
        rw [c96, c97, c99, if_neg c, if_neg c, if_neg c, o16 4480 (by omega) (by omega) (by omega), o16 4481 (by omega) (by omega) (by omega), o16 4498 (by omega) (by omega) (by omega), o16 4500 (by omega) (by omega) (by omega), o16 4501 (by omega) (by omega) (by omega), o16 4502 (by omega) (by omega) (by omega), o13 4480 (by omega), o13 4481 (by omega), o13 4498 (by omega), o13 4500 (by omega), o13 4501 (by omega), o13 4502 (by omega)]
      rw [this]; rfl
  · show _ = (if s = 3 then _ else (n_of M).2.2.2.1) v
    rw [if_neg (show ¬ s = 3 by omega), n_pt_congr (M := M) (fun b b1 b2 => by rw [o16 b (by omega) (by omega) (by omega), o13 b (by omega)])]; rfl
  · rw [n_sa_congr (M := M) (fun b b1 b2 => by rw [o16 b (by omega) (by omega) (by omega), o13 b (by omega)])]; rfl
  · rw [o16 4456 (by omega) (by omega) (by omega), k56, if_pos rfl]; rfl
  · rw [o16 4456 (by omega) (by omega) (by omega), k56, if_neg (by omega)]; rfl
  · rw [o16 4456 (by omega) (by omega) (by omega), k56, if_neg (by omega)]; rfl
