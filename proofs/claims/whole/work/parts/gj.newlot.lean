/-! THE MODEL: a LOT made; a new LOT like an old one -/
theorem N_fig {M M' : e_M} {l : Nat} {r : s_Fig} (h : nn_ok M) (hl : l < 80) (q1 : j_fg M' (40 * l) (M' 4496 l) = r) (q2 : 0 ≤ M' 4496 l ∧ M' 4496 l ≤ 40) (o : ∀ b, b ≠ 4480 → b ≠ 4481 → b ≠ 4496 → M' b = M b) (f1 : ∀ u, u ≠ l → M' 4496 u = M 4496 u) (f2 : ∀ j, j < 3200 → (j < 40 * l ∨ 40 * l + 40 ≤ j) → M' 4480 j = M 4480 j ∧ M' 4481 j = M 4481 j) : nn_ok M' ∧ n_of M' = n_fig (n_of M) l r := by
  have hj := h.2.2.1 l hl
  obtain ⟨u1, u2⟩ := n_upL h hl (M' := M') (fun b b1 b2 b3 => o b b1 b2 (by omega)) f2 (fun u hu => ⟨f1 u hu, by rw [o 4497 (by omega) (by omega) (by omega)], by rw [o 4499 (by omega) (by omega) (by omega)]⟩) (fun j hj => ⟨by rw [o 4498 (by omega) (by omega) (by omega)], by rw [o 4500 (by omega) (by omega) (by omega)], by rw [o 4501 (by omega) (by omega) (by omega)], by rw [o 4502 (by omega) (by omega) (by omega)]⟩) (by
    unfold n_lok j_ok at *
    rw [o 4497 (by omega) (by omega) (by omega), o 4499 (by omega) (by omega) (by omega)]
    exact ⟨q2, hj.2⟩)
  refine ⟨u1, ?_⟩
  rw [u2]
  unfold n_fig
  rw [n_l hl]
  unfold n_lo
  rw [q1]
  unfold j_own j_row
  rw [o 4497 (by omega) (by omega) (by omega), o 4498 (by omega) (by omega) (by omega), o 4499 (by omega) (by omega) (by omega), o 4500 (by omega) (by omega) (by omega), o 4501 (by omega) (by omega) (by omega), o 4502 (by omega) (by omega) (by omega)]
theorem m_make0 {M : e_M} {s : Nat} {name : Int} {Q : Int → e_M → Prop} (s0 : s = 0) (h : nn_ok M) (hf : M 4483 s < 80) (ht : 0 ≤ M 4456 85 ∧ M 4456 85 ≤ 1000) (hq : ∀ M', nn_ok M' → n_of M' = n_mk (n_of M) s (n_new (n_of M) name) → (∀ b, (b < 4456 ∨ (4457 ≤ b ∧ b ≤ 4482) ∨ b = 4493 ∨ b = 4495 ∨ b = 4498 ∨ 4500 ≤ b) → M' b = M b) → (∀ k, k ≠ 85 → M' 4456 k = M 4456 k) → Q (M 4483 s) M') : WX12_make s name M Q := by
  have hs : s < 7 := by omega
  have hz := h.1 s hs
  have hmx : w_mx s = 80 := by rw [s0]; rfl
  have hid : ((80 * s + (M 4483 s).toNat : Nat) : Int) = 80 * (s : Int) + M 4483 s := by omega
  have rt : 0 ≤ (((80 * s + (M 4483 s).toNat : Nat)) : Int) ∧ (((80 * s + (M 4483 s).toNat : Nat)) : Int) < 560 := by omega
  have et : (((80 * s + (M 4483 s).toNat : Nat)) : Int).toNat = 80 * s + (M 4483 s).toNat := by omega
  obtain ⟨h1, h2, h3, h4, h5, h6⟩ := id h
  unfold WX12_make VX12_make
  rw [show ((s : Nat) : Int).toNat = s by omega]
  refine ⟨by omega, by omega, by omega, fun M1 e1 => m_idt (t := 80 * s + (M 4483 s).toNat) (by omega) (by omega) hid ?_⟩
  rw [et]
  rw [s_w (by omega) (by omega)] at e1
  generalize hT : 80 * s + (M 4483 s).toNat = t at *
  refine ⟨rt, fun M3 e3 => ⟨⟨rt, Or.inl rfl⟩, fun M4 e4 => ⟨rt, fun M5 e5 => ⟨rt, fun M6 e6 => ⟨rt, fun M7 e7 => fun M8 e8 => ⟨rt, fun M9 e9 => ⟨rt, fun M10 e10 => ⟨rt, fun M11 e11 => ⟨rt, fun M12 e12 => ⟨rt, fun M13 e13 => ?_⟩⟩⟩⟩⟩⟩⟩⟩⟩⟩
  have c86 : M4 4456 86 = M 4456 86 := by rw [e4, e_up_row (by omega), e3, e_up_row (by omega), e1, e_up_row (by omega)]
  have c85 : M6 4456 85 = M 4456 85 := by rw [e6, e_up_row (by omega), e5, e_up_row (by omega), e4, e_up_row (by omega), e3, e_up_row (by omega), e1, e_up_row (by omega)]
  have c85' : M7 4456 85 = M 4456 85 := by rw [e7, e_up_row (by omega), c85]
  rw [c86] at e5
  rw [c85] at e7
  rw [c85', s_w (by omega) (by omega)] at e8
  have o13 : ∀ b, (b < 4456 ∨ (4457 ≤ b ∧ b ≤ 4482) ∨ b = 4493 ∨ 4495 ≤ b) → M13 b = M b := fun b hb => by
    rw [e13, e_up_row (by omega), e12, e_up_row (by omega), e11, e_up_row (by omega), e10, e_up_row (by omega), e9, e_up_row (by omega), e8, e_up_row (by omega), e7, e_up_row (by omega), e6, e_up_row (by omega), e5, e_up_row (by omega), e4, e_up_row (by omega), e3, e_up_row (by omega), e1, e_up_row (by omega)]
  have k56 : ∀ k, M13 4456 k = if k = 85 then M 4456 85 + 1 else M 4456 k := fun k => by
    rw [e13, e_up_row (by omega), e12, e_up_row (by omega), e11, e_up_row (by omega), e10, e_up_row (by omega), e9, e_up_row (by omega), e8, e_up_at, e7, e_up_row (by omega), e6, e_up_row (by omega), e5, e_up_row (by omega), e4, e_up_row (by omega), e3, e_up_row (by omega), e1, e_up_row (by omega)]
  have k83 : ∀ u, M13 4483 u = if u = s then M 4483 s + 1 else M 4483 u := fun u => by
    rw [e13, e_up_row (by omega), e12, e_up_row (by omega), e11, e_up_row (by omega), e10, e_up_row (by omega), e9, e_up_row (by omega), e8, e_up_row (by omega), e7, e_up_row (by omega), e6, e_up_row (by omega), e5, e_up_row (by omega), e4, e_up_row (by omega), e3, e_up_row (by omega), e1, e_up_at]
  have k84 : ∀ u, M13 4484 u = if u = t then name else M 4484 u := fun u => by
    rw [e13, e_up_row (by omega), e12, e_up_row (by omega), e11, e_up_row (by omega), e10, e_up_row (by omega), e9, e_up_row (by omega), e8, e_up_row (by omega), e7, e_up_row (by omega), e6, e_up_row (by omega), e5, e_up_row (by omega), e4, e_up_row (by omega), e3, e_up_at, e1, e_up_row (by omega)]
  have k85 : ∀ u, M13 4485 u = if u = t then 0 else M 4485 u := fun u => by
    rw [e13, e_up_row (by omega), e12, e_up_row (by omega), e11, e_up_row (by omega), e10, e_up_row (by omega), e9, e_up_row (by omega), e8, e_up_row (by omega), e7, e_up_row (by omega), e6, e_up_row (by omega), e5, e_up_row (by omega), e4, e_up_at, e3, e_up_row (by omega), e1, e_up_row (by omega)]
  have k86 : ∀ u, M13 4486 u = if u = t then M 4456 86 else M 4486 u := fun u => by
    rw [e13, e_up_row (by omega), e12, e_up_row (by omega), e11, e_up_row (by omega), e10, e_up_row (by omega), e9, e_up_row (by omega), e8, e_up_row (by omega), e7, e_up_row (by omega), e6, e_up_row (by omega), e5, e_up_at, e4, e_up_row (by omega), e3, e_up_row (by omega), e1, e_up_row (by omega)]
  have k87 : ∀ u, M13 4487 u = if u = t then 2147483647 else M 4487 u := fun u => by
    rw [e13, e_up_row (by omega), e12, e_up_row (by omega), e11, e_up_row (by omega), e10, e_up_row (by omega), e9, e_up_row (by omega), e8, e_up_row (by omega), e7, e_up_row (by omega), e6, e_up_at, e5, e_up_row (by omega), e4, e_up_row (by omega), e3, e_up_row (by omega), e1, e_up_row (by omega)]
  have k88 : ∀ u, M13 4488 u = if u = t then M 4456 85 else M 4488 u := fun u => by
    rw [e13, e_up_row (by omega), e12, e_up_row (by omega), e11, e_up_row (by omega), e10, e_up_row (by omega), e9, e_up_row (by omega), e8, e_up_row (by omega), e7, e_up_at, e6, e_up_row (by omega), e5, e_up_row (by omega), e4, e_up_row (by omega), e3, e_up_row (by omega), e1, e_up_row (by omega)]
  have k89 : ∀ u, M13 4489 u = if u = t then -1 else M 4489 u := fun u => by
    rw [e13, e_up_row (by omega), e12, e_up_row (by omega), e11, e_up_row (by omega), e10, e_up_row (by omega), e9, e_up_at, e8, e_up_row (by omega), e7, e_up_row (by omega), e6, e_up_row (by omega), e5, e_up_row (by omega), e4, e_up_row (by omega), e3, e_up_row (by omega), e1, e_up_row (by omega)]
  have k90 : ∀ u, M13 4490 u = if u = t then 0 else M 4490 u := fun u => by
    rw [e13, e_up_row (by omega), e12, e_up_row (by omega), e11, e_up_row (by omega), e10, e_up_at, e9, e_up_row (by omega), e8, e_up_row (by omega), e7, e_up_row (by omega), e6, e_up_row (by omega), e5, e_up_row (by omega), e4, e_up_row (by omega), e3, e_up_row (by omega), e1, e_up_row (by omega)]
  have k91 : ∀ u, M13 4491 u = if u = t then 0 else M 4491 u := fun u => by
    rw [e13, e_up_row (by omega), e12, e_up_row (by omega), e11, e_up_at, e10, e_up_row (by omega), e9, e_up_row (by omega), e8, e_up_row (by omega), e7, e_up_row (by omega), e6, e_up_row (by omega), e5, e_up_row (by omega), e4, e_up_row (by omega), e3, e_up_row (by omega), e1, e_up_row (by omega)]
  have k92 : ∀ u, M13 4492 u = if u = t then 0 else M 4492 u := fun u => by
    rw [e13, e_up_row (by omega), e12, e_up_at, e11, e_up_row (by omega), e10, e_up_row (by omega), e9, e_up_row (by omega), e8, e_up_row (by omega), e7, e_up_row (by omega), e6, e_up_row (by omega), e5, e_up_row (by omega), e4, e_up_row (by omega), e3, e_up_row (by omega), e1, e_up_row (by omega)]
  have k94 : ∀ u, M13 4494 u = if u = t then 0 else M 4494 u := fun u => by
    rw [e13, e_up_at, e12, e_up_row (by omega), e11, e_up_row (by omega), e10, e_up_row (by omega), e9, e_up_row (by omega), e8, e_up_row (by omega), e7, e_up_row (by omega), e6, e_up_row (by omega), e5, e_up_row (by omega), e4, e_up_row (by omega), e3, e_up_row (by omega), e1, e_up_row (by omega)]
  clear e1 e3 e4 e5 e6 e7 e8 e9 e10 e11 e12 e13 c86 c85 c85'
  have hth : ∀ u, u < 560 → n_th M13 u = if u = t then n_new (n_of M) name else n_th M u := fun u hu => by
    by_cases cu : u = t
    · rw [if_pos cu, cu]
      unfold n_th n_new
      refine Prod.ext (funext fun j => ?_) (Prod.ext ?_ ?_)
      · show n_sc M13 t j = _
        unfold n_sc
        rw [k84, k85, k86, k87, k88, k89, k90, k91, if_pos rfl, if_pos rfl, if_pos rfl, if_pos rfl, if_pos rfl, if_pos rfl, if_pos rfl, if_pos rfl]
        show _ = if j = 0 then name else if j = 1 then M 4456 85 else if j = 3 then 2147483647 else if j = 4 then M 4456 86 else if j = 5 then -1 else 0
        by_cases j0 : j = 0
        · simp [j0]
        by_cases j1 : j = 1
        · simp [j1]
        by_cases j2 : j = 2
        · simp [j2]
        by_cases j3 : j = 3
        · simp [j3]
        by_cases j4 : j = 4
        · simp [j4]
        by_cases j5 : j = 5
        · simp [j5]
        by_cases j6 : j = 6
        · simp [j6]
        by_cases j7 : j = 7
        · simp [j7]
        simp [j0, j1, j2, j3, j4, j5, j6, j7]
      · show j_row M13 4492 4493 t = []
        unfold j_row
        rw [k92, if_pos rfl]; rfl
      · show j_row M13 4494 4495 t = []
        unfold j_row
        rw [k94, if_pos rfl]; rfl
    · rw [if_neg cu]
      unfold n_th j_row n_sc
      rw [k84, k85, k86, k87, k88, k89, k90, k91, k92, k94, o13 4493 (by omega), o13 4495 (by omega), if_neg cu, if_neg cu, if_neg cu, if_neg cu, if_neg cu, if_neg cu, if_neg cu, if_neg cu, if_neg cu, if_neg cu]
  have ok2 : ∀ u, u < 560 → j_ok M13 4492 u ∧ j_ok M13 4494 u := fun u hu => by
    have := h2 u hu
    unfold j_ok at *
    rw [k92, k94]
    split <;> omega
  have zz : ∀ r, r < 7 → 0 ≤ M13 4483 r ∧ M13 4483 r ≤ w_mx r := fun r hr => by
    rw [k83]
    by_cases c : r = s
    · rw [if_pos c, c]; omega
    · rw [if_neg c]; exact h1 r hr
  -- the rest: by the sort
  refine ⟨fun ne => absurd (show (s : Int) = 0 by omega) ne, fun e0 => ⟨by omega, fun M14 f14 => ⟨by omega, fun M15 f15 => ⟨by omega, fun M16 f16 => ?_⟩⟩⟩⟩
  have es0 : s = 0 := by omega
  have o16 : ∀ b, b ≠ 4496 → b ≠ 4497 → b ≠ 4499 → M16 b = M13 b := fun b b1 b2 b3 => by rw [f16, e_up_row b3, f15, e_up_row b2, f14, e_up_row b1]
  have c96 : ∀ u, M16 4496 u = if u = (M 4483 s).toNat then 0 else M 4496 u := fun u => by rw [f16, e_up_row (by omega), f15, e_up_row (by omega), f14, e_up_at, o13 4496 (by omega)]
  have c97 : ∀ u, M16 4497 u = if u = (M 4483 s).toNat then 0 else M 4497 u := fun u => by rw [f16, e_up_row (by omega), f15, e_up_at, f14, e_up_row (by omega), o13 4497 (by omega)]
  have c99 : ∀ u, M16 4499 u = if u = (M 4483 s).toNat then 0 else M 4499 u := fun u => by rw [f16, e_up_at, f15, e_up_row (by omega), f14, e_up_row (by omega), o13 4499 (by omega)]
  unfold WX12_make_152 VX12_make_152
  refine ⟨fun n3 => ?_, fun e3' => by omega⟩
  refine hq M16 ⟨fun r hr => by rw [o16 4483 (by omega) (by omega) (by omega)]; exact zz r hr, fun u hu => ?_, fun l hl => ?_, fun v hv => by rw [o16 4503 (by omega) (by omega) (by omega), o13 4503 (by omega)]; exact h4 v hv, fun k hk => by rw [o16 4510 (by omega) (by omega) (by omega), o13 4510 (by omega)]; exact h5 k hk, by rw [o16 4456 (by omega) (by omega) (by omega), k56, if_neg (by omega)]; exact h6⟩ (n_of_ext (fun r => ?_) (fun u => ?_) (fun l => ?_) (fun v => ?_) (fun k => ?_) ?_ ?_ ?_) (fun b hb => by rw [o16 b (by omega) (by omega) (by omega), o13 b (by omega)]) (fun k hk => by rw [o16 4456 (by omega) (by omega) (by omega), k56, if_neg hk])
  · have := ok2 u hu
    unfold j_ok at *
    rw [o16 4492 (by omega) (by omega) (by omega), o16 4494 (by omega) (by omega) (by omega)]; exact this
  · have := h3 l hl
    unfold n_lok j_ok at *
    rw [c96, c97, c99]
    split <;> omega
  · show _ = s_fu (n_of M).1 s ((n_of M).1 s + 1) r
    unfold s_fu
    rw [o16 4483 (by omega) (by omega) (by omega), k83, n_z hs]
    by_cases c : r = s
    · rw [if_pos c, if_pos c, if_pos (by omega)]
    · rw [if_neg c, if_neg c]; rfl
  · show _ = s_fu (n_of M).2.1 (80 * s + ((n_of M).1 s).toNat) _ u
    rw [n_z hs, hT]
    have e16' : n_th M16 u = n_th M13 u := by
      unfold n_th j_row n_sc
      rw [o16 4484 (by omega) (by omega) (by omega), o16 4485 (by omega) (by omega) (by omega), o16 4486 (by omega) (by omega) (by omega), o16 4487 (by omega) (by omega) (by omega), o16 4488 (by omega) (by omega) (by omega), o16 4489 (by omega) (by omega) (by omega), o16 4490 (by omega) (by omega) (by omega), o16 4491 (by omega) (by omega) (by omega), o16 4492 (by omega) (by omega) (by omega), o16 4493 (by omega) (by omega) (by omega), o16 4494 (by omega) (by omega) (by omega), o16 4495 (by omega) (by omega) (by omega)]
    rw [e16']
    unfold s_fu
    by_cases c : u = t
    · rw [if_pos (by omega), if_pos c, hth u (by omega), if_pos c]
    · rw [if_neg c]
      by_cases c5 : u < 560
      · rw [if_pos c5, hth u c5, if_neg c, n_t c5]
      · rw [if_neg c5]; exact (if_neg c5).symm
  · show _ = (if s = 0 then s_fu (n_of M).2.2.1 ((n_of M).1 s).toNat n_L0 else _) l
    rw [if_pos es0, n_z hs]
    unfold s_fu
    by_cases c : l = (M 4483 s).toNat
    · rw [if_pos c, if_pos (by omega)]
      unfold n_lo j_fg j_row j_own
      rw [c96, c97, c99, if_pos c, if_pos c, if_pos c]; rfl
    · rw [if_neg c]
      have : n_lo M16 l = n_lo M l := by
        unfold n_lo j_fg j_row j_own
        rw [c96, c97, c99, if_neg c, if_neg c, if_neg c, o16 4480 (by omega) (by omega) (by omega), o16 4481 (by omega) (by omega) (by omega), o16 4498 (by omega) (by omega) (by omega), o16 4500 (by omega) (by omega) (by omega), o16 4501 (by omega) (by omega) (by omega), o16 4502 (by omega) (by omega) (by omega), o13 4480 (by omega), o13 4481 (by omega), o13 4498 (by omega), o13 4500 (by omega), o13 4501 (by omega), o13 4502 (by omega)]
      rw [this]; rfl
  · show _ = (if s = 3 then _ else (n_of M).2.2.2.1) v
    rw [if_neg (show ¬ s = 3 by omega), n_pt_congr (M := M) (fun b b1 b2 => by rw [o16 b (by omega) (by omega) (by omega), o13 b (by omega)])]; rfl
  · rw [n_sa_congr (M := M) (fun b b1 b2 => by rw [o16 b (by omega) (by omega) (by omega), o13 b (by omega)])]; rfl
  · rw [o16 4456 (by omega) (by omega) (by omega), k56, if_pos rfl]; rfl
  · rw [o16 4456 (by omega) (by omega) (by omega), k56, if_neg (by omega)]; rfl
  · rw [o16 4456 (by omega) (by omega) (by omega), k56, if_neg (by omega)]; rfl
def n_nl (N : n_S) (name : Int) (old : Nat) (fig : s_Fig) : n_S := n_rk (n_own (n_fig (n_mk N 0 (n_new N name)) (N.1 0).toNat fig) (N.1 0).toNat (N.2.2.1 old).2.2) (N.1 0).toNat (N.2.2.1 old).2.1
/-- what a new LOT leaves as it was -/
def j_nfr (M N : e_M) : Prop := (∀ b, (b < 4456 ∨ (4457 ≤ b ∧ b ≤ 4479) ∨ b = 4482 ∨ 4520 ≤ b) → N b = M b) ∧ (∀ j, 3200 ≤ j → N 4480 j = M 4480 j ∧ N 4481 j = M 4481 j) ∧ ∀ k, (k ≠ 38 ∧ k ≠ 39 ∧ k ≠ 85 ∧ k ≠ 87) → N 4456 k = M 4456 k
theorem m_newLot {M : e_M} {old f n : Nat} {name o' f' n' : Int} {fig : s_Fig} {Q : Int → e_M → Prop} (eo : o' = (old : Int)) (ef : f' = (f : Int)) (en : n' = (n : Int)) (h : nn_ok M) (hf : M 4483 0 < 80) (ht : 0 ≤ M 4456 85 ∧ M 4456 85 ≤ 1000) (ho : (old : Int) < M 4483 0) (h32 : 3200 ≤ f) (h48 : f + n ≤ 4800) (n40 : n ≤ 40) (eF : j_fg M f n = fig) (hq : ∀ M', nn_ok M' → n_of M' = n_nl (n_of M) name old fig → j_nfr M M' → Q (M 4483 0) M') : WX12_newLot name o' f' n' M Q := by
  subst eo ef en
  have hz := h.1 0 (by omega)
  have hz : 0 ≤ M 4483 0 := hz.1
  unfold WX12_newLot VX12_newLot
  refine m_make0 (s := 0) rfl h hf ht (fun M1 k1 e1 o1 p1 => ?_)
  obtain ⟨l, el⟩ : ∃ l : Nat, (l : Int) = M 4483 0 := ⟨(M 4483 0).toNat, by omega⟩
  have l80 : l < 80 := by omega
  have z1 : ((n_of M).1 0).toNat = l := by rw [n_z (show 0 < 7 by omega)]; omega
  rw [← el]
  refine ⟨by omega, fun M3 e3 => ?_⟩
  rw [show ((l : Nat) : Int).toNat = l by omega] at e3
  have o3 : ∀ b, b ≠ 4496 → M3 b = M1 b := fun b hb => by rw [e3, e_up_row hb]
  have r80 : M3 4480 = M 4480 := by rw [o3 4480 (by omega), o1 4480 (by omega)]
  have r81 : M3 4481 = M 4481 := by rw [o3 4481 (by omega), o1 4481 (by omega)]
  refine s_up (σ := e_M) (P := fun dd i N => WX12_newLot_20 Q dd old f n l i N) (n := (n : Int)) (i0 := 0) (s := M3) (fun i N => (∀ x, x ≠ 4480 → x ≠ 4481 → N x = M3 x) ∧ (∀ j : Nat, (j : Int) < i → N 4480 (40 * l + j) = M 4480 (f + j) ∧ N 4481 (40 * l + j) = M 4481 (f + j)) ∧ ∀ j, (j < 40 * l ∨ 40 * l + 40 ≤ j) → N 4480 j = M 4480 j ∧ N 4481 j = M 4481 j) (by omega) ⟨fun _ _ _ => rfl, fun j hj => by omega, fun j hj => ⟨by rw [r80], by rw [r81]⟩⟩ ?_ ?_
  · intro d2 N ⟨n1, n2, n3⟩
    have c96 : N 4496 l = (n : Int) := by rw [n1 4496 (by omega) (by omega), e3, e_up_eq]
    have fN : j_fg N (40 * l) (N 4496 l) = fig := by
      rw [c96, ← eF]
      unfold j_fg
      refine s_ar_congr (fun j hj => ?_)
      have := n2 j (by omega)
      rw [this.1, this.2]
    obtain ⟨k4, e4⟩ := N_fig (M := M1) (M' := N) k1 l80 fN (by omega) (fun b b1 b2 b3 => by rw [n1 b b1 b2, o3 b b3]) (fun u hu => by rw [n1 4496 (by omega) (by omega), e3, e_up_ne (fun z => hu z.2)]) (fun j _ hj => by have := n3 j hj; rw [this.1, this.2, o1 4480 (by omega), o1 4481 (by omega)]; exact ⟨rfl, rfl⟩)
    have ne : old ≠ l := by omega
    have old80 : old < 80 := by omega
    have lo4 : (n_of N).2.2.1 old = (n_of M).2.2.1 old := by
      rw [e4, e1]
      show s_fu (s_fu (n_of M).2.2.1 ((n_of M).1 0).toNat n_L0) l _ old = _
      rw [z1, s_fu_ne ne, s_fu_ne ne]
    have lo4' := lo4
    rw [n_l old80, n_l old80] at lo4'
    unfold WX12_newLot_20 VX12_newLot_20
    refine ⟨fun _ => ?_, fun z => by omega⟩
    refine m_loads k4 old80 (fun M5 w5 k5 f5 => ?_)
    obtain ⟨y5, e5⟩ := m_fr_n k4 f5
    have ow : m_own M5 = j_own M old := by rw [w5]; exact congrArg (fun x : n_L => x.2.2) lo4'
    have l87 : M5 4456 87 ≤ 8 := by
      have a1 := congrArg List.length ow
      unfold m_own j_own at a1
      rw [s_ar_len, s_ar_len] at a1
      have a2 := (h.2.2.1 old old80).2.2
      have a3 := k5.1
      unfold j_ok at a2
      omega
    refine m_keeps y5 l80 k5 l87 (fun M6 y6 e6 o6 => ⟨by omega, by omega, fun M7 e7 => ?_⟩)
    rw [show ((l : Nat) : Int).toNat = l by omega, show ((old : Nat) : Int).toNat = old by omega] at e7
    have q99 : M6 4499 old = M 4499 old := by
      rw [o6 4499 (by omega) (by omega) (by omega) (by omega), f5.1 4499 (by omega) (by omega) (by omega) (by omega), n1 4499 (by omega) (by omega), o3 4499 (by omega)]
      have t1 : ((n_of M1).2.2.1 old) = (n_of M).2.2.1 old := by
        rw [e1]
        show s_fu (n_of M).2.2.1 ((n_of M).1 0).toNat n_L0 old = _
        rw [z1, s_fu_ne ne]
      rw [n_l old80, n_l old80] at t1
      have t2 := congrArg (fun x : n_L => x.2.1.length) t1
      have t3 : (j_row M1 4499 4500 old).length = (j_row M 4499 4500 old).length := t2
      unfold j_row at t3
      rw [s_ar_len, s_ar_len] at t3
      have t4 := (h.2.2.1 old old80).2.1.1
      have t5 := (k1.2.2.1 old old80).2.1.1
      omega
    have q00 : M6 4500 = M 4500 := by rw [o6 4500 (by omega) (by omega) (by omega) (by omega), f5.1 4500 (by omega) (by omega) (by omega) (by omega), n1 4500 (by omega) (by omega), o3 4500 (by omega), o1 4500 (by omega)]
    rw [q99] at e7
    have b99 := (h.2.2.1 old old80).2.1
    unfold j_ok at b99
    refine s_up (σ := e_M) (P := fun dd i N => WX12_newLot_106 Q dd old l i N) (n := M 4499 old) (i0 := 0) (s := M7) (fun i N => (∀ x, x ≠ 4500 → N x = M7 x) ∧ (∀ j : Nat, (j : Int) < i → N 4500 (8 * l + j) = M 4500 (8 * old + j)) ∧ ∀ j, (j < 8 * l ∨ 8 * l + 8 ≤ j) → N 4500 j = M 4500 j) (by omega) ⟨fun _ _ => rfl, fun j hj => by omega, fun j hj => by rw [e7, e_up_row (by omega), q00]⟩ ?_ ?_
    · intro d3 A ⟨m1, m2, m3⟩
      have c99 : A 4499 = M7 4499 := m1 4499 (by omega)
      unfold WX12_newLot_106 VX12_newLot_106
      rw [show ((old : Nat) : Int).toNat = old by omega, c99, e7, e_up_ne (fun z => ne z.2), q99]
      refine ⟨by omega, fun _ => ?_, fun z => by omega⟩
      have rA : j_row A 4499 4500 l = j_row M 4499 4500 old := by
        unfold j_row
        rw [c99, e7, e_up_eq]
        refine s_ar_congr (fun j hj => ?_)
        exact m2 j (by omega)
      obtain ⟨y8, e8⟩ := N_rk (M := M6) (M' := A) y6 l80 rA (by unfold j_ok; rw [c99, e7, e_up_eq]; exact b99) ⟨fun b b1 b2 => by rw [m1 b b2, e7, e_up_row b1], fun u hu => by rw [c99, e7, e_up_ne (fun z => hu z.2)], fun j hj => by rw [m3 j hj, q00]⟩
      rw [el]
      refine hq A y8 ?_ ⟨fun b hb => ?_, fun j hj => ?_, fun k hk => ?_⟩
      · rw [e8, e6, e5, e4, e1, ow]
        unfold n_nl
        rw [z1, n_l old80]; rfl
      · rw [m1 b (by omega), e7, e_up_row (by omega), o6 b (by omega) (by omega) (by omega) (by omega), f5.1 b (by omega) (by omega) (by omega) (by omega), n1 b (by omega) (by omega), o3 b (by omega), o1 b (by omega)]
      · have := n3 j (by omega)
        rw [m1 4480 (by omega), m1 4481 (by omega), e7, e_up_row (by omega), e_up_row (by omega), o6 4480 (by omega) (by omega) (by omega) (by omega), o6 4481 (by omega) (by omega) (by omega) (by omega), f5.1 4480 (by omega) (by omega) (by omega) (by omega), f5.1 4481 (by omega) (by omega) (by omega) (by omega)]
        exact this
      · rw [m1 4456 (by omega), e7, e_up_row (by omega), o6 4456 (by omega) (by omega) (by omega) (by omega), f5.2 k hk.1 hk.2.1 hk.2.2.2, n1 4456 (by omega) (by omega), o3 4456 (by omega), p1 k hk.2.2.1]
    · intro d3 i A i1 i2 ⟨m1, m2, m3⟩ ih
      have c99 : A 4499 = M7 4499 := m1 4499 (by omega)
      have cold : A 4500 (8 * old + i.toNat) = M 4500 (8 * old + i.toNat) := m3 _ (by omega)
      unfold WX12_newLot_106 VX12_newLot_106
      rw [show ((old : Nat) : Int).toNat = old by omega, c99, e7, e_up_ne (fun z => ne z.2), q99, s_w (x := 8 * (old : Int)) (by omega) (by omega), s_w (x := 8 * (old : Int) + i) (by omega) (by omega), s_w (x := 8 * (l : Int)) (by omega) (by omega), s_w (x := 8 * (l : Int) + i) (by omega) (by omega), s_w (x := i + 1) (by omega) (by omega), show (8 * (old : Int) + i).toNat = 8 * old + i.toNat by omega, show (8 * (l : Int) + i).toNat = 8 * l + i.toNat by omega]
      refine ⟨by omega, fun z => by omega, fun _ => ⟨by omega, by omega, fun B f1 => ?_⟩⟩
      rw [cold] at f1
      have kB : ∀ j, B 4500 j = if j = 8 * l + i.toNat then M 4500 (8 * old + i.toNat) else A 4500 j := fun j => by rw [f1, e_up_at]
      refine ih B ⟨fun x hx => by rw [f1, e_up_row hx, m1 x hx], fun j hj => ?_, fun j hj => ?_⟩
      · rw [kB]
        by_cases cj : j = i.toNat
        · rw [if_pos (by omega), cj]
        · rw [if_neg (by omega)]; exact m2 j (by omega)
      · rw [kB, if_neg (by omega)]; exact m3 j hj
  · intro d2 i N i1 i2 ⟨n1, n2, n3⟩ ih
    have a1 := n3 (f + i.toNat) (by omega)
    unfold WX12_newLot_20 VX12_newLot_20
    rw [s_w (x := (f : Int) + i) (by omega) (by omega), s_w (x := 40 * (l : Int)) (by omega) (by omega), s_w (x := 40 * (l : Int) + i) (by omega) (by omega), s_w (x := i + 1) (by omega) (by omega), show ((f : Int) + i).toNat = f + i.toNat by omega, show (40 * (l : Int) + i).toNat = 40 * l + i.toNat by omega]
    refine ⟨fun z => by omega, fun _ => ⟨by omega, by omega, fun A g1 => ⟨by omega, by omega, fun B g2 => ?_⟩⟩⟩
    rw [a1.1] at g1
    rw [g1, e_up_row (show 4481 ≠ 4480 by omega), a1.2] at g2
    have k0 : ∀ j, B 4480 j = if j = 40 * l + i.toNat then M 4480 (f + i.toNat) else N 4480 j := fun j => by rw [g2, e_up_row (by omega), e_up_at]
    have k1' : ∀ j, B 4481 j = if j = 40 * l + i.toNat then M 4481 (f + i.toNat) else N 4481 j := fun j => by rw [g2, e_up_at, e_up_row (by omega)]
    refine ih B ⟨fun x x1 x2 => by rw [g2, e_up_row x2, e_up_row x1, n1 x x1 x2], fun j hj => ?_, fun j hj => ?_⟩
    · rw [k0, k1']
      by_cases cj : j = i.toNat
      · rw [if_pos (by omega), if_pos (by omega), cj]; exact ⟨rfl, rfl⟩
      · rw [if_neg (by omega), if_neg (by omega)]; exact n2 j (by omega)
    · rw [k0, k1', if_neg (by omega), if_neg (by omega)]; exact n3 j hj
theorem n_fig_at {N : n_S} {l : Nat} {f : s_Fig} : (n_fig N l f).2.2.1 l = (f, (N.2.2.1 l).2) := s_fu_eq
theorem n_own_at {N : n_S} {l : Nat} {o : s_Own} : (n_own N l o).2.2.1 l = ((N.2.2.1 l).1, (N.2.2.1 l).2.1, o) := s_fu_eq
theorem n_rk_at {N : n_S} {l : Nat} {r : List Int} : (n_rk N l r).2.2.1 l = ((N.2.2.1 l).1, r, (N.2.2.1 l).2.2) := s_fu_eq
/-- and so does the class -/
theorem R_nl {V : Nat → v_D} {S : w_S} {N : n_S} {a name : Int} {old : Nat} {fig : s_Fig} (hR : R_S V S N a) (hz : R_z S) (hf : S.1 0 < 80) (ho : (old : Int) < S.1 0) : R_S V (w_addL S (l_mk name (w_l S old) fig)) (n_nl N name old fig) a := by
  have n0 : N.1 0 = S.1 0 := hR.1.1 0 (by omega)
  have z0 := (hz 0 (by omega)).1
  have lo : N.2.2.1 old = (w_l S old).2 := (hR.2.2.1 old ho).2
  have e : ((n_nl N name old fig).2.2.1 (S.1 0).toNat) = (fig, (w_l S old).2.2.1, (w_l S old).2.2.2) := by
    unfold n_nl
    rw [n0, lo, n_rk_at, n_own_at, n_fig_at]
  have et : (n_nl N name old fig).2.1 = s_fu N.2.1 (S.1 0).toNat (n_new N name) := by
    show s_fu N.2.1 (80 * 0 + (N.1 0).toNat) _ = _
    rw [n0, show 80 * 0 + (S.1 0).toNat = (S.1 0).toNat by omega]
  refine R_addL hR hz hf ⟨?_, e⟩ ?_ rfl (fun j hj => by rw [et, s_fu_ne hj]) (fun j hj => ?_) rfl rfl rfl rfl
  · rw [et, s_fu_eq]
    exact ⟨rfl, rfl, rfl, rfl⟩
  · rw [et, s_fu_eq]; rfl
  · unfold n_nl
    rw [n0]
    show s_fu _ (S.1 0).toNat _ j = _
    rw [s_fu_ne hj]
    show s_fu _ (S.1 0).toNat _ j = _
    rw [s_fu_ne hj]
    show s_fu _ (S.1 0).toNat _ j = _
    rw [s_fu_ne hj]
    show s_fu N.2.2.1 (N.1 0).toNat _ j = _
    rw [n0, s_fu_ne hj]
