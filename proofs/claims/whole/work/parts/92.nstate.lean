/-! THE MODEL: what it holds, as a value -/
abbrev n_L : Type := s_Fig × List Int × s_Own
abbrev n_X : Type := (Nat → Int) × List Int × s_Fig
/-- how many of each sort; things (LOTS too) by 80 s + i; LOTS' FIGURES, CHARGES, OWNERS; SERVES' POINTS; SALES; turn, DAY, SALES in all -/
abbrev n_S : Type := (Nat → Int) × (Nat → w_T) × (Nat → n_L) × (Nat → s_Fig) × (Nat → n_X) × (Int × Int × Int)
def n_sc (M : e_M) (t : Nat) : Nat → Int := fun k => if k = 0 then M 4484 t else if k = 1 then M 4488 t else if k = 2 then M 4485 t else if k = 3 then M 4487 t else if k = 4 then M 4486 t else if k = 5 then M 4489 t else if k = 6 then M 4490 t else if k = 7 then M 4491 t else 0
def n_th (M : e_M) (t : Nat) : w_T := (n_sc M t, j_row M 4492 4493 t, j_row M 4494 4495 t)
def j_fg (M : e_M) (f : Nat) (n : Int) : s_Fig := s_ar (fun k => (M 4480 (f + k), M 4481 (f + k))) n
def j_own (M : e_M) (l : Nat) : s_Own := s_ar (fun k => (M 4498 (8 * l + k), M 4501 (8 * l + k), M 4502 (8 * l + k))) (M 4497 l)
def n_lo (M : e_M) (l : Nat) : n_L := (j_fg M (40 * l) (M 4496 l), j_row M 4499 4500 l, j_own M l)
def n_pt (M : e_M) (v : Nat) : s_Fig := s_ar (fun k => (M 4504 (12 * v + k), M 4505 (12 * v + k))) (M 4503 v)
def n_ss (M : e_M) (k : Nat) : Nat → Int := fun j => if j = 0 then M 4506 k else if j = 1 then M 4509 k else if j = 4 then M 4508 k else if j = 5 then M 4507 k else if j = 8 then M 4516 k else if j = 12 then M 4512 k else if j = 13 then M 4513 k else 0
def n_sa (M : e_M) (k : Nat) : n_X := (n_ss M k, s_ar (fun i => M 4511 (6 * k + i)) (M 4510 k), s_ar (fun i => (M 4514 (6 * k + i), M 4515 (6 * k + i))) (M 4510 k))
def n_T0 : w_T := (fun _ => 0, [], [])
def n_L0 : n_L := ([], [], [])
def n_X0 : n_X := (fun _ => 0, [], [])
def n_of (M : e_M) : n_S := (fun s => if s < 7 then M 4483 s else 0, fun t => if t < 560 then n_th M t else n_T0, fun l => if l < 80 then n_lo M l else n_L0, fun v => if v < 80 then n_pt M v else [], fun k => if k < 60 then n_sa M k else n_X0, M 4456 85, M 4456 86, M 4456 73)
def n_lok (M : e_M) (l : Nat) : Prop := (0 ≤ M 4496 l ∧ M 4496 l ≤ 40) ∧ j_ok M 4499 l ∧ j_ok M 4497 l
def nn_ok (M : e_M) : Prop := (∀ s, s < 7 → 0 ≤ M 4483 s ∧ M 4483 s ≤ w_mx s) ∧ (∀ t, t < 560 → j_ok M 4492 t ∧ j_ok M 4494 t) ∧ (∀ l, l < 80 → n_lok M l) ∧ (∀ v, v < 80 → 0 ≤ M 4503 v ∧ M 4503 v ≤ 12) ∧ (∀ k, k < 60 → 0 ≤ M 4510 k ∧ M 4510 k ≤ 6) ∧ (0 ≤ M 4456 73 ∧ M 4456 73 ≤ 60)
theorem n_t {M : e_M} {t : Nat} (h : t < 560) : (n_of M).2.1 t = n_th M t := if_pos h
theorem n_l {M : e_M} {l : Nat} (h : l < 80) : (n_of M).2.2.1 l = n_lo M l := if_pos h
theorem n_v {M : e_M} {v : Nat} (h : v < 80) : (n_of M).2.2.2.1 v = n_pt M v := if_pos h
theorem n_k {M : e_M} {k : Nat} (h : k < 60) : (n_of M).2.2.2.2.1 k = n_sa M k := if_pos h
theorem n_z {M : e_M} {s : Nat} (h : s < 7) : (n_of M).1 s = M 4483 s := if_pos h
def n_setT (N : n_S) (t : Nat) (x : w_T) : n_S := (N.1, s_fu N.2.1 t x, N.2.2)
def n_setL (N : n_S) (l : Nat) (x : n_L) : n_S := (N.1, N.2.1, s_fu N.2.2.1 l x, N.2.2.2)
theorem n_sc_congr {M M' : e_M} {t : Nat} (h : ∀ b, 4484 ≤ b → b ≤ 4491 → M' b t = M b t) : n_sc M' t = n_sc M t := by
  unfold n_sc
  rw [h 4484 (by omega) (by omega), h 4485 (by omega) (by omega), h 4486 (by omega) (by omega), h 4487 (by omega) (by omega), h 4488 (by omega) (by omega), h 4489 (by omega) (by omega), h 4490 (by omega) (by omega), h 4491 (by omega) (by omega)]
theorem n_lo_congr {M M' : e_M} {l : Nat} (h : ∀ b, (b = 4480 ∨ b = 4481 ∨ (4496 ≤ b ∧ b ≤ 4502)) → M' b = M b) : n_lo M' l = n_lo M l := by
  unfold n_lo j_fg j_own j_row
  rw [h 4480 (by omega), h 4481 (by omega), h 4496 (by omega), h 4497 (by omega), h 4498 (by omega), h 4499 (by omega), h 4500 (by omega), h 4501 (by omega), h 4502 (by omega)]
theorem n_pt_congr {M M' : e_M} {v : Nat} (h : ∀ b, 4503 ≤ b → b ≤ 4505 → M' b = M b) : n_pt M' v = n_pt M v := by
  unfold n_pt
  rw [h 4503 (by omega) (by omega), h 4504 (by omega) (by omega), h 4505 (by omega) (by omega)]
theorem n_sa_congr {M M' : e_M} {k : Nat} (h : ∀ b, 4506 ≤ b → b ≤ 4516 → M' b = M b) : n_sa M' k = n_sa M k := by
  unfold n_sa n_ss
  rw [h 4506 (by omega) (by omega), h 4507 (by omega) (by omega), h 4508 (by omega) (by omega), h 4509 (by omega) (by omega), h 4510 (by omega) (by omega), h 4511 (by omega) (by omega), h 4512 (by omega) (by omega), h 4513 (by omega) (by omega), h 4514 (by omega) (by omega), h 4515 (by omega) (by omega), h 4516 (by omega) (by omega)]
theorem n_of_ext {M' : e_M} {N : n_S} (h1 : ∀ s, (if s < 7 then M' 4483 s else 0) = N.1 s) (h2 : ∀ t, (if t < 560 then n_th M' t else n_T0) = N.2.1 t) (h3 : ∀ l, (if l < 80 then n_lo M' l else n_L0) = N.2.2.1 l) (h4 : ∀ v, (if v < 80 then n_pt M' v else []) = N.2.2.2.1 v) (h5 : ∀ k, (if k < 60 then n_sa M' k else n_X0) = N.2.2.2.2.1 k) (h6 : M' 4456 85 = N.2.2.2.2.2.1) (h7 : M' 4456 86 = N.2.2.2.2.2.2.1) (h8 : M' 4456 73 = N.2.2.2.2.2.2.2) : n_of M' = N :=
  Prod.ext (funext h1) (Prod.ext (funext h2) (Prod.ext (funext h3) (Prod.ext (funext h4) (Prod.ext (funext h5) (Prod.ext h6 (Prod.ext h7 h8))))))
/-- nothing that counts has changed -/
theorem n_same {M M' : e_M} (h : nn_ok M) (f : ∀ b, (4483 ≤ b ∧ b ≤ 4516) → M' b = M b) (fg : ∀ j, j < 3200 → M' 4480 j = M 4480 j ∧ M' 4481 j = M 4481 j) (f4 : M' 4456 85 = M 4456 85 ∧ M' 4456 86 = M 4456 86 ∧ M' 4456 73 = M 4456 73) : nn_ok M' ∧ n_of M' = n_of M := by
  obtain ⟨h1, h2, h3, h4, h5, h6⟩ := h
  refine ⟨⟨fun s hs => by rw [f _ (by omega)]; exact h1 s hs, fun t ht => ?_, fun l hl => ?_, fun v hv => by rw [f _ (by omega)]; exact h4 v hv, fun k hk => by rw [f _ (by omega)]; exact h5 k hk, by rw [f4.2.2]; exact h6⟩, ?_⟩
  · have := h2 t ht
    unfold j_ok at *
    rw [f 4492 (by omega), f 4494 (by omega)]
    exact this
  · have := h3 l hl
    unfold n_lok j_ok at *
    rw [f 4496 (by omega), f 4497 (by omega), f 4499 (by omega)]
    exact this
  · refine n_of_ext (fun s => ?_) (fun t => ?_) (fun l => ?_) (fun v => ?_) (fun k => ?_) f4.1 f4.2.1 f4.2.2
    · rw [f _ (by omega)]; rfl
    · show _ = if t < 560 then n_th M t else n_T0
      unfold n_th
      rw [n_sc_congr (M := M) (fun b b1 b2 => by rw [f b (by omega)]), j_row_congr (M := M) (f 4492 (by omega)) (f 4493 (by omega)), j_row_congr (M := M) (f 4494 (by omega)) (f 4495 (by omega))]
    · show _ = if l < 80 then n_lo M l else n_L0
      by_cases c : l < 80
      · rw [if_pos c, if_pos c]
        unfold n_lo j_fg j_own j_row
        have hlk := (h3 l c).1
        rw [f 4496 (by omega), f 4497 (by omega), f 4498 (by omega), f 4499 (by omega), f 4500 (by omega), f 4501 (by omega), f 4502 (by omega)]
        have : s_ar (fun k => (M' 4480 (40 * l + k), M' 4481 (40 * l + k))) (M 4496 l) = s_ar (fun k => (M 4480 (40 * l + k), M 4481 (40 * l + k))) (M 4496 l) := s_ar_congr (fun k hk => by
          have := fg (40 * l + k) (by omega)
          rw [this.1, this.2])
        rw [this]
      · rw [if_neg c, if_neg c]
    · show _ = if v < 80 then n_pt M v else []
      rw [n_pt_congr (M := M) (fun b b1 b2 => f b (by omega))]
    · show _ = if k < 60 then n_sa M k else n_X0
      rw [n_sa_congr (M := M) (fun b b1 b2 => f b (by omega))]
/-- one thing alone has changed -/
theorem n_upT {M M' : e_M} {t : Nat} (h : nn_ok M) (ht : t < 560) (f : ∀ b, (b < 4484 ∨ 4496 ≤ b) → M' b = M b) (fs : ∀ b, 4484 ≤ b → b ≤ 4491 → ∀ u, u ≠ t → M' b u = M b u) (f1 : ∀ u, u ≠ t → M' 4492 u = M 4492 u) (f2 : ∀ j, (j < 8 * t ∨ 8 * t + 8 ≤ j) → M' 4493 j = M 4493 j) (f3 : ∀ u, u ≠ t → M' 4494 u = M 4494 u) (f4 : ∀ j, (j < 8 * t ∨ 8 * t + 8 ≤ j) → M' 4495 j = M 4495 j) (ho : j_ok M' 4492 t ∧ j_ok M' 4494 t) : nn_ok M' ∧ n_of M' = n_setT (n_of M) t (n_th M' t) := by
  obtain ⟨h1, h2, h3, h4, h5, h6⟩ := h
  refine ⟨⟨fun s hs => by rw [f _ (by omega)]; exact h1 s hs, fun u hu => ?_, fun l hl => ?_, fun v hv => by rw [f _ (by omega)]; exact h4 v hv, fun k hk => by rw [f _ (by omega)]; exact h5 k hk, by rw [f _ (by omega)]; exact h6⟩, ?_⟩
  · by_cases c : u = t
    · rw [c]; exact ho
    · have := h2 u hu
      unfold j_ok at *
      rw [f1 u c, f3 u c]
      exact this
  · have := h3 l hl
    unfold n_lok j_ok at *
    rw [f 4496 (by omega), f 4497 (by omega), f 4499 (by omega)]
    exact this
  · refine n_of_ext (fun s => ?_) (fun u => ?_) (fun l => ?_) (fun v => ?_) (fun k => ?_) (by rw [f 4456 (by omega)]; rfl) (by rw [f 4456 (by omega)]; rfl) (by rw [f 4456 (by omega)]; rfl)
    · rw [f _ (by omega)]; rfl
    · show _ = s_fu _ _ _ u
      unfold s_fu
      by_cases c : u = t
      · subst c; rw [if_pos ht, if_pos rfl]
      · rw [if_neg c]
        show _ = if u < 560 then n_th M u else n_T0
        by_cases c2 : u < 560
        · rw [if_pos c2, if_pos c2]
          unfold n_th
          rw [n_sc_congr (M := M) (fun b b1 b2 => fs b b1 b2 u c)]
          have o := h2 u c2
          have r1 : j_row M' 4492 4493 u = j_row M 4492 4493 u := by
            unfold j_row
            rw [f1 u c]
            exact s_ar_congr (fun k hk => f2 _ (by have := o.1.2; omega))
          have r2 : j_row M' 4494 4495 u = j_row M 4494 4495 u := by
            unfold j_row
            rw [f3 u c]
            exact s_ar_congr (fun k hk => f4 _ (by have := o.2.2; omega))
          rw [r1, r2]
        · rw [if_neg c2, if_neg c2]
    · show _ = if l < 80 then n_lo M l else n_L0
      rw [n_lo_congr (M := M) (fun b hb => f b (by omega))]
    · show _ = if v < 80 then n_pt M v else []
      rw [n_pt_congr (M := M) (fun b b1 b2 => f b (by omega))]
    · show _ = if k < 60 then n_sa M k else n_X0
      rw [n_sa_congr (M := M) (fun b b1 b2 => f b (by omega))]
/-- one LOT's FIGURE, CHARGES or OWNERS alone have changed -/
theorem n_upL {M M' : e_M} {l : Nat} (h : nn_ok M) (hl : l < 80) (f : ∀ b, b ≠ 4480 → b ≠ 4481 → (b < 4496 ∨ 4502 < b) → M' b = M b) (fg : ∀ j, j < 3200 → (j < 40 * l ∨ 40 * l + 40 ≤ j) → M' 4480 j = M 4480 j ∧ M' 4481 j = M 4481 j) (f1 : ∀ u, u ≠ l → M' 4496 u = M 4496 u ∧ M' 4497 u = M 4497 u ∧ M' 4499 u = M 4499 u) (f2 : ∀ j, (j < 8 * l ∨ 8 * l + 8 ≤ j) → M' 4498 j = M 4498 j ∧ M' 4500 j = M 4500 j ∧ M' 4501 j = M 4501 j ∧ M' 4502 j = M 4502 j) (ho : n_lok M' l) : nn_ok M' ∧ n_of M' = n_setL (n_of M) l (n_lo M' l) := by
  obtain ⟨h1, h2, h3, h4, h5, h6⟩ := h
  refine ⟨⟨fun s hs => by rw [f _ (by omega) (by omega) (by omega)]; exact h1 s hs, fun u hu => ?_, fun u hu => ?_, fun v hv => by rw [f _ (by omega) (by omega) (by omega)]; exact h4 v hv, fun k hk => by rw [f _ (by omega) (by omega) (by omega)]; exact h5 k hk, by rw [f _ (by omega) (by omega) (by omega)]; exact h6⟩, ?_⟩
  · have := h2 u hu
    unfold j_ok at *
    rw [f 4492 (by omega) (by omega) (by omega), f 4494 (by omega) (by omega) (by omega)]
    exact this
  · by_cases c : u = l
    · rw [c]; exact ho
    · have := h3 u hu
      unfold n_lok j_ok at *
      rw [(f1 u c).1, (f1 u c).2.1, (f1 u c).2.2]
      exact this
  · refine n_of_ext (fun s => ?_) (fun u => ?_) (fun u => ?_) (fun v => ?_) (fun k => ?_) (by rw [f 4456 (by omega) (by omega) (by omega)]; rfl) (by rw [f 4456 (by omega) (by omega) (by omega)]; rfl) (by rw [f 4456 (by omega) (by omega) (by omega)]; rfl)
    · rw [f _ (by omega) (by omega) (by omega)]; rfl
    · show _ = if u < 560 then n_th M u else n_T0
      unfold n_th
      rw [n_sc_congr (M := M) (fun b b1 b2 => by rw [f b (by omega) (by omega) (by omega)]), j_row_congr (M := M) (f 4492 (by omega) (by omega) (by omega)) (f 4493 (by omega) (by omega) (by omega)), j_row_congr (M := M) (f 4494 (by omega) (by omega) (by omega)) (f 4495 (by omega) (by omega) (by omega))]
    · show _ = s_fu _ _ _ u
      unfold s_fu
      by_cases c : u = l
      · subst c; rw [if_pos hl, if_pos rfl]
      · rw [if_neg c]
        show _ = if u < 80 then n_lo M u else n_L0
        by_cases c2 : u < 80
        · rw [if_pos c2, if_pos c2]
          have o := h3 u c2
          have e := f1 u c
          unfold n_lo j_fg j_own j_row
          rw [e.1, e.2.1, e.2.2]
          refine Prod.ext ?_ (Prod.ext ?_ ?_)
          · exact s_ar_congr (fun k hk => by
              have := fg (40 * u + k) (by have := o.1.2; omega) (by have := o.1.2; omega)
              rw [this.1, this.2])
          · exact s_ar_congr (fun k hk => (f2 _ (by have := o.2.1.2; omega)).2.1)
          · exact s_ar_congr (fun k hk => by
              have := f2 (8 * u + k) (by have := o.2.2.2; omega)
              rw [this.1, this.2.2.1, this.2.2.2])
        · rw [if_neg c2, if_neg c2]
    · show _ = if v < 80 then n_pt M v else []
      rw [n_pt_congr (M := M) (fun b b1 b2 => f b (by omega) (by omega) (by omega))]
    · show _ = if k < 60 then n_sa M k else n_X0
      rw [n_sa_congr (M := M) (fun b b1 b2 => f b (by omega) (by omega) (by omega))]
