/-! THE MODEL: one row changed -/
def n_put (N : n_S) (t k : Nat) (v : Int) : n_S := n_setT N t (s_fu (N.2.1 t).1 k v, (N.2.1 t).2)
def n_on (N : n_S) (t : Nat) (r : List Int) : n_S := n_setT N t ((N.2.1 t).1, r, (N.2.1 t).2.2)
def n_off (N : n_S) (t : Nat) (r : List Int) : n_S := n_setT N t ((N.2.1 t).1, (N.2.1 t).2.1, r)
def n_rk (N : n_S) (l : Nat) (r : List Int) : n_S := n_setL N l ((N.2.2.1 l).1, r, (N.2.2.1 l).2.2)
def n_own (N : n_S) (l : Nat) (o : s_Own) : n_S := n_setL N l ((N.2.2.1 l).1, (N.2.2.1 l).2.1, o)
def n_fig (N : n_S) (l : Nat) (f : s_Fig) : n_S := n_setL N l (f, (N.2.2.1 l).2)
/-- the scratch cells alone: nothing of it counts -/
def n_fr (M M' : e_M) : Prop := (∀ b, b < 4457 ∨ (4483 ≤ b ∧ b ≤ 4516) → b ≠ 4456 → M' b = M b) ∧ (∀ j, j < 3200 → M' 4480 j = M 4480 j ∧ M' 4481 j = M 4481 j)
theorem N_put0 {M : e_M} {t : Nat} {v : Int} (h : nn_ok M) (ht : t < 560) : nn_ok (e_up M 4484 t v) ∧ n_of (e_up M 4484 t v) = n_put (n_of M) t 0 v := by
  have hj := h.2.1 t ht
  obtain ⟨u1, u2⟩ := n_upT h ht (M' := e_up M 4484 t v) (fun b hb => e_up_row (by omega)) (fun b b1 b2 u hu => e_up_ne (fun z => hu z.2)) (fun u hu => e_up_ne (fun z => hu z.2)) (fun j hj => by rw [e_up_row (by omega)]) (fun u hu => e_up_ne (fun z => hu z.2)) (fun j hj => by rw [e_up_row (by omega)]) (by unfold j_ok at *; rw [e_up_row (by omega), e_up_row (by omega)]; exact hj)
  refine ⟨u1, ?_⟩
  rw [u2]
  unfold n_put
  rw [n_t ht]
  have e1 : n_th (e_up M 4484 t v) t = (s_fu (n_th M t).1 0 v, (n_th M t).2) := by
    unfold n_th
    rw [j_row_congr (M := M) (n := 4492) (c := 4493) (e_up_row (by omega)) (e_up_row (by omega)), j_row_congr (M := M) (n := 4494) (c := 4495) (e_up_row (by omega)) (e_up_row (by omega))]
    refine Prod.ext (funext fun j => ?_) rfl
    show n_sc _ t j = s_fu (n_sc M t) 0 v j
    unfold n_sc s_fu
    have c1 : e_up M 4484 t v 4488 = M 4488 := e_up_row (by omega)
    have c2 : e_up M 4484 t v 4485 = M 4485 := e_up_row (by omega)
    have c3 : e_up M 4484 t v 4487 = M 4487 := e_up_row (by omega)
    have c4 : e_up M 4484 t v 4486 = M 4486 := e_up_row (by omega)
    have c5 : e_up M 4484 t v 4489 = M 4489 := e_up_row (by omega)
    have c6 : e_up M 4484 t v 4490 = M 4490 := e_up_row (by omega)
    have c7 : e_up M 4484 t v 4491 = M 4491 := e_up_row (by omega)
    by_cases cj : j = 0
    · subst cj; simp [e_up_eq]
    · simp only [if_neg cj, c1, c2, c3, c4, c5, c6, c7]
  rw [e1]
theorem N_put1 {M : e_M} {t : Nat} {v : Int} (h : nn_ok M) (ht : t < 560) : nn_ok (e_up M 4488 t v) ∧ n_of (e_up M 4488 t v) = n_put (n_of M) t 1 v := by
  have hj := h.2.1 t ht
  obtain ⟨u1, u2⟩ := n_upT h ht (M' := e_up M 4488 t v) (fun b hb => e_up_row (by omega)) (fun b b1 b2 u hu => e_up_ne (fun z => hu z.2)) (fun u hu => e_up_ne (fun z => hu z.2)) (fun j hj => by rw [e_up_row (by omega)]) (fun u hu => e_up_ne (fun z => hu z.2)) (fun j hj => by rw [e_up_row (by omega)]) (by unfold j_ok at *; rw [e_up_row (by omega), e_up_row (by omega)]; exact hj)
  refine ⟨u1, ?_⟩
  rw [u2]
  unfold n_put
  rw [n_t ht]
  have e1 : n_th (e_up M 4488 t v) t = (s_fu (n_th M t).1 1 v, (n_th M t).2) := by
    unfold n_th
    rw [j_row_congr (M := M) (n := 4492) (c := 4493) (e_up_row (by omega)) (e_up_row (by omega)), j_row_congr (M := M) (n := 4494) (c := 4495) (e_up_row (by omega)) (e_up_row (by omega))]
    refine Prod.ext (funext fun j => ?_) rfl
    show n_sc _ t j = s_fu (n_sc M t) 1 v j
    unfold n_sc s_fu
    have c0 : e_up M 4488 t v 4484 = M 4484 := e_up_row (by omega)
    have c2 : e_up M 4488 t v 4485 = M 4485 := e_up_row (by omega)
    have c3 : e_up M 4488 t v 4487 = M 4487 := e_up_row (by omega)
    have c4 : e_up M 4488 t v 4486 = M 4486 := e_up_row (by omega)
    have c5 : e_up M 4488 t v 4489 = M 4489 := e_up_row (by omega)
    have c6 : e_up M 4488 t v 4490 = M 4490 := e_up_row (by omega)
    have c7 : e_up M 4488 t v 4491 = M 4491 := e_up_row (by omega)
    by_cases cj : j = 1
    · subst cj; simp [e_up_eq]
    · simp only [if_neg cj, c0, c2, c3, c4, c5, c6, c7]
  rw [e1]
theorem N_put2 {M : e_M} {t : Nat} {v : Int} (h : nn_ok M) (ht : t < 560) : nn_ok (e_up M 4485 t v) ∧ n_of (e_up M 4485 t v) = n_put (n_of M) t 2 v := by
  have hj := h.2.1 t ht
  obtain ⟨u1, u2⟩ := n_upT h ht (M' := e_up M 4485 t v) (fun b hb => e_up_row (by omega)) (fun b b1 b2 u hu => e_up_ne (fun z => hu z.2)) (fun u hu => e_up_ne (fun z => hu z.2)) (fun j hj => by rw [e_up_row (by omega)]) (fun u hu => e_up_ne (fun z => hu z.2)) (fun j hj => by rw [e_up_row (by omega)]) (by unfold j_ok at *; rw [e_up_row (by omega), e_up_row (by omega)]; exact hj)
  refine ⟨u1, ?_⟩
  rw [u2]
  unfold n_put
  rw [n_t ht]
  have e1 : n_th (e_up M 4485 t v) t = (s_fu (n_th M t).1 2 v, (n_th M t).2) := by
    unfold n_th
    rw [j_row_congr (M := M) (n := 4492) (c := 4493) (e_up_row (by omega)) (e_up_row (by omega)), j_row_congr (M := M) (n := 4494) (c := 4495) (e_up_row (by omega)) (e_up_row (by omega))]
    refine Prod.ext (funext fun j => ?_) rfl
    show n_sc _ t j = s_fu (n_sc M t) 2 v j
    unfold n_sc s_fu
    have c0 : e_up M 4485 t v 4484 = M 4484 := e_up_row (by omega)
    have c1 : e_up M 4485 t v 4488 = M 4488 := e_up_row (by omega)
    have c3 : e_up M 4485 t v 4487 = M 4487 := e_up_row (by omega)
    have c4 : e_up M 4485 t v 4486 = M 4486 := e_up_row (by omega)
    have c5 : e_up M 4485 t v 4489 = M 4489 := e_up_row (by omega)
    have c6 : e_up M 4485 t v 4490 = M 4490 := e_up_row (by omega)
    have c7 : e_up M 4485 t v 4491 = M 4491 := e_up_row (by omega)
    by_cases cj : j = 2
    · subst cj; simp [e_up_eq]
    · simp only [if_neg cj, c0, c1, c3, c4, c5, c6, c7]
  rw [e1]
theorem N_put3 {M : e_M} {t : Nat} {v : Int} (h : nn_ok M) (ht : t < 560) : nn_ok (e_up M 4487 t v) ∧ n_of (e_up M 4487 t v) = n_put (n_of M) t 3 v := by
  have hj := h.2.1 t ht
  obtain ⟨u1, u2⟩ := n_upT h ht (M' := e_up M 4487 t v) (fun b hb => e_up_row (by omega)) (fun b b1 b2 u hu => e_up_ne (fun z => hu z.2)) (fun u hu => e_up_ne (fun z => hu z.2)) (fun j hj => by rw [e_up_row (by omega)]) (fun u hu => e_up_ne (fun z => hu z.2)) (fun j hj => by rw [e_up_row (by omega)]) (by unfold j_ok at *; rw [e_up_row (by omega), e_up_row (by omega)]; exact hj)
  refine ⟨u1, ?_⟩
  rw [u2]
  unfold n_put
  rw [n_t ht]
  have e1 : n_th (e_up M 4487 t v) t = (s_fu (n_th M t).1 3 v, (n_th M t).2) := by
    unfold n_th
    rw [j_row_congr (M := M) (n := 4492) (c := 4493) (e_up_row (by omega)) (e_up_row (by omega)), j_row_congr (M := M) (n := 4494) (c := 4495) (e_up_row (by omega)) (e_up_row (by omega))]
    refine Prod.ext (funext fun j => ?_) rfl
    show n_sc _ t j = s_fu (n_sc M t) 3 v j
    unfold n_sc s_fu
    have c0 : e_up M 4487 t v 4484 = M 4484 := e_up_row (by omega)
    have c1 : e_up M 4487 t v 4488 = M 4488 := e_up_row (by omega)
    have c2 : e_up M 4487 t v 4485 = M 4485 := e_up_row (by omega)
    have c4 : e_up M 4487 t v 4486 = M 4486 := e_up_row (by omega)
    have c5 : e_up M 4487 t v 4489 = M 4489 := e_up_row (by omega)
    have c6 : e_up M 4487 t v 4490 = M 4490 := e_up_row (by omega)
    have c7 : e_up M 4487 t v 4491 = M 4491 := e_up_row (by omega)
    by_cases cj : j = 3
    · subst cj; simp [e_up_eq]
    · simp only [if_neg cj, c0, c1, c2, c4, c5, c6, c7]
  rw [e1]
theorem N_put4 {M : e_M} {t : Nat} {v : Int} (h : nn_ok M) (ht : t < 560) : nn_ok (e_up M 4486 t v) ∧ n_of (e_up M 4486 t v) = n_put (n_of M) t 4 v := by
  have hj := h.2.1 t ht
  obtain ⟨u1, u2⟩ := n_upT h ht (M' := e_up M 4486 t v) (fun b hb => e_up_row (by omega)) (fun b b1 b2 u hu => e_up_ne (fun z => hu z.2)) (fun u hu => e_up_ne (fun z => hu z.2)) (fun j hj => by rw [e_up_row (by omega)]) (fun u hu => e_up_ne (fun z => hu z.2)) (fun j hj => by rw [e_up_row (by omega)]) (by unfold j_ok at *; rw [e_up_row (by omega), e_up_row (by omega)]; exact hj)
  refine ⟨u1, ?_⟩
  rw [u2]
  unfold n_put
  rw [n_t ht]
  have e1 : n_th (e_up M 4486 t v) t = (s_fu (n_th M t).1 4 v, (n_th M t).2) := by
    unfold n_th
    rw [j_row_congr (M := M) (n := 4492) (c := 4493) (e_up_row (by omega)) (e_up_row (by omega)), j_row_congr (M := M) (n := 4494) (c := 4495) (e_up_row (by omega)) (e_up_row (by omega))]
    refine Prod.ext (funext fun j => ?_) rfl
    show n_sc _ t j = s_fu (n_sc M t) 4 v j
    unfold n_sc s_fu
    have c0 : e_up M 4486 t v 4484 = M 4484 := e_up_row (by omega)
    have c1 : e_up M 4486 t v 4488 = M 4488 := e_up_row (by omega)
    have c2 : e_up M 4486 t v 4485 = M 4485 := e_up_row (by omega)
    have c3 : e_up M 4486 t v 4487 = M 4487 := e_up_row (by omega)
    have c5 : e_up M 4486 t v 4489 = M 4489 := e_up_row (by omega)
    have c6 : e_up M 4486 t v 4490 = M 4490 := e_up_row (by omega)
    have c7 : e_up M 4486 t v 4491 = M 4491 := e_up_row (by omega)
    by_cases cj : j = 4
    · subst cj; simp [e_up_eq]
    · simp only [if_neg cj, c0, c1, c2, c3, c5, c6, c7]
  rw [e1]
theorem N_put5 {M : e_M} {t : Nat} {v : Int} (h : nn_ok M) (ht : t < 560) : nn_ok (e_up M 4489 t v) ∧ n_of (e_up M 4489 t v) = n_put (n_of M) t 5 v := by
  have hj := h.2.1 t ht
  obtain ⟨u1, u2⟩ := n_upT h ht (M' := e_up M 4489 t v) (fun b hb => e_up_row (by omega)) (fun b b1 b2 u hu => e_up_ne (fun z => hu z.2)) (fun u hu => e_up_ne (fun z => hu z.2)) (fun j hj => by rw [e_up_row (by omega)]) (fun u hu => e_up_ne (fun z => hu z.2)) (fun j hj => by rw [e_up_row (by omega)]) (by unfold j_ok at *; rw [e_up_row (by omega), e_up_row (by omega)]; exact hj)
  refine ⟨u1, ?_⟩
  rw [u2]
  unfold n_put
  rw [n_t ht]
  have e1 : n_th (e_up M 4489 t v) t = (s_fu (n_th M t).1 5 v, (n_th M t).2) := by
    unfold n_th
    rw [j_row_congr (M := M) (n := 4492) (c := 4493) (e_up_row (by omega)) (e_up_row (by omega)), j_row_congr (M := M) (n := 4494) (c := 4495) (e_up_row (by omega)) (e_up_row (by omega))]
    refine Prod.ext (funext fun j => ?_) rfl
    show n_sc _ t j = s_fu (n_sc M t) 5 v j
    unfold n_sc s_fu
    have c0 : e_up M 4489 t v 4484 = M 4484 := e_up_row (by omega)
    have c1 : e_up M 4489 t v 4488 = M 4488 := e_up_row (by omega)
    have c2 : e_up M 4489 t v 4485 = M 4485 := e_up_row (by omega)
    have c3 : e_up M 4489 t v 4487 = M 4487 := e_up_row (by omega)
    have c4 : e_up M 4489 t v 4486 = M 4486 := e_up_row (by omega)
    have c6 : e_up M 4489 t v 4490 = M 4490 := e_up_row (by omega)
    have c7 : e_up M 4489 t v 4491 = M 4491 := e_up_row (by omega)
    by_cases cj : j = 5
    · subst cj; simp [e_up_eq]
    · simp only [if_neg cj, c0, c1, c2, c3, c4, c6, c7]
  rw [e1]
theorem N_put6 {M : e_M} {t : Nat} {v : Int} (h : nn_ok M) (ht : t < 560) : nn_ok (e_up M 4490 t v) ∧ n_of (e_up M 4490 t v) = n_put (n_of M) t 6 v := by
  have hj := h.2.1 t ht
  obtain ⟨u1, u2⟩ := n_upT h ht (M' := e_up M 4490 t v) (fun b hb => e_up_row (by omega)) (fun b b1 b2 u hu => e_up_ne (fun z => hu z.2)) (fun u hu => e_up_ne (fun z => hu z.2)) (fun j hj => by rw [e_up_row (by omega)]) (fun u hu => e_up_ne (fun z => hu z.2)) (fun j hj => by rw [e_up_row (by omega)]) (by unfold j_ok at *; rw [e_up_row (by omega), e_up_row (by omega)]; exact hj)
  refine ⟨u1, ?_⟩
  rw [u2]
  unfold n_put
  rw [n_t ht]
  have e1 : n_th (e_up M 4490 t v) t = (s_fu (n_th M t).1 6 v, (n_th M t).2) := by
    unfold n_th
    rw [j_row_congr (M := M) (n := 4492) (c := 4493) (e_up_row (by omega)) (e_up_row (by omega)), j_row_congr (M := M) (n := 4494) (c := 4495) (e_up_row (by omega)) (e_up_row (by omega))]
    refine Prod.ext (funext fun j => ?_) rfl
    show n_sc _ t j = s_fu (n_sc M t) 6 v j
    unfold n_sc s_fu
    have c0 : e_up M 4490 t v 4484 = M 4484 := e_up_row (by omega)
    have c1 : e_up M 4490 t v 4488 = M 4488 := e_up_row (by omega)
    have c2 : e_up M 4490 t v 4485 = M 4485 := e_up_row (by omega)
    have c3 : e_up M 4490 t v 4487 = M 4487 := e_up_row (by omega)
    have c4 : e_up M 4490 t v 4486 = M 4486 := e_up_row (by omega)
    have c5 : e_up M 4490 t v 4489 = M 4489 := e_up_row (by omega)
    have c7 : e_up M 4490 t v 4491 = M 4491 := e_up_row (by omega)
    by_cases cj : j = 6
    · subst cj; simp [e_up_eq]
    · simp only [if_neg cj, c0, c1, c2, c3, c4, c5, c7]
  rw [e1]
theorem N_put7 {M : e_M} {t : Nat} {v : Int} (h : nn_ok M) (ht : t < 560) : nn_ok (e_up M 4491 t v) ∧ n_of (e_up M 4491 t v) = n_put (n_of M) t 7 v := by
  have hj := h.2.1 t ht
  obtain ⟨u1, u2⟩ := n_upT h ht (M' := e_up M 4491 t v) (fun b hb => e_up_row (by omega)) (fun b b1 b2 u hu => e_up_ne (fun z => hu z.2)) (fun u hu => e_up_ne (fun z => hu z.2)) (fun j hj => by rw [e_up_row (by omega)]) (fun u hu => e_up_ne (fun z => hu z.2)) (fun j hj => by rw [e_up_row (by omega)]) (by unfold j_ok at *; rw [e_up_row (by omega), e_up_row (by omega)]; exact hj)
  refine ⟨u1, ?_⟩
  rw [u2]
  unfold n_put
  rw [n_t ht]
  have e1 : n_th (e_up M 4491 t v) t = (s_fu (n_th M t).1 7 v, (n_th M t).2) := by
    unfold n_th
    rw [j_row_congr (M := M) (n := 4492) (c := 4493) (e_up_row (by omega)) (e_up_row (by omega)), j_row_congr (M := M) (n := 4494) (c := 4495) (e_up_row (by omega)) (e_up_row (by omega))]
    refine Prod.ext (funext fun j => ?_) rfl
    show n_sc _ t j = s_fu (n_sc M t) 7 v j
    unfold n_sc s_fu
    have c0 : e_up M 4491 t v 4484 = M 4484 := e_up_row (by omega)
    have c1 : e_up M 4491 t v 4488 = M 4488 := e_up_row (by omega)
    have c2 : e_up M 4491 t v 4485 = M 4485 := e_up_row (by omega)
    have c3 : e_up M 4491 t v 4487 = M 4487 := e_up_row (by omega)
    have c4 : e_up M 4491 t v 4486 = M 4486 := e_up_row (by omega)
    have c5 : e_up M 4491 t v 4489 = M 4489 := e_up_row (by omega)
    have c6 : e_up M 4491 t v 4490 = M 4490 := e_up_row (by omega)
    by_cases cj : j = 7
    · subst cj; simp [e_up_eq]
    · simp only [if_neg cj, c0, c1, c2, c3, c4, c5, c6]
  rw [e1]
theorem N_on {M M' : e_M} {t : Nat} {r : List Int} (h : nn_ok M) (ht : t < 560) (q1 : j_row M' 4492 4493 t = r) (q2 : j_ok M' 4492 t) (f : j_fr M M' 4492 4493 t) : nn_ok M' ∧ n_of M' = n_on (n_of M) t r := by
  have hj := h.2.1 t ht
  have o : ∀ b, b ≠ 4492 → b ≠ 4493 → M' b = M b := f.1
  obtain ⟨u1, u2⟩ := n_upT h ht (M' := M') (fun b hb => o b (by omega) (by omega)) (fun b b1 b2 u hu => by rw [o b (by omega) (by omega)]) f.2.1 f.2.2 (fun u hu => by rw [o 4494 (by omega) (by omega)]) (fun j hj => by rw [o 4495 (by omega) (by omega)]) ⟨q2, by unfold j_ok at *; rw [o 4494 (by omega) (by omega)]; exact hj.2⟩
  refine ⟨u1, ?_⟩
  rw [u2]
  unfold n_on
  rw [n_t ht]
  unfold n_th
  rw [n_sc_congr (M := M) (fun b b1 b2 => by rw [o b (by omega) (by omega)]), q1, j_row_congr (M := M) (n := 4494) (c := 4495) (o _ (by omega) (by omega)) (o _ (by omega) (by omega))]
theorem N_off {M M' : e_M} {t : Nat} {r : List Int} (h : nn_ok M) (ht : t < 560) (q1 : j_row M' 4494 4495 t = r) (q2 : j_ok M' 4494 t) (f : j_fr M M' 4494 4495 t) : nn_ok M' ∧ n_of M' = n_off (n_of M) t r := by
  have hj := h.2.1 t ht
  have o : ∀ b, b ≠ 4494 → b ≠ 4495 → M' b = M b := f.1
  obtain ⟨u1, u2⟩ := n_upT h ht (M' := M') (fun b hb => o b (by omega) (by omega)) (fun b b1 b2 u hu => by rw [o b (by omega) (by omega)]) (fun u hu => by rw [o 4492 (by omega) (by omega)]) (fun j hj => by rw [o 4493 (by omega) (by omega)]) f.2.1 f.2.2 ⟨by unfold j_ok at *; rw [o 4492 (by omega) (by omega)]; exact hj.1, q2⟩
  refine ⟨u1, ?_⟩
  rw [u2]
  unfold n_off
  rw [n_t ht]
  unfold n_th
  rw [n_sc_congr (M := M) (fun b b1 b2 => by rw [o b (by omega) (by omega)]), q1, j_row_congr (M := M) (n := 4492) (c := 4493) (o _ (by omega) (by omega)) (o _ (by omega) (by omega))]
theorem N_rk {M M' : e_M} {l : Nat} {r : List Int} (h : nn_ok M) (hl : l < 80) (q1 : j_row M' 4499 4500 l = r) (q2 : j_ok M' 4499 l) (f : j_fr M M' 4499 4500 l) : nn_ok M' ∧ n_of M' = n_rk (n_of M) l r := by
  have hj := h.2.2.1 l hl
  have o : ∀ b, b ≠ 4499 → b ≠ 4500 → M' b = M b := f.1
  obtain ⟨u1, u2⟩ := n_upL h hl (M' := M') (fun b b1 b2 b3 => o b (by omega) (by omega)) (fun j _ _ => ⟨by rw [o 4480 (by omega) (by omega)], by rw [o 4481 (by omega) (by omega)]⟩) (fun u hu => ⟨by rw [o 4496 (by omega) (by omega)], by rw [o 4497 (by omega) (by omega)], f.2.1 u hu⟩) (fun j hj => ⟨by rw [o 4498 (by omega) (by omega)], f.2.2 j hj, by rw [o 4501 (by omega) (by omega)], by rw [o 4502 (by omega) (by omega)]⟩) (by
    unfold n_lok j_ok at *
    rw [o 4496 (by omega) (by omega), o 4497 (by omega) (by omega)]
    exact ⟨hj.1, q2, hj.2.2⟩)
  refine ⟨u1, ?_⟩
  rw [u2]
  unfold n_rk
  rw [n_l hl]
  unfold n_lo
  rw [q1]
  unfold j_fg j_own
  rw [o 4480 (by omega) (by omega), o 4481 (by omega) (by omega), o 4496 (by omega) (by omega), o 4497 (by omega) (by omega), o 4498 (by omega) (by omega), o 4501 (by omega) (by omega), o 4502 (by omega) (by omega)]
theorem N_own {M M' : e_M} {l : Nat} {ow : s_Own} (h : nn_ok M) (hl : l < 80) (q1 : j_own M' l = ow) (q2 : j_ok M' 4497 l) (o : ∀ b, b ≠ 4497 → b ≠ 4498 → b ≠ 4501 → b ≠ 4502 → M' b = M b) (f1 : ∀ u, u ≠ l → M' 4497 u = M 4497 u) (f2 : ∀ j, (j < 8 * l ∨ 8 * l + 8 ≤ j) → M' 4498 j = M 4498 j ∧ M' 4501 j = M 4501 j ∧ M' 4502 j = M 4502 j) : nn_ok M' ∧ n_of M' = n_own (n_of M) l ow := by
  have hj := h.2.2.1 l hl
  obtain ⟨u1, u2⟩ := n_upL h hl (M' := M') (fun b b1 b2 b3 => o b (by omega) (by omega) (by omega) (by omega)) (fun j _ _ => ⟨by rw [o 4480 (by omega) (by omega) (by omega) (by omega)], by rw [o 4481 (by omega) (by omega) (by omega) (by omega)]⟩) (fun u hu => ⟨by rw [o 4496 (by omega) (by omega) (by omega) (by omega)], f1 u hu, by rw [o 4499 (by omega) (by omega) (by omega) (by omega)]⟩) (fun j hj => ⟨(f2 j hj).1, by rw [o 4500 (by omega) (by omega) (by omega) (by omega)], (f2 j hj).2.1, (f2 j hj).2.2⟩) (by
    unfold n_lok j_ok at *
    rw [o 4496 (by omega) (by omega) (by omega) (by omega), o 4499 (by omega) (by omega) (by omega) (by omega)]
    exact ⟨hj.1, hj.2.1, q2⟩)
  refine ⟨u1, ?_⟩
  rw [u2]
  unfold n_own
  rw [n_l hl]
  unfold n_lo
  rw [q1]
  unfold j_fg j_row
  rw [o 4480 (by omega) (by omega) (by omega) (by omega), o 4481 (by omega) (by omega) (by omega) (by omega), o 4496 (by omega) (by omega) (by omega) (by omega), o 4499 (by omega) (by omega) (by omega) (by omega), o 4500 (by omega) (by omega) (by omega) (by omega)]
