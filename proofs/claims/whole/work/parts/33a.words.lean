/-! methods as words over the memory, part 33a -/
def VX10_find_2 (k38 : Nat → Int → Int → Prop) (k2 : Nat → Int → Int → Prop) (Q : Int → Prop) (a0 : Nat) (x1 : Int) (x3 : Int) (M : e_M) : Prop :=
  ((0 ≤ (0 : Int) ∧ (0 : Int) < 8) ∧ (((M (a0 + 24) ((0 : Int).toNat)) ≤ x3 → (k38 a0 x1 1)) ∧ (x3 < (M (a0 + 24) ((0 : Int).toNat)) → ((0 ≤ x3 ∧ x3 < 80) ∧ ((¬ (M ((M (a0 + 1) (x3.toNat)).toNat) 0) = x1 → (k2 a0 x1 (e_w32 (x3 + 1)))) ∧ ((M ((M (a0 + 1) (x3.toNat)).toNat) 0) = x1 → (Q (e_w32 ((0 : Int) + x3)))))))))
def VX10_find_38 (k47 : Nat → Int → Int → Int → Prop) (Q : Int → Prop) (a0 : Nat) (x1 : Int) (x3 : Int) (M : e_M) : Prop :=
  ((7 ≤ x3 → (Q (-1))) ∧ (x3 < 7 → (k47 a0 x1 x3 0)))
def VX10_find_47 (k38 : Nat → Int → Int → Prop) (k47 : Nat → Int → Int → Int → Prop) (Q : Int → Prop) (a0 : Nat) (x1 : Int) (x3 : Int) (x4 : Int) (M : e_M) : Prop :=
  ((0 ≤ x3 ∧ x3 < 8) ∧ (((M (a0 + 24) (x3.toNat)) ≤ x4 → (k38 a0 x1 (e_w32 (x3 + 1)))) ∧ (x4 < (M (a0 + 24) (x3.toNat)) → ((0 ≤ x3 ∧ x3 < 8) ∧ ((0 ≤ (e_w32 ((f_kt 1000002 (x3.toNat)) + x4)) ∧ (e_w32 ((f_kt 1000002 (x3.toNat)) + x4)) < 290) ∧ ((¬ (M ((M (a0 + 2) ((e_w32 ((f_kt 1000002 (x3.toNat)) + x4)).toNat)).toNat) 0) = x1 → (k47 a0 x1 x3 (e_w32 (x4 + 1)))) ∧ ((M ((M (a0 + 2) ((e_w32 ((f_kt 1000002 (x3.toNat)) + x4)).toNat)).toNat) 0) = x1 → (Q (e_w32 ((e_w32 (x3 * 100)) + x4))))))))))
def VX10_find (k2 : Nat → Int → Int → Prop) (Q : Int → Prop) (a0 : Nat) (x1 : Int) (M : e_M) : Prop :=
  (k2 a0 x1 0)
def yX10_find (i : Nat) : e_Y := x_get YX10_find [] i
def pX10_findf : List x_I := [(0, 0, 1, 0, 0, 0, []), (1, 5, 1, 3, 0, 0, []), (2, 49, 0, 0, 0, 0, []), (2, 2, 1, 3, 0, 0, []), (3, 4, 1, 0, 0, 0, []), (4, 25, 10, 4, 4, 0, [(0, 20, 8), (0, 1, 24)]), (7, 0, 1, 0, 0, 0, []), (8, 27, 0, 0, 0, 0, []), (9, 18, 36, 3, 23, 0, []), (12, 4, 1, 0, 0, 0, []), (13, 25, 10, 0, 4, 0, [(0, 34, 80), (0, 1, 1)]), (16, 2, 1, 3, 0, 0, []), (17, 27, 0, 3, 0, 0, [(0, 4, 9), (0, 0, 0)]), (18, 25, 4, 0, 3, 0, []), (21, 3, 1, 1, 0, 0, []), (22, 32, 30, 1, 21, 0, []), (26, 0, 1, 0, 0, 0, []), (27, 2, 1, 3, 0, 0, []), (28, 9, 0, 0, 0, 0, []), (29, 41, 0, 0, 0, 0, []), (30, 8, 0, 3, 0, 1, []), (33, 19, 2, 0, 3, 0, []), (36, 0, 1, 0, 0, 1, []), (37, 5, 1, 3, 0, 0, []), (38, 49, 0, 0, 0, 0, []), (38, 2, 1, 3, 0, 0, []), (39, 0, 2, 0, 0, 7, []), (41, 18, 99, 3, 59, 0, []), (44, 0, 1, 0, 0, 0, []), (45, 5, 2, 4, 0, 0, []), (47, 49, 0, 0, 0, 0, []), (47, 2, 2, 4, 0, 0, []), (49, 4, 1, 0, 0, 0, []), (50, 25, 10, 4, 4, 0, [(0, 20, 8), (0, 1, 24)]), (53, 2, 1, 3, 0, 0, []), (54, 27, 0, 0, 0, 0, []), (55, 18, 93, 3, 57, 0, []), (58, 4, 1, 0, 0, 0, []), (59, 25, 10, 1, 4, 0, [(0, 39, 290), (0, 1, 2)]), (62, 35, 3, 1000002, 8, 0, []), (65, 2, 1, 3, 0, 0, []), (66, 27, 0, 0, 0, 0, []), (67, 2, 2, 4, 0, 0, []), (69, 9, 0, 0, 0, 0, []), (70, 27, 0, 3, 0, 0, [(0, 9, 14), (0, 0, 0)]), (71, 25, 9, 0, 3, 0, []), (74, 3, 1, 1, 0, 0, []), (75, 32, 87, 1, 55, 0, []), (79, 2, 1, 3, 0, 0, []), (80, 0, 2, 0, 0, 100, []), (82, 9, 0, 2, 0, 0, []), (83, 2, 2, 4, 0, 0, []), (85, 9, 0, 0, 0, 0, []), (86, 41, 0, 0, 0, 0, []), (87, 8, 0, 4, 0, 1, []), (90, 19, 47, 0, 31, 0, []), (93, 8, 0, 3, 0, 1, []), (96, 19, 38, 0, 25, 0, []), (99, 0, 1, 0, 0, (-1), []), (100, 41, 0, 0, 0, 0, [])]
set_option maxRecDepth 20000 in
theorem qX10_findf : f_all yX10_find YX10_find pX10_findf :=
  ⟨f_iconst (e_dx DX10_find_0 0 rfl) ⟨by decide, by decide⟩,
  f_istore_n (n := 3) (e_dx DX10_find_0 1 rfl) rfl (by decide),
  trivial,
  f_iload_n (n := 3) (e_dx DX10_find_0 2 rfl) rfl,
  f_aload_n (n := 0) (e_dx DX10_find_0 3 rfl) rfl,
  f_getA (e_dx DX10_find_0 4 rfl) fX10_42 rfl (by decide) (Nat.le_of_ble_eq_true rfl) rfl (by decide),
  f_iconst (e_dx DX10_find_0 5 rfl) ⟨by decide, by decide⟩,
  f_iaload (e_dx DX10_find_0 6 rfl),
  f_icmp_ge (e_dx DX10_find_0 7 rfl) rfl,
  f_aload_n (n := 0) (e_dx DX10_find_0 8 rfl) rfl,
  f_getA (e_dx DX10_find_0 9 rfl) fX10_15 rfl (by decide) (Nat.le_of_ble_eq_true rfl) rfl (by decide),
  f_iload_n (n := 3) (e_dx DX10_find_0 10 rfl) rfl,
  f_aaload (e_dx DX10_find_0 11 rfl) (by decide) rfl,
  f_getL (e_dx DX10_find_0 12 rfl) fX10_153 rfl (by decide),
  f_lload_n (n := 1) (e_dx DX10_find_0 13 rfl) rfl,
  f_lif_ne (e_dx DX10_find_0 14 rfl) (e_dx DX10_find_0 15 rfl) rfl,
  f_iconst (e_dx DX10_find_0 16 rfl) ⟨by decide, by decide⟩,
  f_iload_n (n := 3) (e_dx DX10_find_0 17 rfl) rfl,
  f_iadd (e_dx DX10_find_0 18 rfl),
  ⟨(e_dx DX10_find_0 19 rfl), rfl⟩,
  f_g8 (e_dx DX10_find_0 20 rfl) ⟨by decide, by decide⟩,
  f_g19 (e_dx DX10_find_0 21 rfl) rfl,
  f_iconst (e_dx DX10_find_0 22 rfl) ⟨by decide, by decide⟩,
  f_istore_n (n := 3) (e_dx DX10_find_0 23 rfl) rfl (by decide),
  trivial,
  f_iload_n (n := 3) (e_dx DX10_find_0 24 rfl) rfl,
  f_bipush (e_dx DX10_find_0 25 rfl) ⟨by decide, by decide⟩,
  f_icmp_ge (e_dx DX10_find_0 26 rfl) rfl,
  f_iconst (e_dx DX10_find_0 27 rfl) ⟨by decide, by decide⟩,
  f_istore (e_dx DX10_find_0 28 rfl) (by decide),
  trivial,
  f_iload (e_dx DX10_find_0 29 rfl),
  f_aload_n (n := 0) (e_dx DX10_find_0 30 rfl) rfl,
  f_getA (e_dx DX10_find_0 31 rfl) fX10_42 rfl (by decide) (Nat.le_of_ble_eq_true rfl) rfl (by decide),
  f_iload_n (n := 3) (e_dx DX10_find_0 32 rfl) rfl,
  f_iaload (e_dx DX10_find_0 33 rfl),
  f_icmp_ge (e_dx DX10_find_0 34 rfl) rfl,
  f_aload_n (n := 0) (e_dx DX10_find_0 35 rfl) rfl,
  f_getA (e_dx DX10_find_0 36 rfl) fX10_23 rfl (by decide) (Nat.le_of_ble_eq_true rfl) rfl (by decide),
  f_getsN (j := 1) (q := ("LandHouse", "FIRST")) (e_dx DX10_find_0 37 rfl) rfl gX10_132 rfl ⟨rfl, rfl⟩,
  f_iload_n (n := 3) (e_dx DX10_find_0 38 rfl) rfl,
  f_iaload (e_dx DX10_find_0 39 rfl),
  f_iload (e_dx DX10_find_1 0 rfl),
  f_iadd (e_dx DX10_find_1 1 rfl),
  f_aaload (e_dx DX10_find_1 2 rfl) (by decide) rfl,
  f_getL (e_dx DX10_find_1 3 rfl) fX10_157 rfl (by decide),
  f_lload_n (n := 1) (e_dx DX10_find_1 4 rfl) rfl,
  f_lif_ne (e_dx DX10_find_1 5 rfl) (e_dx DX10_find_1 6 rfl) rfl,
  f_iload_n (n := 3) (e_dx DX10_find_1 7 rfl) rfl,
  f_bipush (e_dx DX10_find_1 8 rfl) ⟨by decide, by decide⟩,
  f_imul (e_dx DX10_find_1 9 rfl),
  f_iload (e_dx DX10_find_1 10 rfl),
  f_iadd (e_dx DX10_find_1 11 rfl),
  ⟨(e_dx DX10_find_1 12 rfl), rfl⟩,
  f_g8 (e_dx DX10_find_1 13 rfl) ⟨by decide, by decide⟩,
  f_g19 (e_dx DX10_find_1 14 rfl) rfl,
  f_g8 (e_dx DX10_find_1 15 rfl) ⟨by decide, by decide⟩,
  f_g19 (e_dx DX10_find_1 16 rfl) rfl,
  f_iconst (e_dx DX10_find_1 17 rfl) ⟨by decide, by decide⟩,
  ⟨(e_dx DX10_find_1 18 rfl), rfl⟩, trivial⟩
def lX10_find : List (Nat × f_Wt) := []
set_option maxRecDepth 20000 in
theorem BX10_find_2 {sh : Nat → Nat × Nat} {t : Nat} {rm : Nat × Nat × Nat} {cs : Nat × Nat} {R : f_Rt} {k38 : Nat → Int → Int → Prop} {k2 : Nat → Int → Int → Prop} {a0 : Nat} {x1 : Int} {x3 : Int} {M : e_M} (C : f_Hy sh t yX10_find rm cs 4 (lX10_find) R) (h38 : ∀ (a0 : Nat) (x1 : Int) (x3 : Int), k38 a0 x1 x3 → f_E sh t YX10_find rm cs (f_Q sh t R) 38 [.inr (.inr (.inl (10, 15, a0))), .inr (.inl x1), .inr (.inr (.inr ())), .inl x3, .inr (.inr (.inr ()))] [] M) (h2 : ∀ (a0 : Nat) (x1 : Int) (x3 : Int), k2 a0 x1 x3 → f_E sh t YX10_find rm cs (f_Q sh t R) 2 [.inr (.inr (.inl (10, 15, a0))), .inr (.inl x1), .inr (.inr (.inr ())), .inl x3, .inr (.inr (.inr ()))] [] M) (h : VX10_find_2 k38 k2 (fun r => R (some (.inl r)) M) a0 x1 x3 M) : f_E sh t YX10_find rm cs (f_Q sh t R) 2 [.inr (.inr (.inl (10, 15, a0))), .inr (.inl x1), .inr (.inr (.inr ())), .inl x3, .inr (.inr (.inr ()))] [] M := by
  rw [f_kk3 M k38] at h
  rw [f_kk3 M k2] at h
  exact f_go (KC := f_kc [(38, f_pl [(3, 10, 15), (2, 0, 0), (0, 0, 0), (1, 0, 0), (0, 0, 0)] [] (fun ls st M2 => M2 = M ∧ (k38 (f_va (f_nth ls 0)) (f_vi (f_nth ls 1)) (f_vi (f_nth ls 3))))), (2, f_pl [(3, 10, 15), (2, 0, 0), (0, 0, 0), (1, 0, 0), (0, 0, 0)] [] (fun ls st M2 => M2 = M ∧ (k2 (f_va (f_nth ls 0)) (f_vi (f_nth ls 1)) (f_vi (f_nth ls 3)))))]) C qX10_findf (f_kc_cons (f_pl_ok rfl (fun ls st M2 ⟨e, hh⟩ => by subst e; exact h38 _ _ _ hh)) (f_kc_cons (f_pl_ok rfl (fun ls st M2 ⟨e, hh⟩ => by subst e; exact h2 _ _ _ hh)) f_kc_nil)) 62 3 h
set_option maxRecDepth 20000 in
theorem BX10_find_38 {sh : Nat → Nat × Nat} {t : Nat} {rm : Nat × Nat × Nat} {cs : Nat × Nat} {R : f_Rt} {k47 : Nat → Int → Int → Int → Prop} {a0 : Nat} {x1 : Int} {x3 : Int} {M : e_M} (C : f_Hy sh t yX10_find rm cs 4 (lX10_find) R) (h47 : ∀ (a0 : Nat) (x1 : Int) (x3 : Int) (x4 : Int), k47 a0 x1 x3 x4 → f_E sh t YX10_find rm cs (f_Q sh t R) 47 [.inr (.inr (.inl (10, 15, a0))), .inr (.inl x1), .inr (.inr (.inr ())), .inl x3, .inl x4] [] M) (h : VX10_find_38 k47 (fun r => R (some (.inl r)) M) a0 x1 x3 M) : f_E sh t YX10_find rm cs (f_Q sh t R) 38 [.inr (.inr (.inl (10, 15, a0))), .inr (.inl x1), .inr (.inr (.inr ())), .inl x3, .inr (.inr (.inr ()))] [] M := by
  rw [f_kk4 M k47] at h
  exact f_go (KC := f_kc [(47, f_pl [(3, 10, 15), (2, 0, 0), (0, 0, 0), (1, 0, 0), (1, 0, 0)] [] (fun ls st M2 => M2 = M ∧ (k47 (f_va (f_nth ls 0)) (f_vi (f_nth ls 1)) (f_vi (f_nth ls 3)) (f_vi (f_nth ls 4)))))]) C qX10_findf (f_kc_cons (f_pl_ok rfl (fun ls st M2 ⟨e, hh⟩ => by subst e; exact h47 _ _ _ _ hh)) f_kc_nil) 62 25 h
set_option maxRecDepth 20000 in
theorem BX10_find_47 {sh : Nat → Nat × Nat} {t : Nat} {rm : Nat × Nat × Nat} {cs : Nat × Nat} {R : f_Rt} {k38 : Nat → Int → Int → Prop} {k47 : Nat → Int → Int → Int → Prop} {a0 : Nat} {x1 : Int} {x3 : Int} {x4 : Int} {M : e_M} (C : f_Hy sh t yX10_find rm cs 4 (lX10_find) R) (h38 : ∀ (a0 : Nat) (x1 : Int) (x3 : Int), k38 a0 x1 x3 → f_E sh t YX10_find rm cs (f_Q sh t R) 38 [.inr (.inr (.inl (10, 15, a0))), .inr (.inl x1), .inr (.inr (.inr ())), .inl x3, .inr (.inr (.inr ()))] [] M) (h47 : ∀ (a0 : Nat) (x1 : Int) (x3 : Int) (x4 : Int), k47 a0 x1 x3 x4 → f_E sh t YX10_find rm cs (f_Q sh t R) 47 [.inr (.inr (.inl (10, 15, a0))), .inr (.inl x1), .inr (.inr (.inr ())), .inl x3, .inl x4] [] M) (h : VX10_find_47 k38 k47 (fun r => R (some (.inl r)) M) a0 x1 x3 x4 M) : f_E sh t YX10_find rm cs (f_Q sh t R) 47 [.inr (.inr (.inl (10, 15, a0))), .inr (.inl x1), .inr (.inr (.inr ())), .inl x3, .inl x4] [] M := by
  rw [f_kk3 M k38] at h
  rw [f_kk4 M k47] at h
  exact f_go (KC := f_kc [(38, f_pl [(3, 10, 15), (2, 0, 0), (0, 0, 0), (1, 0, 0), (0, 0, 0)] [] (fun ls st M2 => M2 = M ∧ (k38 (f_va (f_nth ls 0)) (f_vi (f_nth ls 1)) (f_vi (f_nth ls 3))))), (47, f_pl [(3, 10, 15), (2, 0, 0), (0, 0, 0), (1, 0, 0), (1, 0, 0)] [] (fun ls st M2 => M2 = M ∧ (k47 (f_va (f_nth ls 0)) (f_vi (f_nth ls 1)) (f_vi (f_nth ls 3)) (f_vi (f_nth ls 4)))))]) C qX10_findf (f_kc_cons (f_pl_ok rfl (fun ls st M2 ⟨e, hh⟩ => by subst e; exact h38 _ _ _ hh)) (f_kc_cons (f_pl_ok rfl (fun ls st M2 ⟨e, hh⟩ => by subst e; exact h47 _ _ _ _ hh)) f_kc_nil)) 62 31 h
set_option maxRecDepth 20000 in
theorem BX10_find {sh : Nat → Nat × Nat} {t : Nat} {rm : Nat × Nat × Nat} {cs : Nat × Nat} {R : f_Rt} {k2 : Nat → Int → Int → Prop} {a0 : Nat} {x1 : Int} {M : e_M} (C : f_Hy sh t yX10_find rm cs 4 (lX10_find) R) (h2 : ∀ (a0 : Nat) (x1 : Int) (x3 : Int), k2 a0 x1 x3 → f_E sh t YX10_find rm cs (f_Q sh t R) 2 [.inr (.inr (.inl (10, 15, a0))), .inr (.inl x1), .inr (.inr (.inr ())), .inl x3, .inr (.inr (.inr ()))] [] M) (h : VX10_find k2 (fun r => R (some (.inl r)) M) a0 x1 M) : f_E sh t YX10_find rm cs (f_Q sh t R) 0 [.inr (.inr (.inl (10, 15, a0))), .inr (.inl x1), .inr (.inr (.inr ())), .inr (.inr (.inr ())), .inr (.inr (.inr ()))] [] M := by
  rw [f_kk3 M k2] at h
  exact f_go (KC := f_kc [(2, f_pl [(3, 10, 15), (2, 0, 0), (0, 0, 0), (1, 0, 0), (0, 0, 0)] [] (fun ls st M2 => M2 = M ∧ (k2 (f_va (f_nth ls 0)) (f_vi (f_nth ls 1)) (f_vi (f_nth ls 3)))))]) C qX10_findf (f_kc_cons (f_pl_ok rfl (fun ls st M2 ⟨e, hh⟩ => by subst e; exact h2 _ _ _ hh)) f_kc_nil) 62 0 h
def WX10_find_47 (M : e_M) (H38 : Nat → Int → Int → Prop) (Q : Int → Prop) : Nat → Nat → Int → Int → Int → Prop
  | 0, _, _, _, _ => False
  | n + 1, a0, x1, x3, x4 =>
    VX10_find_47 H38 (WX10_find_47 M H38 Q n) Q a0 x1 x3 x4 M
def WX10_find_38 (M : e_M) (Q : Int → Prop) : Nat → Nat → Int → Int → Prop
  | 0, _, _, _ => False
  | n + 1, a0, x1, x3 =>
    VX10_find_38 (fun a0 x1 x3 x4 => ∃ j, WX10_find_47 M (WX10_find_38 M Q n) Q j a0 x1 x3 x4) Q a0 x1 x3 M
def WX10_find_2 (M : e_M) (Q : Int → Prop) : Nat → Nat → Int → Int → Prop
  | 0, _, _, _ => False
  | n + 1, a0, x1, x3 =>
    VX10_find_2 (fun a0 x1 x3 => ∃ j, WX10_find_38 M Q j a0 x1 x3) (WX10_find_2 M Q n) Q a0 x1 x3 M
def WX10_find (a0 : Nat) (x1 : Int) (M : e_M) (Q : Int → Prop) : Prop :=
  VX10_find (fun a0 x1 x3 => ∃ j, WX10_find_2 M Q j a0 x1 x3) Q a0 x1 M
theorem PX10_find_47 {sh : Nat → Nat × Nat} {t : Nat} {rm : Nat × Nat × Nat} {cs : Nat × Nat} {R : f_Rt} {H38 : Nat → Int → Int → Prop} {M : e_M} (C : f_Hy sh t yX10_find rm cs 4 (lX10_find) R) (g38 : ∀ (a0 : Nat) (x1 : Int) (x3 : Int), H38 a0 x1 x3 → f_E sh t YX10_find rm cs (f_Q sh t R) 38 [.inr (.inr (.inl (10, 15, a0))), .inr (.inl x1), .inr (.inr (.inr ())), .inl x3, .inr (.inr (.inr ()))] [] M) : ∀ (n : Nat) (a0 : Nat) (x1 : Int) (x3 : Int) (x4 : Int), WX10_find_47 M H38 (fun r => R (some (.inl r)) M) n a0 x1 x3 x4 → f_E sh t YX10_find rm cs (f_Q sh t R) 47 [.inr (.inr (.inl (10, 15, a0))), .inr (.inl x1), .inr (.inr (.inr ())), .inl x3, .inl x4] [] M := by
  intro n
  induction n with
  | zero => intro a0 x1 x3 x4 h; exact h.elim
  | succ n ih => intro a0 x1 x3 x4 h; exact BX10_find_47 C g38 ih h
theorem PX10_find_38 {sh : Nat → Nat × Nat} {t : Nat} {rm : Nat × Nat × Nat} {cs : Nat × Nat} {R : f_Rt} {M : e_M} (C : f_Hy sh t yX10_find rm cs 4 (lX10_find) R) : ∀ (n : Nat) (a0 : Nat) (x1 : Int) (x3 : Int), WX10_find_38 M (fun r => R (some (.inl r)) M) n a0 x1 x3 → f_E sh t YX10_find rm cs (f_Q sh t R) 38 [.inr (.inr (.inl (10, 15, a0))), .inr (.inl x1), .inr (.inr (.inr ())), .inl x3, .inr (.inr (.inr ()))] [] M := by
  intro n
  induction n with
  | zero => intro a0 x1 x3 h; exact h.elim
  | succ n ih => intro a0 x1 x3 h; exact BX10_find_38 C (fun a0 x1 x3 x4 ⟨j, h⟩ => PX10_find_47 C ih j _ _ _ _ h) h
theorem PX10_find_2 {sh : Nat → Nat × Nat} {t : Nat} {rm : Nat × Nat × Nat} {cs : Nat × Nat} {R : f_Rt} {M : e_M} (C : f_Hy sh t yX10_find rm cs 4 (lX10_find) R) : ∀ (n : Nat) (a0 : Nat) (x1 : Int) (x3 : Int), WX10_find_2 M (fun r => R (some (.inl r)) M) n a0 x1 x3 → f_E sh t YX10_find rm cs (f_Q sh t R) 2 [.inr (.inr (.inl (10, 15, a0))), .inr (.inl x1), .inr (.inr (.inr ())), .inl x3, .inr (.inr (.inr ()))] [] M := by
  intro n
  induction n with
  | zero => intro a0 x1 x3 h; exact h.elim
  | succ n ih => intro a0 x1 x3 h; exact BX10_find_2 C (fun a0 x1 x3 ⟨j, h⟩ => PX10_find_38 C j _ _ _ h) ih h
theorem PX10_find {sh : Nat → Nat × Nat} {t : Nat} {rm : Nat × Nat × Nat} {cs : Nat × Nat} {R : f_Rt} {a0 : Nat} {x1 : Int} {M : e_M} (C : f_Hy sh t yX10_find rm cs 4 (lX10_find) R) (h : WX10_find a0 x1 M (fun r => R (some (.inl r)) M)) : f_E sh t YX10_find rm cs (f_Q sh t R) 0 [.inr (.inr (.inl (10, 15, a0))), .inr (.inl x1), .inr (.inr (.inr ())), .inr (.inr (.inr ())), .inr (.inr (.inr ()))] [] M :=
  BX10_find C (fun a0 x1 x3 ⟨j, h⟩ => PX10_find_2 C j _ _ _ h) h
def wX10_find : f_Wt := f_wm [(3, 10, 15), (2, 0, 0)] (fun ar M R => WX10_find (f_va (f_nth ar 0)) (f_vi (f_nth ar 1)) M (fun r => R (some (.inl r)) M))
theorem TX10_find {sh : Nat → Nat × Nat} {t : Nat} : f_Mt sh t YX10_find 4 (wX10_find) :=
  f_Mt_of (k := 2) (Nat.le_of_ble_eq_true rfl) rfl rfl (fun ar M R rm cs h1 h2 h3 hX h => PX10_find ⟨Nat.le_of_ble_eq_true rfl, h1, h2, h3, trivial, hX⟩ h)
def VX2_isToldBefore_2 (k2 : Nat → Int → Int → Prop) (Q : Int → Prop) (a0 : Nat) (x1 : Int) (x2 : Int) (M : e_M) : Prop :=
  ((x1 ≤ x2 → (Q 0)) ∧ (x2 < x1 → ((0 ≤ x2 ∧ x2 < 8) ∧ ((0 ≤ x1 ∧ x1 < 8) ∧ ((¬ (M (a0 + 1) (x2.toNat)) = (M (a0 + 1) (x1.toNat)) → (k2 a0 x1 (e_w32 (x2 + 1)))) ∧ ((M (a0 + 1) (x2.toNat)) = (M (a0 + 1) (x1.toNat)) → (Q 1)))))))
def VX2_isToldBefore (k2 : Nat → Int → Int → Prop) (Q : Int → Prop) (a0 : Nat) (x1 : Int) (M : e_M) : Prop :=
  (k2 a0 x1 0)
def yX2_isToldBefore (i : Nat) : e_Y := x_get YX2_isToldBefore [] i
def pX2_isToldBeforef : List x_I := [(0, 0, 1, 0, 0, 0, []), (1, 5, 1, 2, 0, 0, []), (2, 49, 0, 0, 0, 0, []), (2, 2, 1, 2, 0, 0, []), (3, 2, 1, 1, 0, 0, []), (4, 18, 31, 3, 20, 0, []), (7, 4, 1, 0, 0, 0, []), (8, 25, 2, 5, 4, 0, [(0, 23, 8), (0, 1, 1)]), (11, 2, 1, 2, 0, 0, []), (12, 27, 0, 1, 0, 0, []), (13, 4, 1, 0, 0, 0, []), (14, 25, 2, 5, 4, 0, [(0, 23, 8), (0, 1, 1)]), (17, 2, 1, 1, 0, 0, []), (18, 27, 0, 1, 0, 0, []), (19, 32, 25, 1, 18, 0, []), (23, 0, 1, 0, 0, 1, []), (24, 48, 0, 0, 0, 0, []), (25, 8, 0, 2, 0, 1, []), (28, 19, 2, 0, 3, 0, []), (31, 0, 1, 0, 0, 0, []), (32, 48, 0, 0, 0, 0, [])]
set_option maxRecDepth 20000 in
theorem qX2_isToldBeforef : f_all yX2_isToldBefore YX2_isToldBefore pX2_isToldBeforef :=
  ⟨f_iconst (e_dx DX2_isToldBefore_0 0 rfl) ⟨by decide, by decide⟩,
  f_istore_n (n := 2) (e_dx DX2_isToldBefore_0 1 rfl) rfl (by decide),
  trivial,
  f_iload_n (n := 2) (e_dx DX2_isToldBefore_0 2 rfl) rfl,
  f_iload_n (n := 1) (e_dx DX2_isToldBefore_0 3 rfl) rfl,
  f_icmp_ge (e_dx DX2_isToldBefore_0 4 rfl) rfl,
  f_aload_n (n := 0) (e_dx DX2_isToldBefore_0 5 rfl) rfl,
  f_getA (e_dx DX2_isToldBefore_0 6 rfl) fX2_9 rfl (by decide) (Nat.le_of_ble_eq_true rfl) rfl (by decide),
  f_iload_n (n := 2) (e_dx DX2_isToldBefore_0 7 rfl) rfl,
  f_laload (e_dx DX2_isToldBefore_0 8 rfl),
  f_aload_n (n := 0) (e_dx DX2_isToldBefore_0 9 rfl) rfl,
  f_getA (e_dx DX2_isToldBefore_0 10 rfl) fX2_9 rfl (by decide) (Nat.le_of_ble_eq_true rfl) rfl (by decide),
  f_iload_n (n := 1) (e_dx DX2_isToldBefore_0 11 rfl) rfl,
  f_laload (e_dx DX2_isToldBefore_0 12 rfl),
  f_lif_ne (e_dx DX2_isToldBefore_0 13 rfl) (e_dx DX2_isToldBefore_0 14 rfl) rfl,
  f_iconst (e_dx DX2_isToldBefore_0 15 rfl) ⟨by decide, by decide⟩,
  ⟨(e_dx DX2_isToldBefore_0 16 rfl), rfl⟩,
  f_g8 (e_dx DX2_isToldBefore_0 17 rfl) ⟨by decide, by decide⟩,
  f_g19 (e_dx DX2_isToldBefore_0 18 rfl) rfl,
  f_iconst (e_dx DX2_isToldBefore_0 19 rfl) ⟨by decide, by decide⟩,
  ⟨(e_dx DX2_isToldBefore_0 20 rfl), rfl⟩, trivial⟩
def lX2_isToldBefore : List (Nat × f_Wt) := []
set_option maxRecDepth 20000 in
theorem BX2_isToldBefore_2 {sh : Nat → Nat × Nat} {t : Nat} {rm : Nat × Nat × Nat} {cs : Nat × Nat} {R : f_Rt} {k2 : Nat → Int → Int → Prop} {a0 : Nat} {x1 : Int} {x2 : Int} {M : e_M} (C : f_Hy sh t yX2_isToldBefore rm cs 4 (lX2_isToldBefore) R) (h2 : ∀ (a0 : Nat) (x1 : Int) (x2 : Int), k2 a0 x1 x2 → f_E sh t YX2_isToldBefore rm cs (f_Q sh t R) 2 [.inr (.inr (.inl (2, 19, a0))), .inl x1, .inl x2] [] M) (h : VX2_isToldBefore_2 k2 (fun r => R (some (.inl r)) M) a0 x1 x2 M) : f_E sh t YX2_isToldBefore rm cs (f_Q sh t R) 2 [.inr (.inr (.inl (2, 19, a0))), .inl x1, .inl x2] [] M := by
  rw [f_kk3 M k2] at h
  exact f_go (KC := f_kc [(2, f_pl [(3, 2, 19), (1, 0, 0), (1, 0, 0)] [] (fun ls st M2 => M2 = M ∧ (k2 (f_va (f_nth ls 0)) (f_vi (f_nth ls 1)) (f_vi (f_nth ls 2)))))]) C qX2_isToldBeforef (f_kc_cons (f_pl_ok rfl (fun ls st M2 ⟨e, hh⟩ => by subst e; exact h2 _ _ _ hh)) f_kc_nil) 23 3 h
set_option maxRecDepth 20000 in
theorem BX2_isToldBefore {sh : Nat → Nat × Nat} {t : Nat} {rm : Nat × Nat × Nat} {cs : Nat × Nat} {R : f_Rt} {k2 : Nat → Int → Int → Prop} {a0 : Nat} {x1 : Int} {M : e_M} (C : f_Hy sh t yX2_isToldBefore rm cs 4 (lX2_isToldBefore) R) (h2 : ∀ (a0 : Nat) (x1 : Int) (x2 : Int), k2 a0 x1 x2 → f_E sh t YX2_isToldBefore rm cs (f_Q sh t R) 2 [.inr (.inr (.inl (2, 19, a0))), .inl x1, .inl x2] [] M) (h : VX2_isToldBefore k2 (fun r => R (some (.inl r)) M) a0 x1 M) : f_E sh t YX2_isToldBefore rm cs (f_Q sh t R) 0 [.inr (.inr (.inl (2, 19, a0))), .inl x1, .inr (.inr (.inr ()))] [] M := by
  rw [f_kk3 M k2] at h
  exact f_go (KC := f_kc [(2, f_pl [(3, 2, 19), (1, 0, 0), (1, 0, 0)] [] (fun ls st M2 => M2 = M ∧ (k2 (f_va (f_nth ls 0)) (f_vi (f_nth ls 1)) (f_vi (f_nth ls 2)))))]) C qX2_isToldBeforef (f_kc_cons (f_pl_ok rfl (fun ls st M2 ⟨e, hh⟩ => by subst e; exact h2 _ _ _ hh)) f_kc_nil) 23 0 h
def WX2_isToldBefore_2 (M : e_M) (Q : Int → Prop) : Nat → Nat → Int → Int → Prop
  | 0, _, _, _ => False
  | n + 1, a0, x1, x2 =>
    VX2_isToldBefore_2 (WX2_isToldBefore_2 M Q n) Q a0 x1 x2 M
def WX2_isToldBefore (a0 : Nat) (x1 : Int) (M : e_M) (Q : Int → Prop) : Prop :=
  VX2_isToldBefore (fun a0 x1 x2 => ∃ j, WX2_isToldBefore_2 M Q j a0 x1 x2) Q a0 x1 M
theorem PX2_isToldBefore_2 {sh : Nat → Nat × Nat} {t : Nat} {rm : Nat × Nat × Nat} {cs : Nat × Nat} {R : f_Rt} {M : e_M} (C : f_Hy sh t yX2_isToldBefore rm cs 4 (lX2_isToldBefore) R) : ∀ (n : Nat) (a0 : Nat) (x1 : Int) (x2 : Int), WX2_isToldBefore_2 M (fun r => R (some (.inl r)) M) n a0 x1 x2 → f_E sh t YX2_isToldBefore rm cs (f_Q sh t R) 2 [.inr (.inr (.inl (2, 19, a0))), .inl x1, .inl x2] [] M := by
  intro n
  induction n with
  | zero => intro a0 x1 x2 h; exact h.elim
  | succ n ih => intro a0 x1 x2 h; exact BX2_isToldBefore_2 C ih h
theorem PX2_isToldBefore {sh : Nat → Nat × Nat} {t : Nat} {rm : Nat × Nat × Nat} {cs : Nat × Nat} {R : f_Rt} {a0 : Nat} {x1 : Int} {M : e_M} (C : f_Hy sh t yX2_isToldBefore rm cs 4 (lX2_isToldBefore) R) (h : WX2_isToldBefore a0 x1 M (fun r => R (some (.inl r)) M)) : f_E sh t YX2_isToldBefore rm cs (f_Q sh t R) 0 [.inr (.inr (.inl (2, 19, a0))), .inl x1, .inr (.inr (.inr ()))] [] M :=
  BX2_isToldBefore C (fun a0 x1 x2 ⟨j, h⟩ => PX2_isToldBefore_2 C j _ _ _ h) h
def wX2_isToldBefore : f_Wt := f_wm [(3, 2, 19), (1, 0, 0)] (fun ar M R => WX2_isToldBefore (f_va (f_nth ar 0)) (f_vi (f_nth ar 1)) M (fun r => R (some (.inl r)) M))
theorem TX2_isToldBefore {sh : Nat → Nat × Nat} {t : Nat} : f_Mt sh t YX2_isToldBefore 4 (wX2_isToldBefore) :=
  f_Mt_of (k := 1) (Nat.le_of_ble_eq_true rfl) rfl rfl (fun ar M R rm cs h1 h2 h3 hX h => PX2_isToldBefore ⟨Nat.le_of_ble_eq_true rfl, h1, h2, h3, trivial, hX⟩ h)
def VX10_lot (Q : Nat → Prop) (a0 : Nat) (x1 : Int) (M : e_M) : Prop :=
  ((x1 < 0 → (Q (a0 + 3))) ∧ (0 ≤ x1 → ((0 ≤ (0 : Int) ∧ (0 : Int) < 8) ∧ (((M (a0 + 24) ((0 : Int).toNat)) ≤ x1 → (Q (a0 + 3))) ∧ (x1 < (M (a0 + 24) ((0 : Int).toNat)) → ((0 ≤ x1 ∧ x1 < 80) ∧ (Q ((M (a0 + 1) (x1.toNat)).toNat))))))))
def yX10_lot (i : Nat) : e_Y := x_get YX10_lot [] i
def pX10_lotf : List x_I := [(0, 2, 1, 1, 0, 0, []), (1, 17, 23, 2, 14, 0, []), (4, 2, 1, 1, 0, 0, []), (5, 4, 1, 0, 0, 0, []), (6, 25, 10, 4, 4, 0, [(0, 20, 8), (0, 1, 24)]), (9, 0, 1, 0, 0, 0, []), (10, 27, 0, 0, 0, 0, []), (11, 18, 23, 3, 14, 0, []), (14, 4, 1, 0, 0, 0, []), (15, 25, 10, 0, 4, 0, [(0, 34, 80), (0, 1, 1)]), (18, 2, 1, 1, 0, 0, []), (19, 27, 0, 3, 0, 0, [(0, 4, 9), (0, 0, 0)]), (20, 19, 27, 0, 16, 0, []), (23, 4, 1, 0, 0, 0, []), (24, 25, 10, 2, 4, 0, [(0, 4, 9), (0, 1, 3)]), (27, 45, 0, 0, 0, 0, [])]
set_option maxRecDepth 20000 in
theorem qX10_lotf : f_all yX10_lot YX10_lot pX10_lotf :=
  ⟨f_iload_n (n := 1) (e_dx DX10_lot_0 0 rfl) rfl,
  f_if_lt (e_dx DX10_lot_0 1 rfl) rfl,
  f_iload_n (n := 1) (e_dx DX10_lot_0 2 rfl) rfl,
  f_aload_n (n := 0) (e_dx DX10_lot_0 3 rfl) rfl,
  f_getA (e_dx DX10_lot_0 4 rfl) fX10_42 rfl (by decide) (Nat.le_of_ble_eq_true rfl) rfl (by decide),
  f_iconst (e_dx DX10_lot_0 5 rfl) ⟨by decide, by decide⟩,
  f_iaload (e_dx DX10_lot_0 6 rfl),
  f_icmp_ge (e_dx DX10_lot_0 7 rfl) rfl,
  f_aload_n (n := 0) (e_dx DX10_lot_0 8 rfl) rfl,
  f_getA (e_dx DX10_lot_0 9 rfl) fX10_15 rfl (by decide) (Nat.le_of_ble_eq_true rfl) rfl (by decide),
  f_iload_n (n := 1) (e_dx DX10_lot_0 10 rfl) rfl,
  f_aaload (e_dx DX10_lot_0 11 rfl) (by decide) rfl,
  f_g19 (e_dx DX10_lot_0 12 rfl) rfl,
  f_aload_n (n := 0) (e_dx DX10_lot_0 13 rfl) rfl,
  f_getA (e_dx DX10_lot_0 14 rfl) fX10_28 rfl (by decide) (Nat.le_of_ble_eq_true rfl) rfl (by decide),
  ⟨(e_dx DX10_lot_0 15 rfl), _, rfl, Or.inl ⟨_, rfl⟩⟩, trivial⟩
def lX10_lot : List (Nat × f_Wt) := []
set_option maxRecDepth 20000 in
theorem BX10_lot {sh : Nat → Nat × Nat} {t : Nat} {rm : Nat × Nat × Nat} {cs : Nat × Nat} {R : f_Rt} {a0 : Nat} {x1 : Int} {M : e_M} (C : f_Hy sh t yX10_lot rm cs 4 (lX10_lot) R) (h : VX10_lot (fun r => R (some (.inr (.inr (.inl (4, 9, r))))) M) a0 x1 M) : f_E sh t YX10_lot rm cs (f_Q sh t R) 0 [.inr (.inr (.inl (10, 15, a0))), .inl x1] [] M :=
  f_go (KC := f_kc []) C qX10_lotf f_kc_nil 18 0 h
def WX10_lot (a0 : Nat) (x1 : Int) (M : e_M) (Q : Nat → Prop) : Prop :=
  VX10_lot Q a0 x1 M
theorem PX10_lot {sh : Nat → Nat × Nat} {t : Nat} {rm : Nat × Nat × Nat} {cs : Nat × Nat} {R : f_Rt} {a0 : Nat} {x1 : Int} {M : e_M} (C : f_Hy sh t yX10_lot rm cs 4 (lX10_lot) R) (h : WX10_lot a0 x1 M (fun r => R (some (.inr (.inr (.inl (4, 9, r))))) M)) : f_E sh t YX10_lot rm cs (f_Q sh t R) 0 [.inr (.inr (.inl (10, 15, a0))), .inl x1] [] M :=
  BX10_lot C h
def wX10_lot : f_Wt := f_wm [(3, 10, 15), (1, 0, 0)] (fun ar M R => WX10_lot (f_va (f_nth ar 0)) (f_vi (f_nth ar 1)) M (fun r => R (some (.inr (.inr (.inl (4, 9, r))))) M))
theorem TX10_lot {sh : Nat → Nat × Nat} {t : Nat} : f_Mt sh t YX10_lot 4 (wX10_lot) :=
  f_Mt_of (k := 0) (Nat.le_of_ble_eq_true rfl) rfl rfl (fun ar M R rm cs h1 h2 h3 hX h => PX10_lot ⟨Nat.le_of_ble_eq_true rfl, h1, h2, h3, trivial, hX⟩ h)
def VX10_at (Q : Nat → Prop) (a0 : Nat) (x1 : Int) (x2 : Int) (M : e_M) : Prop :=
  ((x1 ≤ 0 → (Q (a0 + 12))) ∧ (0 < x1 → ((8 ≤ x1 → (Q (a0 + 12))) ∧ (x1 < 8 → ((x2 < 0 → (Q (a0 + 12))) ∧ (0 ≤ x2 → ((0 ≤ x1 ∧ x1 < 8) ∧ ((x2 < (M (a0 + 24) (x1.toNat)) → ((0 ≤ x1 ∧ x1 < 8) ∧ ((0 ≤ (e_w32 ((f_kt 1000002 (x1.toNat)) + x2)) ∧ (e_w32 ((f_kt 1000002 (x1.toNat)) + x2)) < 290) ∧ (Q ((M (a0 + 2) ((e_w32 ((f_kt 1000002 (x1.toNat)) + x2)).toNat)).toNat))))) ∧ ((M (a0 + 24) (x1.toNat)) ≤ x2 → (Q (a0 + 12)))))))))))
def yX10_at (i : Nat) : e_Y := x_get YX10_at [] i
def pX10_atf : List x_I := [(0, 2, 1, 1, 0, 0, []), (1, 17, 24, 5, 14, 0, []), (4, 2, 1, 1, 0, 0, []), (5, 0, 2, 0, 0, 8, []), (7, 18, 24, 3, 14, 0, []), (10, 2, 1, 2, 0, 0, []), (11, 17, 24, 2, 14, 0, []), (14, 2, 1, 2, 0, 0, []), (15, 4, 1, 0, 0, 0, []), (16, 25, 10, 4, 4, 0, [(0, 20, 8), (0, 1, 24)]), (19, 2, 1, 1, 0, 0, []), (20, 27, 0, 0, 0, 0, []), (21, 18, 29, 2, 17, 0, []), (24, 4, 1, 0, 0, 0, []), (25, 25, 10, 3, 4, 0, [(0, 9, 14), (0, 1, 12)]), (28, 45, 0, 0, 0, 0, []), (29, 4, 1, 0, 0, 0, []), (30, 25, 10, 1, 4, 0, [(0, 39, 290), (0, 1, 2)]), (33, 35, 3, 1000002, 8, 0, []), (36, 2, 1, 1, 0, 0, []), (37, 27, 0, 0, 0, 0, []), (38, 2, 1, 2, 0, 0, []), (39, 9, 0, 0, 0, 0, []), (40, 27, 0, 3, 0, 0, [(0, 9, 14), (0, 0, 0)]), (41, 45, 0, 0, 0, 0, [])]
set_option maxRecDepth 20000 in
theorem qX10_atf : f_all yX10_at YX10_at pX10_atf :=
  ⟨f_iload_n (n := 1) (e_dx DX10_at_0 0 rfl) rfl,
  f_if_le (e_dx DX10_at_0 1 rfl) rfl,
  f_iload_n (n := 1) (e_dx DX10_at_0 2 rfl) rfl,
  f_bipush (e_dx DX10_at_0 3 rfl) ⟨by decide, by decide⟩,
  f_icmp_ge (e_dx DX10_at_0 4 rfl) rfl,
  f_iload_n (n := 2) (e_dx DX10_at_0 5 rfl) rfl,
  f_if_lt (e_dx DX10_at_0 6 rfl) rfl,
  f_iload_n (n := 2) (e_dx DX10_at_0 7 rfl) rfl,
  f_aload_n (n := 0) (e_dx DX10_at_0 8 rfl) rfl,
  f_getA (e_dx DX10_at_0 9 rfl) fX10_42 rfl (by decide) (Nat.le_of_ble_eq_true rfl) rfl (by decide),
  f_iload_n (n := 1) (e_dx DX10_at_0 10 rfl) rfl,
  f_iaload (e_dx DX10_at_0 11 rfl),
  f_icmp_lt (e_dx DX10_at_0 12 rfl) rfl,
  f_aload_n (n := 0) (e_dx DX10_at_0 13 rfl) rfl,
  f_getA (e_dx DX10_at_0 14 rfl) fX10_38 rfl (by decide) (Nat.le_of_ble_eq_true rfl) rfl (by decide),
  ⟨(e_dx DX10_at_0 15 rfl), _, rfl, Or.inl ⟨_, rfl⟩⟩,
  f_aload_n (n := 0) (e_dx DX10_at_0 16 rfl) rfl,
  f_getA (e_dx DX10_at_0 17 rfl) fX10_23 rfl (by decide) (Nat.le_of_ble_eq_true rfl) rfl (by decide),
  f_getsN (j := 1) (q := ("LandHouse", "FIRST")) (e_dx DX10_at_0 18 rfl) rfl gX10_132 rfl ⟨rfl, rfl⟩,
  f_iload_n (n := 1) (e_dx DX10_at_0 19 rfl) rfl,
  f_iaload (e_dx DX10_at_0 20 rfl),
  f_iload_n (n := 2) (e_dx DX10_at_0 21 rfl) rfl,
  f_iadd (e_dx DX10_at_0 22 rfl),
  f_aaload (e_dx DX10_at_0 23 rfl) (by decide) rfl,
  ⟨(e_dx DX10_at_0 24 rfl), _, rfl, Or.inl ⟨_, rfl⟩⟩, trivial⟩
def lX10_at : List (Nat × f_Wt) := []
set_option maxRecDepth 20000 in
theorem BX10_at {sh : Nat → Nat × Nat} {t : Nat} {rm : Nat × Nat × Nat} {cs : Nat × Nat} {R : f_Rt} {a0 : Nat} {x1 : Int} {x2 : Int} {M : e_M} (C : f_Hy sh t yX10_at rm cs 4 (lX10_at) R) (h : VX10_at (fun r => R (some (.inr (.inr (.inl (9, 14, r))))) M) a0 x1 x2 M) : f_E sh t YX10_at rm cs (f_Q sh t R) 0 [.inr (.inr (.inl (10, 15, a0))), .inl x1, .inl x2] [] M :=
  f_go (KC := f_kc []) C qX10_atf f_kc_nil 27 0 h
def WX10_at (a0 : Nat) (x1 : Int) (x2 : Int) (M : e_M) (Q : Nat → Prop) : Prop :=
  VX10_at Q a0 x1 x2 M
theorem PX10_at {sh : Nat → Nat × Nat} {t : Nat} {rm : Nat × Nat × Nat} {cs : Nat × Nat} {R : f_Rt} {a0 : Nat} {x1 : Int} {x2 : Int} {M : e_M} (C : f_Hy sh t yX10_at rm cs 4 (lX10_at) R) (h : WX10_at a0 x1 x2 M (fun r => R (some (.inr (.inr (.inl (9, 14, r))))) M)) : f_E sh t YX10_at rm cs (f_Q sh t R) 0 [.inr (.inr (.inl (10, 15, a0))), .inl x1, .inl x2] [] M :=
  BX10_at C h
def wX10_at : f_Wt := f_wm [(3, 10, 15), (1, 0, 0), (1, 0, 0)] (fun ar M R => WX10_at (f_va (f_nth ar 0)) (f_vi (f_nth ar 1)) (f_vi (f_nth ar 2)) M (fun r => R (some (.inr (.inr (.inl (9, 14, r))))) M))
theorem TX10_at {sh : Nat → Nat × Nat} {t : Nat} : f_Mt sh t YX10_at 4 (wX10_at) :=
  f_Mt_of (k := 0) (Nat.le_of_ble_eq_true rfl) rfl rfl (fun ar M R rm cs h1 h2 h3 hX h => PX10_at ⟨Nat.le_of_ble_eq_true rfl, h1, h2, h3, trivial, hX⟩ h)
def VX9_isThere (Q : Int → Prop) (a0 : Nat) (x1 : Int) (M : e_M) : Prop :=
  ((¬ (M a0 2) = 0 → (Q 0)) ∧ ((M a0 2) = 0 → (((M a0 3) ≤ x1 → (Q 0)) ∧ (x1 < (M a0 3) → (Q 1)))))
def yX9_isThere (i : Nat) : e_Y := x_get YX9_isThere [] i
def pX9_isTheref : List x_I := [(0, 4, 1, 0, 0, 0, []), (1, 25, 9, 2, 1, 0, []), (4, 17, 19, 1, 10, 0, []), (7, 2, 1, 1, 0, 0, []), (8, 4, 1, 0, 0, 0, []), (9, 25, 9, 3, 0, 0, []), (12, 18, 19, 3, 10, 0, []), (15, 0, 1, 0, 0, 1, []), (16, 19, 20, 0, 11, 0, []), (19, 0, 1, 0, 0, 0, []), (20, 48, 0, 0, 0, 0, [])]
set_option maxRecDepth 20000 in
theorem qX9_isTheref : f_all yX9_isThere YX9_isThere pX9_isTheref :=
  ⟨f_aload_n (n := 0) (e_dx DX9_isThere_0 0 rfl) rfl,
  f_getf (e_dx DX9_isThere_0 1 rfl) fX9_19 rfl (by decide) (by decide) (by decide),
  f_if_ne (e_dx DX9_isThere_0 2 rfl) rfl,
  f_iload_n (n := 1) (e_dx DX9_isThere_0 3 rfl) rfl,
  f_aload_n (n := 0) (e_dx DX9_isThere_0 4 rfl) rfl,
  f_getf (e_dx DX9_isThere_0 5 rfl) fX9_24 rfl (by decide) (by decide) (by decide),
  f_icmp_ge (e_dx DX9_isThere_0 6 rfl) rfl,
  f_iconst (e_dx DX9_isThere_0 7 rfl) ⟨by decide, by decide⟩,
  f_g19 (e_dx DX9_isThere_0 8 rfl) rfl,
  f_iconst (e_dx DX9_isThere_0 9 rfl) ⟨by decide, by decide⟩,
  ⟨(e_dx DX9_isThere_0 10 rfl), rfl⟩, trivial⟩
def lX9_isThere : List (Nat × f_Wt) := []
set_option maxRecDepth 20000 in
theorem BX9_isThere {sh : Nat → Nat × Nat} {t : Nat} {rm : Nat × Nat × Nat} {cs : Nat × Nat} {R : f_Rt} {a0 : Nat} {x1 : Int} {M : e_M} (C : f_Hy sh t yX9_isThere rm cs 4 (lX9_isThere) R) (h : VX9_isThere (fun r => R (some (.inl r)) M) a0 x1 M) : f_E sh t YX9_isThere rm cs (f_Q sh t R) 0 [.inr (.inr (.inl (9, 14, a0))), .inl x1] [] M :=
  f_go (KC := f_kc []) C qX9_isTheref f_kc_nil 13 0 h
def WX9_isThere (a0 : Nat) (x1 : Int) (M : e_M) (Q : Int → Prop) : Prop :=
  VX9_isThere Q a0 x1 M
theorem PX9_isThere {sh : Nat → Nat × Nat} {t : Nat} {rm : Nat × Nat × Nat} {cs : Nat × Nat} {R : f_Rt} {a0 : Nat} {x1 : Int} {M : e_M} (C : f_Hy sh t yX9_isThere rm cs 4 (lX9_isThere) R) (h : WX9_isThere a0 x1 M (fun r => R (some (.inl r)) M)) : f_E sh t YX9_isThere rm cs (f_Q sh t R) 0 [.inr (.inr (.inl (9, 14, a0))), .inl x1] [] M :=
  BX9_isThere C h
def wX9_isThere : f_Wt := f_wm [(3, 9, 14), (1, 0, 0)] (fun ar M R => WX9_isThere (f_va (f_nth ar 0)) (f_vi (f_nth ar 1)) M (fun r => R (some (.inl r)) M))
theorem TX9_isThere {sh : Nat → Nat × Nat} {t : Nat} : f_Mt sh t YX9_isThere 4 (wX9_isThere) :=
  f_Mt_of (k := 0) (Nat.le_of_ble_eq_true rfl) rfl rfl (fun ar M R rm cs h1 h2 h3 hX h => PX9_isThere ⟨Nat.le_of_ble_eq_true rfl, h1, h2, h3, trivial, hX⟩ h)
def VX10_isThere (c_X10_lot : Nat → Int → e_M → (Nat → Prop) → Prop) (c_X10_at : Nat → Int → Int → e_M → (Nat → Prop) → Prop) (c_X9_isThere : Nat → Int → e_M → (Int → Prop) → Prop) (Q : Int → Prop) (a0 : Nat) (x1 : Int) (x2 : Int) (M : e_M) : Prop :=
  ((¬ x1 = 0 → (c_X10_at a0 x1 x2 M (fun r1 => (c_X9_isThere r1 (M a0 11) M (fun r2 => ((r2 = 0 ∨ r2 = 1) ∧ Q r2)))))) ∧ (x1 = 0 → (c_X10_lot a0 x2 M (fun r3 => ((¬ (M r3 1) = 0 → (((0 : Int) = 0 ∨ (0 : Int) = 1) ∧ Q 0)) ∧ ((M r3 1) = 0 → (((1 : Int) = 0 ∨ (1 : Int) = 1) ∧ Q 1)))))))
def yX10_isThere (i : Nat) : e_Y := x_get YX10_isThere [YX10_lot, YX10_at, YX9_isThere] i
def pX10_isTheref : List x_I := [(0, 2, 1, 1, 0, 0, []), (1, 17, 23, 1, 12, 0, []), (4, 4, 1, 0, 0, 0, []), (5, 2, 1, 2, 0, 0, []), (6, 40, 0, 2, 12, 0, []), (9, 25, 4, 1, 1, 0, []), (12, 17, 19, 1, 10, 0, []), (15, 0, 1, 0, 0, 1, []), (16, 19, 36, 0, 19, 0, []), (19, 0, 1, 0, 0, 0, []), (20, 19, 36, 0, 19, 0, []), (23, 4, 1, 0, 0, 0, []), (24, 2, 1, 1, 0, 0, []), (25, 2, 1, 2, 0, 0, []), (26, 40, 1, 3, 12, 0, []), (29, 4, 1, 0, 0, 0, []), (30, 25, 10, 11, 0, 0, []), (33, 40, 2, 2, 11, 0, []), (36, 42, 0, 0, 0, 0, [])]
set_option maxRecDepth 20000 in
theorem qX10_isTheref : f_all yX10_isThere YX10_isThere pX10_isTheref :=
  ⟨f_iload_n (n := 1) (e_dx DX10_isThere_0 0 rfl) rfl,
  f_if_ne (e_dx DX10_isThere_0 1 rfl) rfl,
  f_aload_n (n := 0) (e_dx DX10_isThere_0 2 rfl) rfl,
  f_iload_n (n := 2) (e_dx DX10_isThere_0 3 rfl) rfl,
  x_callV (e_dx DX10_isThere_0 4 rfl) mwX10_lot vwX10_lot cX10_106 rfl,
  f_getf (e_dx DX10_isThere_0 5 rfl) fX10_146 rfl (by decide) (by decide) (by decide),
  f_if_ne (e_dx DX10_isThere_0 6 rfl) rfl,
  f_iconst (e_dx DX10_isThere_0 7 rfl) ⟨by decide, by decide⟩,
  f_g19 (e_dx DX10_isThere_0 8 rfl) rfl,
  f_iconst (e_dx DX10_isThere_0 9 rfl) ⟨by decide, by decide⟩,
  f_g19 (e_dx DX10_isThere_0 10 rfl) rfl,
  f_aload_n (n := 0) (e_dx DX10_isThere_0 11 rfl) rfl,
  f_iload_n (n := 1) (e_dx DX10_isThere_0 12 rfl) rfl,
  f_iload_n (n := 2) (e_dx DX10_isThere_0 13 rfl) rfl,
  x_callV (e_dx DX10_isThere_0 14 rfl) mwX10_at vwX10_at cX10_93 rfl,
  f_aload_n (n := 0) (e_dx DX10_isThere_0 15 rfl) rfl,
  f_getf (e_dx DX10_isThere_0 16 rfl) fX10_65 rfl (by decide) (by decide) (by decide),
  x_callV (e_dx DX10_isThere_0 17 rfl) mwX9_isThere vwX9_isThere cX10_150 rfl,
  ⟨(e_dx DX10_isThere_0 18 rfl), rfl⟩, trivial⟩
def lX10_isThere (c_X10_lot : Nat → Int → e_M → (Nat → Prop) → Prop) (c_X10_at : Nat → Int → Int → e_M → (Nat → Prop) → Prop) (c_X9_isThere : Nat → Int → e_M → (Int → Prop) → Prop) : List (Nat × f_Wt) := [(0, f_wm [(3, 10, 15), (1, 0, 0)] (fun ar M R => c_X10_lot (f_va (f_nth ar 0)) (f_vi (f_nth ar 1)) M (fun r => R (some (.inr (.inr (.inl (4, 9, r))))) M))), (1, f_wm [(3, 10, 15), (1, 0, 0), (1, 0, 0)] (fun ar M R => c_X10_at (f_va (f_nth ar 0)) (f_vi (f_nth ar 1)) (f_vi (f_nth ar 2)) M (fun r => R (some (.inr (.inr (.inl (9, 14, r))))) M))), (2, f_wm [(3, 9, 14), (1, 0, 0)] (fun ar M R => c_X9_isThere (f_va (f_nth ar 0)) (f_vi (f_nth ar 1)) M (fun r => R (some (.inl r)) M)))]
set_option maxRecDepth 20000 in
theorem BX10_isThere {sh : Nat → Nat × Nat} {t : Nat} {rm : Nat × Nat × Nat} {cs : Nat × Nat} {R : f_Rt} {c_X10_lot : Nat → Int → e_M → (Nat → Prop) → Prop} {c_X10_at : Nat → Int → Int → e_M → (Nat → Prop) → Prop} {c_X9_isThere : Nat → Int → e_M → (Int → Prop) → Prop} {a0 : Nat} {x1 : Int} {x2 : Int} {M : e_M} (C : f_Hy sh t yX10_isThere rm cs 5 (lX10_isThere c_X10_lot c_X10_at c_X9_isThere) R) (h : VX10_isThere c_X10_lot c_X10_at c_X9_isThere (fun r => R (some (.inl r)) M) a0 x1 x2 M) : f_E sh t YX10_isThere rm cs (f_Q sh t R) 0 [.inr (.inr (.inl (10, 15, a0))), .inl x1, .inl x2] [] M :=
  f_go (KC := f_kc []) C qX10_isTheref f_kc_nil 21 0 h
def WX10_isThere (a0 : Nat) (x1 : Int) (x2 : Int) (M : e_M) (Q : Int → Prop) : Prop :=
  VX10_isThere WX10_lot WX10_at WX9_isThere Q a0 x1 x2 M
theorem PX10_isThere {sh : Nat → Nat × Nat} {t : Nat} {rm : Nat × Nat × Nat} {cs : Nat × Nat} {R : f_Rt} {a0 : Nat} {x1 : Int} {x2 : Int} {M : e_M} (C : f_Hy sh t yX10_isThere rm cs 5 (lX10_isThere WX10_lot WX10_at WX9_isThere) R) (h : WX10_isThere a0 x1 x2 M (fun r => R (some (.inl r)) M)) : f_E sh t YX10_isThere rm cs (f_Q sh t R) 0 [.inr (.inr (.inl (10, 15, a0))), .inl x1, .inl x2] [] M :=
  BX10_isThere C h
def wX10_isThere : f_Wt := f_wm [(3, 10, 15), (1, 0, 0), (1, 0, 0)] (fun ar M R => WX10_isThere (f_va (f_nth ar 0)) (f_vi (f_nth ar 1)) (f_vi (f_nth ar 2)) M (fun r => R (some (.inl r)) M))
theorem TX10_isThere {sh : Nat → Nat × Nat} {t : Nat} : f_Mt sh t YX10_isThere 5 (wX10_isThere) :=
  f_Mt_of (k := 0) (Nat.le_of_ble_eq_true rfl) rfl rfl (fun ar M R rm cs h1 h2 h3 hX h => PX10_isThere ⟨Nat.le_of_ble_eq_true rfl, h1, h2, h3, ⟨(f_Mt.up (Nat.le_of_ble_eq_true rfl) TX10_lot), (f_Mt.up (Nat.le_of_ble_eq_true rfl) TX10_at), (f_Mt.up (Nat.le_of_ble_eq_true rfl) TX9_isThere), trivial⟩, hX⟩ h)
def VX0_fits_113 (c_X10_isThere : Nat → Int → Int → e_M → (Int → Prop) → Prop) (c_X10_at : Nat → Int → Int → e_M → (Nat → Prop) → Prop) (Q : Int → Prop) (M : e_M) : Prop :=
  (Q 1)
def VX0_fits (c_X10_isThere : Nat → Int → Int → e_M → (Int → Prop) → Prop) (c_X10_at : Nat → Int → Int → e_M → (Nat → Prop) → Prop) (k113 : Prop) (Q : Int → Prop) (x1 : Int) (x2 : Int) (x3 : Int) (M : e_M) : Prop :=
  (c_X10_isThere ((M 4423 0).toNat) x2 x3 M (fun r1 => ((¬ r1 = 0 → ((x1 = 11 → ((¬ x2 = 1 → (Q 0)) ∧ (x2 = 1 → (c_X10_at ((M 4423 0).toNat) 1 x3 M (fun r3 => ((¬ (M r3 7) = 0 → (Q 0)) ∧ ((M r3 7) = 0 → (Q 1)))))))) ∧ (¬ x1 = 11 → ((x1 = 12 → ((¬ x2 = 1 → (Q 0)) ∧ (x2 = 1 → ((x3 = 0 → (Q 0)) ∧ (¬ x3 = 0 → (c_X10_at ((M 4423 0).toNat) 1 x3 M (fun r2 => ((¬ (M r2 7) = 1 → (Q 0)) ∧ ((M r2 7) = 1 → (Q 1)))))))))) ∧ (¬ x1 = 12 → ((x1 = 13 → ((x2 = 4 → (k113)) ∧ (¬ x2 = 4 → ((x2 = 5 → (k113)) ∧ (¬ x2 = 5 → ((¬ x2 = 6 → (Q 0)) ∧ (x2 = 6 → (k113)))))))) ∧ (¬ x1 = 13 → ((¬ x2 = x1 → (Q 0)) ∧ (x2 = x1 → (Q 1)))))))))) ∧ (r1 = 0 → (Q 0)))))
def yX0_fits (i : Nat) : e_Y := x_get YX0_fits [YX10_isThere, YX10_at] i
def pX0_fitsf : List x_I := [(0, 4, 1, 0, 0, 0, []), (1, 25, 0, 0, 4, 0, [(0, 10, 15), (0, 0, 0)]), (4, 2, 1, 2, 0, 0, []), (5, 2, 1, 3, 0, 0, []), (6, 40, 0, 3, 12, 0, []), (9, 17, 14, 1, 9, 0, []), (12, 0, 1, 0, 0, 0, []), (13, 48, 0, 0, 0, 0, []), (14, 2, 1, 1, 0, 0, []), (15, 24, 119, 0, 56, 0, [(11, 40, 11), (12, 66, 25), (13, 97, 42)]), (40, 2, 1, 2, 0, 0, []), (41, 0, 1, 0, 0, 1, []), (42, 18, 64, 1, 23, 0, []), (45, 4, 1, 0, 0, 0, []), (46, 25, 0, 0, 4, 0, [(0, 10, 15), (0, 0, 0)]), (49, 0, 1, 0, 0, 1, []), (50, 2, 1, 3, 0, 0, []), (51, 40, 1, 3, 12, 0, []), (54, 25, 9, 7, 0, 0, []), (57, 17, 64, 1, 23, 0, []), (60, 0, 1, 0, 0, 1, []), (61, 19, 65, 0, 24, 0, []), (64, 0, 1, 0, 0, 0, []), (65, 48, 0, 0, 0, 0, []), (66, 2, 1, 2, 0, 0, []), (67, 0, 1, 0, 0, 1, []), (68, 18, 95, 1, 40, 0, []), (71, 2, 1, 3, 0, 0, []), (72, 17, 95, 0, 40, 0, []), (75, 4, 1, 0, 0, 0, []), (76, 25, 0, 0, 4, 0, [(0, 10, 15), (0, 0, 0)]), (79, 0, 1, 0, 0, 1, []), (80, 2, 1, 3, 0, 0, []), (81, 40, 1, 3, 12, 0, []), (84, 25, 9, 7, 0, 0, []), (87, 0, 1, 0, 0, 1, []), (88, 18, 95, 1, 40, 0, []), (91, 0, 1, 0, 0, 1, []), (92, 19, 96, 0, 41, 0, []), (95, 0, 1, 0, 0, 0, []), (96, 48, 0, 0, 0, 0, []), (97, 2, 1, 2, 0, 0, []), (98, 0, 1, 0, 0, 4, []), (99, 18, 113, 0, 51, 0, []), (102, 2, 1, 2, 0, 0, []), (103, 0, 1, 0, 0, 5, []), (104, 18, 113, 0, 51, 0, []), (107, 2, 1, 2, 0, 0, []), (108, 0, 2, 0, 0, 6, []), (110, 18, 117, 1, 54, 0, []), (113, 49, 0, 0, 0, 0, []), (113, 0, 1, 0, 0, 1, []), (114, 19, 118, 0, 55, 0, []), (117, 0, 1, 0, 0, 0, []), (118, 48, 0, 0, 0, 0, []), (119, 2, 1, 2, 0, 0, []), (120, 2, 1, 1, 0, 0, []), (121, 18, 128, 1, 61, 0, []), (124, 0, 1, 0, 0, 1, []), (125, 19, 129, 0, 62, 0, []), (128, 0, 1, 0, 0, 0, []), (129, 48, 0, 0, 0, 0, [])]
set_option maxRecDepth 20000 in
theorem qX0_fitsf : f_all yX0_fits YX0_fits pX0_fitsf :=
  ⟨f_aload_n (n := 0) (e_dx DX0_fits_0 0 rfl) rfl,
  f_getA (e_dx DX0_fits_0 1 rfl) fX0_36 rfl (by decide) (Nat.le_of_ble_eq_true rfl) rfl (by decide),
  f_iload_n (n := 2) (e_dx DX0_fits_0 2 rfl) rfl,
  f_iload_n (n := 3) (e_dx DX0_fits_0 3 rfl) rfl,
  x_callV (e_dx DX0_fits_0 4 rfl) mwX10_isThere vwX10_isThere cX0_148 rfl,
  f_if_ne (e_dx DX0_fits_0 5 rfl) rfl,
  f_iconst (e_dx DX0_fits_0 6 rfl) ⟨by decide, by decide⟩,
  ⟨(e_dx DX0_fits_0 7 rfl), rfl⟩,
  f_iload_n (n := 1) (e_dx DX0_fits_0 8 rfl) rfl,
  f_tsw (e_dx DX0_fits_0 9 rfl) rfl rfl (by decide) rfl,
  f_iload_n (n := 2) (e_dx DX0_fits_0 10 rfl) rfl,
  f_iconst (e_dx DX0_fits_0 11 rfl) ⟨by decide, by decide⟩,
  f_icmp_ne (e_dx DX0_fits_0 12 rfl) rfl,
  f_aload_n (n := 0) (e_dx DX0_fits_0 13 rfl) rfl,
  f_getA (e_dx DX0_fits_0 14 rfl) fX0_36 rfl (by decide) (Nat.le_of_ble_eq_true rfl) rfl (by decide),
  f_iconst (e_dx DX0_fits_0 15 rfl) ⟨by decide, by decide⟩,
  f_iload_n (n := 3) (e_dx DX0_fits_0 16 rfl) rfl,
  x_callV (e_dx DX0_fits_0 17 rfl) mwX10_at vwX10_at cX0_152 rfl,
  f_getf (e_dx DX0_fits_0 18 rfl) fX0_156 rfl (by decide) (by decide) (by decide),
  f_if_ne (e_dx DX0_fits_0 19 rfl) rfl,
  f_iconst (e_dx DX0_fits_0 20 rfl) ⟨by decide, by decide⟩,
  f_g19 (e_dx DX0_fits_0 21 rfl) rfl,
  f_iconst (e_dx DX0_fits_0 22 rfl) ⟨by decide, by decide⟩,
  ⟨(e_dx DX0_fits_0 23 rfl), rfl⟩,
  f_iload_n (n := 2) (e_dx DX0_fits_0 24 rfl) rfl,
  f_iconst (e_dx DX0_fits_0 25 rfl) ⟨by decide, by decide⟩,
  f_icmp_ne (e_dx DX0_fits_0 26 rfl) rfl,
  f_iload_n (n := 3) (e_dx DX0_fits_0 27 rfl) rfl,
  f_if_eq (e_dx DX0_fits_0 28 rfl) rfl,
  f_aload_n (n := 0) (e_dx DX0_fits_0 29 rfl) rfl,
  f_getA (e_dx DX0_fits_0 30 rfl) fX0_36 rfl (by decide) (Nat.le_of_ble_eq_true rfl) rfl (by decide),
  f_iconst (e_dx DX0_fits_0 31 rfl) ⟨by decide, by decide⟩,
  f_iload_n (n := 3) (e_dx DX0_fits_0 32 rfl) rfl,
  x_callV (e_dx DX0_fits_0 33 rfl) mwX10_at vwX10_at cX0_152 rfl,
  f_getf (e_dx DX0_fits_0 34 rfl) fX0_156 rfl (by decide) (by decide) (by decide),
  f_iconst (e_dx DX0_fits_0 35 rfl) ⟨by decide, by decide⟩,
  f_icmp_ne (e_dx DX0_fits_0 36 rfl) rfl,
  f_iconst (e_dx DX0_fits_0 37 rfl) ⟨by decide, by decide⟩,
  f_g19 (e_dx DX0_fits_0 38 rfl) rfl,
  f_iconst (e_dx DX0_fits_0 39 rfl) ⟨by decide, by decide⟩,
  ⟨(e_dx DX0_fits_1 0 rfl), rfl⟩,
  f_iload_n (n := 2) (e_dx DX0_fits_1 1 rfl) rfl,
  f_iconst (e_dx DX0_fits_1 2 rfl) ⟨by decide, by decide⟩,
  f_icmp_eq (e_dx DX0_fits_1 3 rfl) rfl,
  f_iload_n (n := 2) (e_dx DX0_fits_1 4 rfl) rfl,
  f_iconst (e_dx DX0_fits_1 5 rfl) ⟨by decide, by decide⟩,
  f_icmp_eq (e_dx DX0_fits_1 6 rfl) rfl,
  f_iload_n (n := 2) (e_dx DX0_fits_1 7 rfl) rfl,
  f_bipush (e_dx DX0_fits_1 8 rfl) ⟨by decide, by decide⟩,
  f_icmp_ne (e_dx DX0_fits_1 9 rfl) rfl,
  trivial,
  f_iconst (e_dx DX0_fits_1 10 rfl) ⟨by decide, by decide⟩,
  f_g19 (e_dx DX0_fits_1 11 rfl) rfl,
  f_iconst (e_dx DX0_fits_1 12 rfl) ⟨by decide, by decide⟩,
  ⟨(e_dx DX0_fits_1 13 rfl), rfl⟩,
  f_iload_n (n := 2) (e_dx DX0_fits_1 14 rfl) rfl,
  f_iload_n (n := 1) (e_dx DX0_fits_1 15 rfl) rfl,
  f_icmp_ne (e_dx DX0_fits_1 16 rfl) rfl,
  f_iconst (e_dx DX0_fits_1 17 rfl) ⟨by decide, by decide⟩,
  f_g19 (e_dx DX0_fits_1 18 rfl) rfl,
  f_iconst (e_dx DX0_fits_1 19 rfl) ⟨by decide, by decide⟩,
  ⟨(e_dx DX0_fits_1 20 rfl), rfl⟩, trivial⟩
def lX0_fits (c_X10_isThere : Nat → Int → Int → e_M → (Int → Prop) → Prop) (c_X10_at : Nat → Int → Int → e_M → (Nat → Prop) → Prop) : List (Nat × f_Wt) := [(0, f_wm [(3, 10, 15), (1, 0, 0), (1, 0, 0)] (fun ar M R => c_X10_isThere (f_va (f_nth ar 0)) (f_vi (f_nth ar 1)) (f_vi (f_nth ar 2)) M (fun r => R (some (.inl r)) M))), (1, f_wm [(3, 10, 15), (1, 0, 0), (1, 0, 0)] (fun ar M R => c_X10_at (f_va (f_nth ar 0)) (f_vi (f_nth ar 1)) (f_vi (f_nth ar 2)) M (fun r => R (some (.inr (.inr (.inl (9, 14, r))))) M)))]
set_option maxRecDepth 20000 in
theorem BX0_fits_113 {sh : Nat → Nat × Nat} {t : Nat} {rm : Nat × Nat × Nat} {cs : Nat × Nat} {R : f_Rt} {c_X10_isThere : Nat → Int → Int → e_M → (Int → Prop) → Prop} {c_X10_at : Nat → Int → Int → e_M → (Nat → Prop) → Prop} {M : e_M} (C : f_Hy sh t yX0_fits rm cs 6 (lX0_fits c_X10_isThere c_X10_at) R) (h : VX0_fits_113 c_X10_isThere c_X10_at (fun r => R (some (.inl r)) M) M) : f_E sh t YX0_fits rm cs (f_Q sh t R) 113 [.inr (.inr (.inr ())), .inr (.inr (.inr ())), .inr (.inr (.inr ())), .inr (.inr (.inr ()))] [] M :=
  f_go (KC := f_kc []) C qX0_fitsf f_kc_nil 64 51 h
set_option maxRecDepth 20000 in
theorem BX0_fits {sh : Nat → Nat × Nat} {t : Nat} {rm : Nat × Nat × Nat} {cs : Nat × Nat} {R : f_Rt} {c_X10_isThere : Nat → Int → Int → e_M → (Int → Prop) → Prop} {c_X10_at : Nat → Int → Int → e_M → (Nat → Prop) → Prop} {k113 : Prop} {x1 : Int} {x2 : Int} {x3 : Int} {M : e_M} (C : f_Hy sh t yX0_fits rm cs 6 (lX0_fits c_X10_isThere c_X10_at) R) (h113 : k113 → f_E sh t YX0_fits rm cs (f_Q sh t R) 113 [.inr (.inr (.inr ())), .inr (.inr (.inr ())), .inr (.inr (.inr ())), .inr (.inr (.inr ()))] [] M) (h : VX0_fits c_X10_isThere c_X10_at k113 (fun r => R (some (.inl r)) M) x1 x2 x3 M) : f_E sh t YX0_fits rm cs (f_Q sh t R) 0 [.inr (.inr (.inl (0, 7, 4423))), .inl x1, .inl x2, .inl x3] [] M := by
  rw [f_kk0 M k113] at h
  exact f_go (KC := f_kc [(113, f_pl [(0, 0, 0), (0, 0, 0), (0, 0, 0), (0, 0, 0)] [] (fun ls st M2 => M2 = M ∧ (k113)))]) C qX0_fitsf (f_kc_cons (f_pl_ok rfl (fun ls st M2 ⟨e, hh⟩ => by subst e; exact h113  hh)) f_kc_nil) 64 0 h
def WX0_fits_113 (M : e_M) (Q : Int → Prop) : Prop :=
  VX0_fits_113 WX10_isThere WX10_at Q M
def WX0_fits (x1 : Int) (x2 : Int) (x3 : Int) (M : e_M) (Q : Int → Prop) : Prop :=
  VX0_fits WX10_isThere WX10_at (WX0_fits_113 M Q) Q x1 x2 x3 M
theorem PX0_fits_113 {sh : Nat → Nat × Nat} {t : Nat} {rm : Nat × Nat × Nat} {cs : Nat × Nat} {R : f_Rt} {M : e_M} (C : f_Hy sh t yX0_fits rm cs 6 (lX0_fits WX10_isThere WX10_at) R) (h : WX0_fits_113 M (fun r => R (some (.inl r)) M)) : f_E sh t YX0_fits rm cs (f_Q sh t R) 113 [.inr (.inr (.inr ())), .inr (.inr (.inr ())), .inr (.inr (.inr ())), .inr (.inr (.inr ()))] [] M :=
  BX0_fits_113 C h
theorem PX0_fits {sh : Nat → Nat × Nat} {t : Nat} {rm : Nat × Nat × Nat} {cs : Nat × Nat} {R : f_Rt} {x1 : Int} {x2 : Int} {x3 : Int} {M : e_M} (C : f_Hy sh t yX0_fits rm cs 6 (lX0_fits WX10_isThere WX10_at) R) (h : WX0_fits x1 x2 x3 M (fun r => R (some (.inl r)) M)) : f_E sh t YX0_fits rm cs (f_Q sh t R) 0 [.inr (.inr (.inl (0, 7, 4423))), .inl x1, .inl x2, .inl x3] [] M :=
  BX0_fits C (fun h => PX0_fits_113 C h) h
def wX0_fits : f_Wt := f_wm [(4433, 0, 7), (1, 0, 0), (1, 0, 0), (1, 0, 0)] (fun ar M R => WX0_fits (f_vi (f_nth ar 1)) (f_vi (f_nth ar 2)) (f_vi (f_nth ar 3)) M (fun r => R (some (.inl r)) M))
theorem TX0_fits {sh : Nat → Nat × Nat} {t : Nat} : f_Mt sh t YX0_fits 6 (wX0_fits) :=
  f_Mt_of (k := 0) (Nat.le_of_ble_eq_true rfl) rfl rfl (fun ar M R rm cs h1 h2 h3 hX h => PX0_fits ⟨Nat.le_of_ble_eq_true rfl, h1, h2, h3, ⟨(f_Mt.up (Nat.le_of_ble_eq_true rfl) TX10_isThere), (f_Mt.up (Nat.le_of_ble_eq_true rfl) TX10_at), trivial⟩, hX⟩ h)
def VX0_findNames_2 (c_X10_find : Nat → Int → e_M → (Int → Prop) → Prop) (c_X2_isToldBefore : Nat → Int → e_M → (Int → Prop) → Prop) (c_X0_fits : Int → Int → Int → e_M → (Int → Prop) → Prop) (k111 : Int → e_M → Prop) (Q : Int → e_M → Prop) (x1 : Int) (M : e_M) : Prop :=
  (((M ((M 4423 1).toNat) 7) ≤ x1 → (Q 1 M)) ∧ (x1 < (M ((M 4423 1).toNat) 7) → ((0 ≤ x1 ∧ x1 < 8) ∧ (c_X10_find ((M 4423 0).toNat) (M ((M 4423 1).toNat + 1) (x1.toNat)) M (fun r1 => ((0 ≤ x1 ∧ x1 < 8) ∧ (∀ y2 : Int, y2 = M ((M 4423 1).toNat + 2) (x1.toNat) → ((¬ y2 = 10 → ((0 ≤ r1 → (¬ (100 : Int) = 0 ∧ ((0 ≤ x1 ∧ x1 < 8) ∧ (∀ M3 : e_M, M3 = e_up M 4424 (x1.toNat) (e_w32 (r1.tdiv 100)) → (¬ (100 : Int) = 0 ∧ ((0 ≤ x1 ∧ x1 < 8) ∧ (∀ M4 : e_M, M4 = e_up M3 4425 (x1.toNat) (r1.tmod 100) → ((0 ≤ x1 ∧ x1 < 8) ∧ ((0 ≤ x1 ∧ x1 < 8) ∧ (c_X0_fits y2 (M4 4424 (x1.toNat)) (M4 4425 (x1.toNat)) M4 (fun r5 => ((¬ r5 = 0 → (k111 x1 M4)) ∧ (r5 = 0 → (Q 0 M4)))))))))))))) ∧ (r1 < 0 → (Q 0 M)))) ∧ (y2 = 10 → ((0 ≤ r1 → (Q 0 M)) ∧ (r1 < 0 → (c_X2_isToldBefore ((M 4423 1).toNat) x1 M (fun r6 => ((r6 = 0 → (k111 x1 M)) ∧ (¬ r6 = 0 → (Q 0 M))))))))))))))))
def VX0_findNames_111 (c_X10_find : Nat → Int → e_M → (Int → Prop) → Prop) (c_X2_isToldBefore : Nat → Int → e_M → (Int → Prop) → Prop) (c_X0_fits : Int → Int → Int → e_M → (Int → Prop) → Prop) (k2 : Int → e_M → Prop) (Q : Int → e_M → Prop) (x1 : Int) (M : e_M) : Prop :=
  (k2 (e_w32 (x1 + 1)) M)
def VX0_findNames (c_X10_find : Nat → Int → e_M → (Int → Prop) → Prop) (c_X2_isToldBefore : Nat → Int → e_M → (Int → Prop) → Prop) (c_X0_fits : Int → Int → Int → e_M → (Int → Prop) → Prop) (k2 : Int → e_M → Prop) (Q : Int → e_M → Prop) (M : e_M) : Prop :=
  (k2 0 M)
def yX0_findNames (i : Nat) : e_Y := x_get YX0_findNames [YX10_find, YX2_isToldBefore, YX0_fits] i
def pX0_findNamesf : List x_I := [(0, 0, 1, 0, 0, 0, []), (1, 5, 1, 1, 0, 0, []), (2, 49, 0, 0, 0, 0, []), (2, 2, 1, 1, 0, 0, []), (3, 4, 1, 0, 0, 0, []), (4, 25, 0, 1, 4, 0, [(0, 2, 19), (0, 0, 0)]), (7, 25, 2, 7, 0, 0, []), (10, 18, 117, 3, 72, 0, []), (13, 4, 1, 0, 0, 0, []), (14, 25, 0, 0, 4, 0, [(0, 10, 15), (0, 0, 0)]), (17, 4, 1, 0, 0, 0, []), (18, 25, 0, 1, 4, 0, [(0, 2, 19), (0, 0, 0)]), (21, 25, 2, 5, 4, 0, [(0, 23, 8), (0, 1, 1)]), (24, 2, 1, 1, 0, 0, []), (25, 27, 0, 1, 0, 0, []), (26, 40, 0, 2, 12, 0, []), (29, 5, 1, 2, 0, 0, []), (30, 4, 1, 0, 0, 0, []), (31, 25, 0, 1, 4, 0, [(0, 2, 19), (0, 0, 0)]), (34, 25, 2, 6, 4, 0, [(0, 20, 8), (0, 1, 2)]), (37, 2, 1, 1, 0, 0, []), (38, 27, 0, 0, 0, 0, []), (39, 33, 0, 0, 0, 0, []), (39, 5, 1, 3, 0, 0, []), (40, 2, 1, 3, 0, 0, []), (41, 0, 2, 0, 0, 10, []), (43, 18, 63, 1, 37, 0, []), (46, 2, 1, 2, 0, 0, []), (47, 17, 61, 3, 35, 0, []), (50, 4, 1, 0, 0, 0, []), (51, 25, 0, 1, 4, 0, [(0, 2, 19), (0, 0, 0)]), (54, 2, 1, 1, 0, 0, []), (55, 40, 1, 2, 4, 0, []), (58, 17, 111, 0, 69, 0, []), (61, 0, 1, 0, 0, 0, []), (62, 48, 0, 0, 0, 0, []), (63, 2, 1, 2, 0, 0, []), (64, 17, 69, 3, 41, 0, []), (67, 0, 1, 0, 0, 0, []), (68, 48, 0, 0, 0, 0, []), (69, 4, 1, 0, 0, 0, []), (70, 25, 0, 3, 4, 0, [(0, 20, 8), (0, 1, 1)]), (73, 2, 1, 1, 0, 0, []), (74, 2, 1, 2, 0, 0, []), (75, 0, 2, 0, 0, 100, []), (77, 9, 0, 3, 0, 0, []), (78, 28, 0, 0, 0, 0, []), (79, 4, 1, 0, 0, 0, []), (80, 25, 0, 4, 4, 0, [(0, 20, 8), (0, 1, 2)]), (83, 2, 1, 1, 0, 0, []), (84, 2, 1, 2, 0, 0, []), (85, 0, 2, 0, 0, 100, []), (87, 9, 0, 4, 0, 0, []), (88, 28, 0, 0, 0, 0, []), (89, 4, 1, 0, 0, 0, []), (90, 2, 1, 3, 0, 0, []), (91, 4, 1, 0, 0, 0, []), (92, 25, 0, 3, 4, 0, [(0, 20, 8), (0, 1, 1)]), (95, 2, 1, 1, 0, 0, []), (96, 27, 0, 0, 0, 0, []), (97, 4, 1, 0, 0, 0, []), (98, 25, 0, 4, 4, 0, [(0, 20, 8), (0, 1, 2)]), (101, 2, 1, 1, 0, 0, []), (102, 27, 0, 0, 0, 0, []), (103, 40, 2, 4, 2, 0, []), (106, 17, 111, 1, 69, 0, []), (109, 0, 1, 0, 0, 0, []), (110, 48, 0, 0, 0, 0, []), (111, 49, 0, 0, 0, 0, []), (111, 8, 0, 1, 0, 1, []), (114, 19, 2, 0, 3, 0, []), (117, 0, 1, 0, 0, 1, []), (118, 48, 0, 0, 0, 0, [])]
set_option maxRecDepth 20000 in
theorem qX0_findNamesf : f_all yX0_findNames YX0_findNames pX0_findNamesf :=
  ⟨f_iconst (e_dx DX0_findNames_0 0 rfl) ⟨by decide, by decide⟩,
  f_istore_n (n := 1) (e_dx DX0_findNames_0 1 rfl) rfl (by decide),
  trivial,
  f_iload_n (n := 1) (e_dx DX0_findNames_0 2 rfl) rfl,
  f_aload_n (n := 0) (e_dx DX0_findNames_0 3 rfl) rfl,
  f_getA (e_dx DX0_findNames_0 4 rfl) fX0_40 rfl (by decide) (Nat.le_of_ble_eq_true rfl) rfl (by decide),
  f_getf (e_dx DX0_findNames_0 5 rfl) fX0_126 rfl (by decide) (by decide) (by decide),
  f_icmp_ge (e_dx DX0_findNames_0 6 rfl) rfl,
  f_aload_n (n := 0) (e_dx DX0_findNames_0 7 rfl) rfl,
  f_getA (e_dx DX0_findNames_0 8 rfl) fX0_36 rfl (by decide) (Nat.le_of_ble_eq_true rfl) rfl (by decide),
  f_aload_n (n := 0) (e_dx DX0_findNames_0 9 rfl) rfl,
  f_getA (e_dx DX0_findNames_0 10 rfl) fX0_40 rfl (by decide) (Nat.le_of_ble_eq_true rfl) rfl (by decide),
  f_getA (e_dx DX0_findNames_0 11 rfl) fX0_129 rfl (by decide) (Nat.le_of_ble_eq_true rfl) rfl (by decide),
  f_iload_n (n := 1) (e_dx DX0_findNames_0 12 rfl) rfl,
  f_laload (e_dx DX0_findNames_0 13 rfl),
  x_callV (e_dx DX0_findNames_0 14 rfl) mwX10_find vwX10_find cX0_133 rfl,
  f_istore_n (n := 2) (e_dx DX0_findNames_0 15 rfl) rfl (by decide),
  f_aload_n (n := 0) (e_dx DX0_findNames_0 16 rfl) rfl,
  f_getA (e_dx DX0_findNames_0 17 rfl) fX0_40 rfl (by decide) (Nat.le_of_ble_eq_true rfl) rfl (by decide),
  f_getA (e_dx DX0_findNames_0 18 rfl) fX0_137 rfl (by decide) (Nat.le_of_ble_eq_true rfl) rfl (by decide),
  f_iload_n (n := 1) (e_dx DX0_findNames_0 19 rfl) rfl,
  f_iaload (e_dx DX0_findNames_0 20 rfl),
  f_g33,
  f_istore_n (n := 3) (e_dx DX0_findNames_0 21 rfl) rfl (by decide),
  f_iload_n (n := 3) (e_dx DX0_findNames_0 22 rfl) rfl,
  f_bipush (e_dx DX0_findNames_0 23 rfl) ⟨by decide, by decide⟩,
  f_icmp_ne (e_dx DX0_findNames_0 24 rfl) rfl,
  f_iload_n (n := 2) (e_dx DX0_findNames_0 25 rfl) rfl,
  f_if_ge (e_dx DX0_findNames_0 26 rfl) rfl,
  f_aload_n (n := 0) (e_dx DX0_findNames_0 27 rfl) rfl,
  f_getA (e_dx DX0_findNames_0 28 rfl) fX0_40 rfl (by decide) (Nat.le_of_ble_eq_true rfl) rfl (by decide),
  f_iload_n (n := 1) (e_dx DX0_findNames_0 29 rfl) rfl,
  x_callV (e_dx DX0_findNames_0 30 rfl) mwX2_isToldBefore vwX2_isToldBefore cX0_140 rfl,
  f_if_eq (e_dx DX0_findNames_0 31 rfl) rfl,
  f_iconst (e_dx DX0_findNames_0 32 rfl) ⟨by decide, by decide⟩,
  ⟨(e_dx DX0_findNames_0 33 rfl), rfl⟩,
  f_iload_n (n := 2) (e_dx DX0_findNames_0 34 rfl) rfl,
  f_if_ge (e_dx DX0_findNames_0 35 rfl) rfl,
  f_iconst (e_dx DX0_findNames_0 36 rfl) ⟨by decide, by decide⟩,
  ⟨(e_dx DX0_findNames_0 37 rfl), rfl⟩,
  f_aload_n (n := 0) (e_dx DX0_findNames_0 38 rfl) rfl,
  f_getA (e_dx DX0_findNames_0 39 rfl) fX0_15 rfl (by decide) (Nat.le_of_ble_eq_true rfl) rfl (by decide),
  f_iload_n (n := 1) (e_dx DX0_findNames_1 0 rfl) rfl,
  f_iload_n (n := 2) (e_dx DX0_findNames_1 1 rfl) rfl,
  f_bipush (e_dx DX0_findNames_1 2 rfl) ⟨by decide, by decide⟩,
  f_idiv (e_dx DX0_findNames_1 3 rfl),
  f_iastore (e_dx DX0_findNames_1 4 rfl),
  f_aload_n (n := 0) (e_dx DX0_findNames_1 5 rfl) rfl,
  f_getA (e_dx DX0_findNames_1 6 rfl) fX0_19 rfl (by decide) (Nat.le_of_ble_eq_true rfl) rfl (by decide),
  f_iload_n (n := 1) (e_dx DX0_findNames_1 7 rfl) rfl,
  f_iload_n (n := 2) (e_dx DX0_findNames_1 8 rfl) rfl,
  f_bipush (e_dx DX0_findNames_1 9 rfl) ⟨by decide, by decide⟩,
  f_irem (e_dx DX0_findNames_1 10 rfl),
  f_iastore (e_dx DX0_findNames_1 11 rfl),
  f_aload_n (n := 0) (e_dx DX0_findNames_1 12 rfl) rfl,
  f_iload_n (n := 3) (e_dx DX0_findNames_1 13 rfl) rfl,
  f_aload_n (n := 0) (e_dx DX0_findNames_1 14 rfl) rfl,
  f_getA (e_dx DX0_findNames_1 15 rfl) fX0_15 rfl (by decide) (Nat.le_of_ble_eq_true rfl) rfl (by decide),
  f_iload_n (n := 1) (e_dx DX0_findNames_1 16 rfl) rfl,
  f_iaload (e_dx DX0_findNames_1 17 rfl),
  f_aload_n (n := 0) (e_dx DX0_findNames_1 18 rfl) rfl,
  f_getA (e_dx DX0_findNames_1 19 rfl) fX0_19 rfl (by decide) (Nat.le_of_ble_eq_true rfl) rfl (by decide),
  f_iload_n (n := 1) (e_dx DX0_findNames_1 20 rfl) rfl,
  f_iaload (e_dx DX0_findNames_1 21 rfl),
  x_callV (e_dx DX0_findNames_1 22 rfl) mwX0_fits vwX0_fits cX0_144 rfl,
  f_if_ne (e_dx DX0_findNames_1 23 rfl) rfl,
  f_iconst (e_dx DX0_findNames_1 24 rfl) ⟨by decide, by decide⟩,
  ⟨(e_dx DX0_findNames_1 25 rfl), rfl⟩,
  trivial,
  f_g8 (e_dx DX0_findNames_1 26 rfl) ⟨by decide, by decide⟩,
  f_g19 (e_dx DX0_findNames_1 27 rfl) rfl,
  f_iconst (e_dx DX0_findNames_1 28 rfl) ⟨by decide, by decide⟩,
  ⟨(e_dx DX0_findNames_1 29 rfl), rfl⟩, trivial⟩
def lX0_findNames (c_X10_find : Nat → Int → e_M → (Int → Prop) → Prop) (c_X2_isToldBefore : Nat → Int → e_M → (Int → Prop) → Prop) (c_X0_fits : Int → Int → Int → e_M → (Int → Prop) → Prop) : List (Nat × f_Wt) := [(0, f_wm [(3, 10, 15), (2, 0, 0)] (fun ar M R => c_X10_find (f_va (f_nth ar 0)) (f_vi (f_nth ar 1)) M (fun r => R (some (.inl r)) M))), (1, f_wm [(3, 2, 19), (1, 0, 0)] (fun ar M R => c_X2_isToldBefore (f_va (f_nth ar 0)) (f_vi (f_nth ar 1)) M (fun r => R (some (.inl r)) M))), (2, f_wm [(4433, 0, 7), (1, 0, 0), (1, 0, 0), (1, 0, 0)] (fun ar M R => c_X0_fits (f_vi (f_nth ar 1)) (f_vi (f_nth ar 2)) (f_vi (f_nth ar 3)) M (fun r => R (some (.inl r)) M)))]
set_option maxRecDepth 20000 in
theorem BX0_findNames_2 {sh : Nat → Nat × Nat} {t : Nat} {rm : Nat × Nat × Nat} {cs : Nat × Nat} {R : f_Rt} {c_X10_find : Nat → Int → e_M → (Int → Prop) → Prop} {c_X2_isToldBefore : Nat → Int → e_M → (Int → Prop) → Prop} {c_X0_fits : Int → Int → Int → e_M → (Int → Prop) → Prop} {k111 : Int → e_M → Prop} {x1 : Int} {M : e_M} (C : f_Hy sh t yX0_findNames rm cs 7 (lX0_findNames c_X10_find c_X2_isToldBefore c_X0_fits) R) (h111 : ∀ (x1 : Int) (M : e_M), k111 x1 M → f_E sh t YX0_findNames rm cs (f_Q sh t R) 111 [.inr (.inr (.inl (0, 7, 4423))), .inl x1, .inr (.inr (.inr ())), .inr (.inr (.inr ()))] [] M) (h : VX0_findNames_2 c_X10_find c_X2_isToldBefore c_X0_fits k111 (fun r M => R (some (.inl r)) M) x1 M) : f_E sh t YX0_findNames rm cs (f_Q sh t R) 2 [.inr (.inr (.inl (0, 7, 4423))), .inl x1, .inr (.inr (.inr ())), .inr (.inr (.inr ()))] [] M :=
  f_go (KC := f_kc [(111, f_pl [(4433, 0, 7), (1, 0, 0), (0, 0, 0), (0, 0, 0)] [] (fun ls st M => k111 (f_vi (f_nth ls 1)) M))]) C qX0_findNamesf (f_kc_cons (f_pl_ok rfl (fun ls st M h => h111 _ M h)) f_kc_nil) 75 3 h
set_option maxRecDepth 20000 in
theorem BX0_findNames_111 {sh : Nat → Nat × Nat} {t : Nat} {rm : Nat × Nat × Nat} {cs : Nat × Nat} {R : f_Rt} {c_X10_find : Nat → Int → e_M → (Int → Prop) → Prop} {c_X2_isToldBefore : Nat → Int → e_M → (Int → Prop) → Prop} {c_X0_fits : Int → Int → Int → e_M → (Int → Prop) → Prop} {k2 : Int → e_M → Prop} {x1 : Int} {M : e_M} (C : f_Hy sh t yX0_findNames rm cs 7 (lX0_findNames c_X10_find c_X2_isToldBefore c_X0_fits) R) (h2 : ∀ (x1 : Int) (M : e_M), k2 x1 M → f_E sh t YX0_findNames rm cs (f_Q sh t R) 2 [.inr (.inr (.inl (0, 7, 4423))), .inl x1, .inr (.inr (.inr ())), .inr (.inr (.inr ()))] [] M) (h : VX0_findNames_111 c_X10_find c_X2_isToldBefore c_X0_fits k2 (fun r M => R (some (.inl r)) M) x1 M) : f_E sh t YX0_findNames rm cs (f_Q sh t R) 111 [.inr (.inr (.inl (0, 7, 4423))), .inl x1, .inr (.inr (.inr ())), .inr (.inr (.inr ()))] [] M :=
  f_go (KC := f_kc [(2, f_pl [(4433, 0, 7), (1, 0, 0), (0, 0, 0), (0, 0, 0)] [] (fun ls st M => k2 (f_vi (f_nth ls 1)) M))]) C qX0_findNamesf (f_kc_cons (f_pl_ok rfl (fun ls st M h => h2 _ M h)) f_kc_nil) 75 69 h
set_option maxRecDepth 20000 in
theorem BX0_findNames {sh : Nat → Nat × Nat} {t : Nat} {rm : Nat × Nat × Nat} {cs : Nat × Nat} {R : f_Rt} {c_X10_find : Nat → Int → e_M → (Int → Prop) → Prop} {c_X2_isToldBefore : Nat → Int → e_M → (Int → Prop) → Prop} {c_X0_fits : Int → Int → Int → e_M → (Int → Prop) → Prop} {k2 : Int → e_M → Prop} {M : e_M} (C : f_Hy sh t yX0_findNames rm cs 7 (lX0_findNames c_X10_find c_X2_isToldBefore c_X0_fits) R) (h2 : ∀ (x1 : Int) (M : e_M), k2 x1 M → f_E sh t YX0_findNames rm cs (f_Q sh t R) 2 [.inr (.inr (.inl (0, 7, 4423))), .inl x1, .inr (.inr (.inr ())), .inr (.inr (.inr ()))] [] M) (h : VX0_findNames c_X10_find c_X2_isToldBefore c_X0_fits k2 (fun r M => R (some (.inl r)) M) M) : f_E sh t YX0_findNames rm cs (f_Q sh t R) 0 [.inr (.inr (.inl (0, 7, 4423))), .inr (.inr (.inr ())), .inr (.inr (.inr ())), .inr (.inr (.inr ()))] [] M :=
  f_go (KC := f_kc [(2, f_pl [(4433, 0, 7), (1, 0, 0), (0, 0, 0), (0, 0, 0)] [] (fun ls st M => k2 (f_vi (f_nth ls 1)) M))]) C qX0_findNamesf (f_kc_cons (f_pl_ok rfl (fun ls st M h => h2 _ M h)) f_kc_nil) 75 0 h
def WX0_findNames_111 (H2 : Int → e_M → Prop) (Q : Int → e_M → Prop) (x1 : Int) (M : e_M) : Prop :=
  VX0_findNames_111 WX10_find WX2_isToldBefore WX0_fits H2 Q x1 M
def WX0_findNames_2 (Q : Int → e_M → Prop) : Nat → Int → e_M → Prop
  | 0, _, _ => False
  | n + 1, x1, M =>
    VX0_findNames_2 WX10_find WX2_isToldBefore WX0_fits (WX0_findNames_111 (WX0_findNames_2 Q n) Q) Q x1 M
def WX0_findNames (M : e_M) (Q : Int → e_M → Prop) : Prop :=
  VX0_findNames WX10_find WX2_isToldBefore WX0_fits (fun x1 M => ∃ j, WX0_findNames_2 Q j x1 M) Q M
theorem PX0_findNames_111 {sh : Nat → Nat × Nat} {t : Nat} {rm : Nat × Nat × Nat} {cs : Nat × Nat} {R : f_Rt} {H2 : Int → e_M → Prop} {x1 : Int} {M : e_M} (C : f_Hy sh t yX0_findNames rm cs 7 (lX0_findNames WX10_find WX2_isToldBefore WX0_fits) R) (g2 : ∀ (x1 : Int) (M : e_M), H2 x1 M → f_E sh t YX0_findNames rm cs (f_Q sh t R) 2 [.inr (.inr (.inl (0, 7, 4423))), .inl x1, .inr (.inr (.inr ())), .inr (.inr (.inr ()))] [] M) (h : WX0_findNames_111 H2 (fun r M => R (some (.inl r)) M) x1 M) : f_E sh t YX0_findNames rm cs (f_Q sh t R) 111 [.inr (.inr (.inl (0, 7, 4423))), .inl x1, .inr (.inr (.inr ())), .inr (.inr (.inr ()))] [] M :=
  BX0_findNames_111 C g2 h
theorem PX0_findNames_2 {sh : Nat → Nat × Nat} {t : Nat} {rm : Nat × Nat × Nat} {cs : Nat × Nat} {R : f_Rt} (C : f_Hy sh t yX0_findNames rm cs 7 (lX0_findNames WX10_find WX2_isToldBefore WX0_fits) R) : ∀ (n : Nat) (x1 : Int) (M : e_M), WX0_findNames_2 (fun r M => R (some (.inl r)) M) n x1 M → f_E sh t YX0_findNames rm cs (f_Q sh t R) 2 [.inr (.inr (.inl (0, 7, 4423))), .inl x1, .inr (.inr (.inr ())), .inr (.inr (.inr ()))] [] M := by
  intro n
  induction n with
  | zero => intro x1 M h; exact h.elim
  | succ n ih => intro x1 M h; exact BX0_findNames_2 C (fun x1 M h => PX0_findNames_111 C ih h) h
theorem PX0_findNames {sh : Nat → Nat × Nat} {t : Nat} {rm : Nat × Nat × Nat} {cs : Nat × Nat} {R : f_Rt} {M : e_M} (C : f_Hy sh t yX0_findNames rm cs 7 (lX0_findNames WX10_find WX2_isToldBefore WX0_fits) R) (h : WX0_findNames M (fun r M => R (some (.inl r)) M)) : f_E sh t YX0_findNames rm cs (f_Q sh t R) 0 [.inr (.inr (.inl (0, 7, 4423))), .inr (.inr (.inr ())), .inr (.inr (.inr ())), .inr (.inr (.inr ()))] [] M :=
  BX0_findNames C (fun x1 M ⟨j, h⟩ => PX0_findNames_2 C j _ _ h) h
def wX0_findNames : f_Wt := f_wm [(4433, 0, 7)] (fun ar M R => WX0_findNames M (fun r M => R (some (.inl r)) M))
theorem TX0_findNames {sh : Nat → Nat × Nat} {t : Nat} : f_Mt sh t YX0_findNames 7 (wX0_findNames) :=
  f_Mt_of (k := 3) (Nat.le_of_ble_eq_true rfl) rfl rfl (fun ar M R rm cs h1 h2 h3 hX h => PX0_findNames ⟨Nat.le_of_ble_eq_true rfl, h1, h2, h3, ⟨(f_Mt.up (Nat.le_of_ble_eq_true rfl) TX10_find), (f_Mt.up (Nat.le_of_ble_eq_true rfl) TX2_isToldBefore), (f_Mt.up (Nat.le_of_ble_eq_true rfl) TX0_fits), trivial⟩, hX⟩ h)
def VX10_isFull (Q : Int → Prop) (a0 : Nat) (x1 : Int) (M : e_M) : Prop :=
  ((0 ≤ x1 ∧ x1 < 8) ∧ ((0 ≤ x1 ∧ x1 < 8) ∧ (((M (a0 + 24) (x1.toNat)) < (f_kt 1000001 (x1.toNat)) → (Q 0)) ∧ ((f_kt 1000001 (x1.toNat)) ≤ (M (a0 + 24) (x1.toNat)) → (Q 1)))))
def yX10_isFull (i : Nat) : e_Y := x_get YX10_isFull [] i
def pX10_isFullf : List x_I := [(0, 4, 1, 0, 0, 0, []), (1, 25, 10, 4, 4, 0, [(0, 20, 8), (0, 1, 24)]), (4, 2, 1, 1, 0, 0, []), (5, 27, 0, 0, 0, 0, []), (6, 35, 3, 1000001, 8, 0, []), (9, 2, 1, 1, 0, 0, []), (10, 27, 0, 0, 0, 0, []), (11, 18, 18, 2, 11, 0, []), (14, 0, 1, 0, 0, 1, []), (15, 19, 19, 0, 12, 0, []), (18, 0, 1, 0, 0, 0, []), (19, 48, 0, 0, 0, 0, [])]
set_option maxRecDepth 20000 in
theorem qX10_isFullf : f_all yX10_isFull YX10_isFull pX10_isFullf :=
  ⟨f_aload_n (n := 0) (e_dx DX10_isFull_0 0 rfl) rfl,
  f_getA (e_dx DX10_isFull_0 1 rfl) fX10_42 rfl (by decide) (Nat.le_of_ble_eq_true rfl) rfl (by decide),
  f_iload_n (n := 1) (e_dx DX10_isFull_0 2 rfl) rfl,
  f_iaload (e_dx DX10_isFull_0 3 rfl),
  f_getsN (j := 0) (q := ("LandHouse", "MOST")) (e_dx DX10_isFull_0 4 rfl) rfl gX10_9 rfl ⟨rfl, rfl⟩,
  f_iload_n (n := 1) (e_dx DX10_isFull_0 5 rfl) rfl,
  f_iaload (e_dx DX10_isFull_0 6 rfl),
  f_icmp_lt (e_dx DX10_isFull_0 7 rfl) rfl,
  f_iconst (e_dx DX10_isFull_0 8 rfl) ⟨by decide, by decide⟩,
  f_g19 (e_dx DX10_isFull_0 9 rfl) rfl,
  f_iconst (e_dx DX10_isFull_0 10 rfl) ⟨by decide, by decide⟩,
  ⟨(e_dx DX10_isFull_0 11 rfl), rfl⟩, trivial⟩
def lX10_isFull : List (Nat × f_Wt) := []
set_option maxRecDepth 20000 in
theorem BX10_isFull {sh : Nat → Nat × Nat} {t : Nat} {rm : Nat × Nat × Nat} {cs : Nat × Nat} {R : f_Rt} {a0 : Nat} {x1 : Int} {M : e_M} (C : f_Hy sh t yX10_isFull rm cs 4 (lX10_isFull) R) (h : VX10_isFull (fun r => R (some (.inl r)) M) a0 x1 M) : f_E sh t YX10_isFull rm cs (f_Q sh t R) 0 [.inr (.inr (.inl (10, 15, a0))), .inl x1] [] M :=
  f_go (KC := f_kc []) C qX10_isFullf f_kc_nil 14 0 h
def WX10_isFull (a0 : Nat) (x1 : Int) (M : e_M) (Q : Int → Prop) : Prop :=
  VX10_isFull Q a0 x1 M
theorem PX10_isFull {sh : Nat → Nat × Nat} {t : Nat} {rm : Nat × Nat × Nat} {cs : Nat × Nat} {R : f_Rt} {a0 : Nat} {x1 : Int} {M : e_M} (C : f_Hy sh t yX10_isFull rm cs 4 (lX10_isFull) R) (h : WX10_isFull a0 x1 M (fun r => R (some (.inl r)) M)) : f_E sh t YX10_isFull rm cs (f_Q sh t R) 0 [.inr (.inr (.inl (10, 15, a0))), .inl x1] [] M :=
  BX10_isFull C h
def wX10_isFull : f_Wt := f_wm [(3, 10, 15), (1, 0, 0)] (fun ar M R => WX10_isFull (f_va (f_nth ar 0)) (f_vi (f_nth ar 1)) M (fun r => R (some (.inl r)) M))
theorem TX10_isFull {sh : Nat → Nat × Nat} {t : Nat} : f_Mt sh t YX10_isFull 4 (wX10_isFull) :=
  f_Mt_of (k := 0) (Nat.le_of_ble_eq_true rfl) rfl rfl (fun ar M R rm cs h1 h2 h3 hX h => PX10_isFull ⟨Nat.le_of_ble_eq_true rfl, h1, h2, h3, trivial, hX⟩ h)
def VX9_begin (Q : e_M → Prop) (a0 : Nat) (x1 : Int) (a3 : Nat) (x4 : Int) (M : e_M) : Prop :=
  (∀ M1 : e_M, M1 = e_up M a0 0 x1 → (∀ M2 : e_M, M2 = e_up M1 a0 11 ((a3 : Nat) : Int) → (∀ M3 : e_M, M3 = e_up M2 a0 1 x4 → (((0 : Int) = 0 ∨ (0 : Int) = 1) ∧ (∀ M4 : e_M, M4 = e_up M3 a0 2 0 → (∀ M5 : e_M, M5 = e_up M4 a0 3 1000000 → (∀ M6 : e_M, M6 = e_up M5 a0 4 (-1) → (∀ M7 : e_M, M7 = e_up M6 a0 5 (-1) → (∀ M8 : e_M, M8 = e_up M7 a0 6 0 → (∀ M9 : e_M, M9 = e_up M8 a0 7 0 → (((0 : Int) = 0 ∨ (0 : Int) = 1) ∧ (∀ M10 : e_M, M10 = e_up M9 a0 8 0 → (∀ M11 : e_M, M11 = e_up M10 ((M10 a0 9).toNat) 1 0 → (∀ M12 : e_M, M12 = e_up M11 ((M11 a0 10).toNat) 1 0 → (∀ M13 : e_M, M13 = e_up M12 a0 12 0 → (∀ M14 : e_M, M14 = e_up M13 a0 13 1 → (Q M14)))))))))))))))))
def yX9_begin (i : Nat) : e_Y := x_get YX9_begin [] i
def pX9_beginf : List x_I := [(0, 4, 1, 0, 0, 0, []), (1, 3, 1, 1, 0, 0, []), (2, 26, 9, 0, 3, 0, []), (5, 4, 1, 0, 0, 0, []), (6, 4, 1, 3, 0, 0, []), (7, 26, 9, 11, 4, 0, [(0, 2, 19), (0, 0, 0)]), (10, 4, 1, 0, 0, 0, []), (11, 2, 2, 4, 0, 0, []), (13, 26, 9, 1, 0, 0, []), (16, 4, 1, 0, 0, 0, []), (17, 0, 1, 0, 0, 0, []), (18, 26, 9, 2, 1, 0, []), (21, 4, 1, 0, 0, 0, []), (22, 0, 2, 0, 0, 1000000, []), (24, 26, 9, 3, 0, 0, []), (27, 4, 1, 0, 0, 0, []), (28, 0, 1, 0, 0, (-1), []), (29, 26, 9, 4, 0, 0, []), (32, 4, 1, 0, 0, 0, []), (33, 0, 1, 0, 0, (-1), []), (34, 26, 9, 5, 0, 0, []), (37, 4, 1, 0, 0, 0, []), (38, 0, 1, 0, 0, 0, []), (39, 26, 9, 6, 0, 0, []), (42, 4, 1, 0, 0, 0, []), (43, 0, 1, 0, 0, 0, []), (44, 26, 9, 7, 0, 0, []), (47, 4, 1, 0, 0, 0, []), (48, 0, 1, 0, 0, 0, []), (49, 26, 9, 8, 1, 0, []), (52, 4, 1, 0, 0, 0, []), (53, 25, 9, 9, 4, 0, [(0, 8, 2), (0, 0, 0)]), (56, 0, 1, 0, 0, 0, []), (57, 26, 8, 1, 0, 0, []), (60, 4, 1, 0, 0, 0, []), (61, 25, 9, 10, 4, 0, [(0, 8, 2), (0, 0, 0)]), (64, 0, 1, 0, 0, 0, []), (65, 26, 8, 1, 0, 0, []), (68, 4, 1, 0, 0, 0, []), (69, 1, 1, 0, 0, 0, []), (70, 26, 9, 12, 3, 0, []), (73, 4, 1, 0, 0, 0, []), (74, 1, 1, 0, 0, 1, []), (75, 26, 9, 13, 3, 0, []), (78, 44, 0, 0, 0, 0, [])]
set_option maxRecDepth 20000 in
theorem qX9_beginf : f_all yX9_begin YX9_begin pX9_beginf :=
  ⟨f_aload_n (n := 0) (e_dx DX9_begin_0 0 rfl) rfl,
  f_lload_n (n := 1) (e_dx DX9_begin_0 1 rfl) rfl,
  f_putn (e_dx DX9_begin_0 2 rfl) fX9_9 (fun q hq => by cases hq; rfl) rfl (Or.inr (Or.inr rfl)) (by decide),
  f_aload_n (n := 0) (e_dx DX9_begin_0 3 rfl) rfl,
  f_aload_n (n := 3) (e_dx DX9_begin_0 4 rfl) rfl,
  f_putA (e_dx DX9_begin_0 5 rfl) fX9_58 (fun q hq => by cases hq; rfl) rfl (by decide) rfl,
  f_aload_n (n := 0) (e_dx DX9_begin_0 6 rfl) rfl,
  f_iload (e_dx DX9_begin_0 7 rfl),
  f_putn (e_dx DX9_begin_0 8 rfl) fX9_15 (fun q hq => by cases hq; rfl) rfl (Or.inl rfl) (by decide),
  f_aload_n (n := 0) (e_dx DX9_begin_0 9 rfl) rfl,
  f_iconst (e_dx DX9_begin_0 10 rfl) ⟨by decide, by decide⟩,
  f_putn (e_dx DX9_begin_0 11 rfl) fX9_19 (fun q hq => by cases hq; rfl) rfl (Or.inr (Or.inl rfl)) (by decide),
  f_aload_n (n := 0) (e_dx DX9_begin_0 12 rfl) rfl,
  f_ldc (e_dx DX9_begin_0 13 rfl) hX9_23 rfl ⟨by decide, by decide⟩,
  f_putn (e_dx DX9_begin_0 14 rfl) fX9_24 (fun q hq => by cases hq; rfl) rfl (Or.inl rfl) (by decide),
  f_aload_n (n := 0) (e_dx DX9_begin_0 15 rfl) rfl,
  f_iconst (e_dx DX9_begin_0 16 rfl) ⟨by decide, by decide⟩,
  f_putn (e_dx DX9_begin_0 17 rfl) fX9_27 (fun q hq => by cases hq; rfl) rfl (Or.inl rfl) (by decide),
  f_aload_n (n := 0) (e_dx DX9_begin_0 18 rfl) rfl,
  f_iconst (e_dx DX9_begin_0 19 rfl) ⟨by decide, by decide⟩,
  f_putn (e_dx DX9_begin_0 20 rfl) fX9_30 (fun q hq => by cases hq; rfl) rfl (Or.inl rfl) (by decide),
  f_aload_n (n := 0) (e_dx DX9_begin_0 21 rfl) rfl,
  f_iconst (e_dx DX9_begin_0 22 rfl) ⟨by decide, by decide⟩,
  f_putn (e_dx DX9_begin_0 23 rfl) fX9_33 (fun q hq => by cases hq; rfl) rfl (Or.inl rfl) (by decide),
  f_aload_n (n := 0) (e_dx DX9_begin_0 24 rfl) rfl,
  f_iconst (e_dx DX9_begin_0 25 rfl) ⟨by decide, by decide⟩,
  f_putn (e_dx DX9_begin_0 26 rfl) fX9_36 (fun q hq => by cases hq; rfl) rfl (Or.inl rfl) (by decide),
  f_aload_n (n := 0) (e_dx DX9_begin_0 27 rfl) rfl,
  f_iconst (e_dx DX9_begin_0 28 rfl) ⟨by decide, by decide⟩,
  f_putn (e_dx DX9_begin_0 29 rfl) fX9_39 (fun q hq => by cases hq; rfl) rfl (Or.inr (Or.inl rfl)) (by decide),
  f_aload_n (n := 0) (e_dx DX9_begin_0 30 rfl) rfl,
  f_getA (e_dx DX9_begin_0 31 rfl) fX9_45 rfl (by decide) (Nat.le_of_ble_eq_true rfl) rfl (by decide),
  f_iconst (e_dx DX9_begin_0 32 rfl) ⟨by decide, by decide⟩,
  f_putn (e_dx DX9_begin_0 33 rfl) fX9_62 (fun q hq => by cases hq; rfl) rfl (Or.inl rfl) (by decide),
  f_aload_n (n := 0) (e_dx DX9_begin_0 34 rfl) rfl,
  f_getA (e_dx DX9_begin_0 35 rfl) fX9_49 rfl (by decide) (Nat.le_of_ble_eq_true rfl) rfl (by decide),
  f_iconst (e_dx DX9_begin_0 36 rfl) ⟨by decide, by decide⟩,
  f_putn (e_dx DX9_begin_0 37 rfl) fX9_62 (fun q hq => by cases hq; rfl) rfl (Or.inl rfl) (by decide),
  f_aload_n (n := 0) (e_dx DX9_begin_0 38 rfl) rfl,
  f_lconst (n := 0) (e_dx DX9_begin_0 39 rfl) rfl,
  f_putn (e_dx DX9_begin_1 0 rfl) fX9_52 (fun q hq => by cases hq; rfl) rfl (Or.inr (Or.inr rfl)) (by decide),
  f_aload_n (n := 0) (e_dx DX9_begin_1 1 rfl) rfl,
  f_lconst (n := 1) (e_dx DX9_begin_1 2 rfl) rfl,
  f_putn (e_dx DX9_begin_1 3 rfl) fX9_55 (fun q hq => by cases hq; rfl) rfl (Or.inr (Or.inr rfl)) (by decide),
  ⟨(e_dx DX9_begin_1 4 rfl), rfl⟩, trivial⟩
def lX9_begin : List (Nat × f_Wt) := []
set_option maxRecDepth 20000 in
theorem BX9_begin {sh : Nat → Nat × Nat} {t : Nat} {rm : Nat × Nat × Nat} {cs : Nat × Nat} {R : f_Rt} {a0 : Nat} {x1 : Int} {a3 : Nat} {x4 : Int} {M : e_M} (C : f_Hy sh t yX9_begin rm cs 4 (lX9_begin) R) (h : VX9_begin (fun M => R none M) a0 x1 a3 x4 M) : f_E sh t YX9_begin rm cs (f_Q sh t R) 0 [.inr (.inr (.inl (9, 14, a0))), .inr (.inl x1), .inr (.inr (.inr ())), .inr (.inr (.inl (2, 19, a3))), .inl x4] [] M :=
  f_go (KC := f_kc []) C qX9_beginf f_kc_nil 47 0 h
def WX9_begin (a0 : Nat) (x1 : Int) (a3 : Nat) (x4 : Int) (M : e_M) (Q : e_M → Prop) : Prop :=
  VX9_begin Q a0 x1 a3 x4 M
theorem PX9_begin {sh : Nat → Nat × Nat} {t : Nat} {rm : Nat × Nat × Nat} {cs : Nat × Nat} {R : f_Rt} {a0 : Nat} {x1 : Int} {a3 : Nat} {x4 : Int} {M : e_M} (C : f_Hy sh t yX9_begin rm cs 4 (lX9_begin) R) (h : WX9_begin a0 x1 a3 x4 M (fun M => R none M)) : f_E sh t YX9_begin rm cs (f_Q sh t R) 0 [.inr (.inr (.inl (9, 14, a0))), .inr (.inl x1), .inr (.inr (.inr ())), .inr (.inr (.inl (2, 19, a3))), .inl x4] [] M :=
  BX9_begin C h
def wX9_begin : f_Wt := f_wm [(3, 9, 14), (2, 0, 0), (3, 2, 19), (1, 0, 0)] (fun ar M R => WX9_begin (f_va (f_nth ar 0)) (f_vi (f_nth ar 1)) (f_va (f_nth ar 2)) (f_vi (f_nth ar 3)) M (fun M => R none M))
theorem TX9_begin {sh : Nat → Nat × Nat} {t : Nat} : f_Mt sh t YX9_begin 4 (wX9_begin) :=
  f_Mt_of (k := 0) (Nat.le_of_ble_eq_true rfl) rfl rfl (fun ar M R rm cs h1 h2 h3 hX h => PX9_begin ⟨Nat.le_of_ble_eq_true rfl, h1, h2, h3, trivial, hX⟩ h)
def VX10_add (c_X10_isFull : Nat → Int → e_M → (Int → Prop) → Prop) (c_X9_begin : Nat → Int → Nat → Int → e_M → (e_M → Prop) → Prop) (Q : Nat → e_M → Prop) (a0 : Nat) (x1 : Int) (x2 : Int) (a4 : Nat) (x5 : Int) (M : e_M) : Prop :=
  (c_X10_isFull a0 x1 M (fun r1 => ((r1 = 0 → ((0 ≤ x1 ∧ x1 < 8) ∧ ((0 ≤ x1 ∧ x1 < 8) ∧ ((0 ≤ (e_w32 ((f_kt 1000002 (x1.toNat)) + (M (a0 + 24) (x1.toNat)))) ∧ (e_w32 ((f_kt 1000002 (x1.toNat)) + (M (a0 + 24) (x1.toNat)))) < 290) ∧ (c_X9_begin ((M (a0 + 2) ((e_w32 ((f_kt 1000002 (x1.toNat)) + (M (a0 + 24) (x1.toNat)))).toNat)).toNat) x2 a4 x5 M (fun M2 => ((0 ≤ x1 ∧ x1 < 8) ∧ ((0 ≤ x1 ∧ x1 < 8) ∧ (∀ M3 : e_M, M3 = e_up M2 (a0 + 24) (x1.toNat) (e_w32 ((M2 (a0 + 24) (x1.toNat)) + 1)) → (Q ((M (a0 + 2) ((e_w32 ((f_kt 1000002 (x1.toNat)) + (M (a0 + 24) (x1.toNat)))).toNat)).toNat) M3)))))))))) ∧ (¬ r1 = 0 → (Q (a0 + 12) M)))))
def yX10_add (i : Nat) : e_Y := x_get YX10_add [YX10_isFull, YX9_begin] i
def pX10_addf : List x_I := [(0, 4, 1, 0, 0, 0, []), (1, 2, 1, 1, 0, 0, []), (2, 40, 0, 2, 12, 0, []), (5, 17, 13, 0, 8, 0, []), (8, 4, 1, 0, 0, 0, []), (9, 25, 10, 3, 4, 0, [(0, 9, 14), (0, 1, 12)]), (12, 45, 0, 0, 0, 0, []), (13, 4, 1, 0, 0, 0, []), (14, 25, 10, 1, 4, 0, [(0, 39, 290), (0, 1, 2)]), (17, 35, 3, 1000002, 8, 0, []), (20, 2, 1, 1, 0, 0, []), (21, 27, 0, 0, 0, 0, []), (22, 4, 1, 0, 0, 0, []), (23, 25, 10, 4, 4, 0, [(0, 20, 8), (0, 1, 24)]), (26, 2, 1, 1, 0, 0, []), (27, 27, 0, 0, 0, 0, []), (28, 9, 0, 0, 0, 0, []), (29, 27, 0, 3, 0, 0, [(0, 9, 14), (0, 0, 0)]), (30, 7, 2, 6, 0, 0, []), (32, 4, 2, 6, 0, 0, []), (34, 3, 1, 2, 0, 0, []), (35, 4, 2, 4, 0, 0, []), (37, 2, 2, 5, 0, 0, []), (39, 40, 1, 4, 11, 0, []), (42, 4, 1, 0, 0, 0, []), (43, 25, 10, 4, 4, 0, [(0, 20, 8), (0, 1, 24)]), (46, 2, 1, 1, 0, 0, []), (47, 23, 0, 0, 0, 0, []), (48, 27, 0, 0, 0, 0, []), (49, 0, 1, 0, 0, 1, []), (50, 9, 0, 0, 0, 0, []), (51, 28, 0, 0, 0, 0, []), (52, 4, 2, 6, 0, 0, []), (54, 45, 0, 0, 0, 0, [])]
set_option maxRecDepth 20000 in
theorem qX10_addf : f_all yX10_add YX10_add pX10_addf :=
  ⟨f_aload_n (n := 0) (e_dx DX10_add_0 0 rfl) rfl,
  f_iload_n (n := 1) (e_dx DX10_add_0 1 rfl) rfl,
  x_callV (e_dx DX10_add_0 2 rfl) mwX10_isFull vwX10_isFull cX10_135 rfl,
  f_if_eq (e_dx DX10_add_0 3 rfl) rfl,
  f_aload_n (n := 0) (e_dx DX10_add_0 4 rfl) rfl,
  f_getA (e_dx DX10_add_0 5 rfl) fX10_38 rfl (by decide) (Nat.le_of_ble_eq_true rfl) rfl (by decide),
  ⟨(e_dx DX10_add_0 6 rfl), _, rfl, Or.inl ⟨_, rfl⟩⟩,
  f_aload_n (n := 0) (e_dx DX10_add_0 7 rfl) rfl,
  f_getA (e_dx DX10_add_0 8 rfl) fX10_23 rfl (by decide) (Nat.le_of_ble_eq_true rfl) rfl (by decide),
  f_getsN (j := 1) (q := ("LandHouse", "FIRST")) (e_dx DX10_add_0 9 rfl) rfl gX10_132 rfl ⟨rfl, rfl⟩,
  f_iload_n (n := 1) (e_dx DX10_add_0 10 rfl) rfl,
  f_iaload (e_dx DX10_add_0 11 rfl),
  f_aload_n (n := 0) (e_dx DX10_add_0 12 rfl) rfl,
  f_getA (e_dx DX10_add_0 13 rfl) fX10_42 rfl (by decide) (Nat.le_of_ble_eq_true rfl) rfl (by decide),
  f_iload_n (n := 1) (e_dx DX10_add_0 14 rfl) rfl,
  f_iaload (e_dx DX10_add_0 15 rfl),
  f_iadd (e_dx DX10_add_0 16 rfl),
  f_aaload (e_dx DX10_add_0 17 rfl) (by decide) rfl,
  f_astore (e_dx DX10_add_0 18 rfl) (by decide),
  f_aload (e_dx DX10_add_0 19 rfl),
  f_lload_n (n := 2) (e_dx DX10_add_0 20 rfl) rfl,
  f_aload (e_dx DX10_add_0 21 rfl),
  f_iload (e_dx DX10_add_0 22 rfl),
  x_callV (e_dx DX10_add_0 23 rfl) mwX9_begin vwX9_begin cX10_143 rfl,
  f_aload_n (n := 0) (e_dx DX10_add_0 24 rfl) rfl,
  f_getA (e_dx DX10_add_0 25 rfl) fX10_42 rfl (by decide) (Nat.le_of_ble_eq_true rfl) rfl (by decide),
  f_iload_n (n := 1) (e_dx DX10_add_0 26 rfl) rfl,
  f_g23 (e_dx DX10_add_0 27 rfl),
  f_iaload (e_dx DX10_add_0 28 rfl),
  f_iconst (e_dx DX10_add_0 29 rfl) ⟨by decide, by decide⟩,
  f_iadd (e_dx DX10_add_0 30 rfl),
  f_iastore (e_dx DX10_add_0 31 rfl),
  f_aload (e_dx DX10_add_0 32 rfl),
  ⟨(e_dx DX10_add_0 33 rfl), _, rfl, Or.inl ⟨_, rfl⟩⟩, trivial⟩
def lX10_add (c_X10_isFull : Nat → Int → e_M → (Int → Prop) → Prop) (c_X9_begin : Nat → Int → Nat → Int → e_M → (e_M → Prop) → Prop) : List (Nat × f_Wt) := [(0, f_wm [(3, 10, 15), (1, 0, 0)] (fun ar M R => c_X10_isFull (f_va (f_nth ar 0)) (f_vi (f_nth ar 1)) M (fun r => R (some (.inl r)) M))), (1, f_wm [(3, 9, 14), (2, 0, 0), (3, 2, 19), (1, 0, 0)] (fun ar M R => c_X9_begin (f_va (f_nth ar 0)) (f_vi (f_nth ar 1)) (f_va (f_nth ar 2)) (f_vi (f_nth ar 3)) M (fun M => R none M)))]
set_option maxRecDepth 20000 in
theorem BX10_add {sh : Nat → Nat × Nat} {t : Nat} {rm : Nat × Nat × Nat} {cs : Nat × Nat} {R : f_Rt} {c_X10_isFull : Nat → Int → e_M → (Int → Prop) → Prop} {c_X9_begin : Nat → Int → Nat → Int → e_M → (e_M → Prop) → Prop} {a0 : Nat} {x1 : Int} {x2 : Int} {a4 : Nat} {x5 : Int} {M : e_M} (C : f_Hy sh t yX10_add rm cs 5 (lX10_add c_X10_isFull c_X9_begin) R) (h : VX10_add c_X10_isFull c_X9_begin (fun r M => R (some (.inr (.inr (.inl (9, 14, r))))) M) a0 x1 x2 a4 x5 M) : f_E sh t YX10_add rm cs (f_Q sh t R) 0 [.inr (.inr (.inl (10, 15, a0))), .inl x1, .inr (.inl x2), .inr (.inr (.inr ())), .inr (.inr (.inl (2, 19, a4))), .inl x5, .inr (.inr (.inr ()))] [] M :=
  f_go (KC := f_kc []) C qX10_addf f_kc_nil 36 0 h
def WX10_add (a0 : Nat) (x1 : Int) (x2 : Int) (a4 : Nat) (x5 : Int) (M : e_M) (Q : Nat → e_M → Prop) : Prop :=
  VX10_add WX10_isFull WX9_begin Q a0 x1 x2 a4 x5 M
theorem PX10_add {sh : Nat → Nat × Nat} {t : Nat} {rm : Nat × Nat × Nat} {cs : Nat × Nat} {R : f_Rt} {a0 : Nat} {x1 : Int} {x2 : Int} {a4 : Nat} {x5 : Int} {M : e_M} (C : f_Hy sh t yX10_add rm cs 5 (lX10_add WX10_isFull WX9_begin) R) (h : WX10_add a0 x1 x2 a4 x5 M (fun r M => R (some (.inr (.inr (.inl (9, 14, r))))) M)) : f_E sh t YX10_add rm cs (f_Q sh t R) 0 [.inr (.inr (.inl (10, 15, a0))), .inl x1, .inr (.inl x2), .inr (.inr (.inr ())), .inr (.inr (.inl (2, 19, a4))), .inl x5, .inr (.inr (.inr ()))] [] M :=
  BX10_add C h
def wX10_add : f_Wt := f_wm [(3, 10, 15), (1, 0, 0), (2, 0, 0), (3, 2, 19), (1, 0, 0)] (fun ar M R => WX10_add (f_va (f_nth ar 0)) (f_vi (f_nth ar 1)) (f_vi (f_nth ar 2)) (f_va (f_nth ar 3)) (f_vi (f_nth ar 4)) M (fun r M => R (some (.inr (.inr (.inl (9, 14, r))))) M))
theorem TX10_add {sh : Nat → Nat × Nat} {t : Nat} : f_Mt sh t YX10_add 5 (wX10_add) :=
  f_Mt_of (k := 1) (Nat.le_of_ble_eq_true rfl) rfl rfl (fun ar M R rm cs h1 h2 h3 hX h => PX10_add ⟨Nat.le_of_ble_eq_true rfl, h1, h2, h3, ⟨(f_Mt.up (Nat.le_of_ble_eq_true rfl) TX10_isFull), (f_Mt.up (Nat.le_of_ble_eq_true rfl) TX9_begin), trivial⟩, hX⟩ h)
def VX0_make (c_X10_add : Nat → Int → Int → Nat → Int → e_M → (Nat → e_M → Prop) → Prop) (Q : Nat → e_M → Prop) (x1 : Int) (M : e_M) : Prop :=
  ((0 ≤ (0 : Int) ∧ (0 : Int) < 8) ∧ (c_X10_add ((M 4423 0).toNat) x1 (M ((M 4423 1).toNat + 1) ((0 : Int).toNat)) ((M 4423 1).toNat) (M 4423 2) M (fun r1 M2 => (∀ M3 : e_M, M3 = e_up M2 r1 4 (M2 ((M2 4423 1).toNat) 4) → (Q r1 M3)))))
def yX0_make (i : Nat) : e_Y := x_get YX0_make [YX10_add] i
def pX0_makef : List x_I := [(0, 4, 1, 0, 0, 0, []), (1, 25, 0, 0, 4, 0, [(0, 10, 15), (0, 0, 0)]), (4, 2, 1, 1, 0, 0, []), (5, 4, 1, 0, 0, 0, []), (6, 25, 0, 1, 4, 0, [(0, 2, 19), (0, 0, 0)]), (9, 25, 2, 5, 4, 0, [(0, 23, 8), (0, 1, 1)]), (12, 0, 1, 0, 0, 0, []), (13, 27, 0, 1, 0, 0, []), (14, 4, 1, 0, 0, 0, []), (15, 25, 0, 1, 4, 0, [(0, 2, 19), (0, 0, 0)]), (18, 4, 1, 0, 0, 0, []), (19, 25, 0, 2, 0, 0, []), (22, 40, 0, 5, 12, 0, []), (25, 7, 1, 2, 0, 0, []), (26, 4, 1, 2, 0, 0, []), (27, 4, 1, 0, 0, 0, []), (28, 25, 0, 1, 4, 0, [(0, 2, 19), (0, 0, 0)]), (31, 25, 2, 4, 0, 0, []), (34, 26, 9, 4, 0, 0, []), (37, 4, 1, 2, 0, 0, []), (38, 45, 0, 0, 0, 0, [])]
set_option maxRecDepth 20000 in
theorem qX0_makef : f_all yX0_make YX0_make pX0_makef :=
  ⟨f_aload_n (n := 0) (e_dx DX0_make_0 0 rfl) rfl,
  f_getA (e_dx DX0_make_0 1 rfl) fX0_36 rfl (by decide) (Nat.le_of_ble_eq_true rfl) rfl (by decide),
  f_iload_n (n := 1) (e_dx DX0_make_0 2 rfl) rfl,
  f_aload_n (n := 0) (e_dx DX0_make_0 3 rfl) rfl,
  f_getA (e_dx DX0_make_0 4 rfl) fX0_40 rfl (by decide) (Nat.le_of_ble_eq_true rfl) rfl (by decide),
  f_getA (e_dx DX0_make_0 5 rfl) fX0_129 rfl (by decide) (Nat.le_of_ble_eq_true rfl) rfl (by decide),
  f_iconst (e_dx DX0_make_0 6 rfl) ⟨by decide, by decide⟩,
  f_laload (e_dx DX0_make_0 7 rfl),
  f_aload_n (n := 0) (e_dx DX0_make_0 8 rfl) rfl,
  f_getA (e_dx DX0_make_0 9 rfl) fX0_40 rfl (by decide) (Nat.le_of_ble_eq_true rfl) rfl (by decide),
  f_aload_n (n := 0) (e_dx DX0_make_0 10 rfl) rfl,
  f_getf (e_dx DX0_make_0 11 rfl) fX0_9 rfl (by decide) (by decide) (by decide),
  x_callV (e_dx DX0_make_0 12 rfl) mwX10_add vwX10_add cX0_190 rfl,
  f_astore_n (n := 2) (e_dx DX0_make_0 13 rfl) rfl (by decide),
  f_aload_n (n := 2) (e_dx DX0_make_0 14 rfl) rfl,
  f_aload_n (n := 0) (e_dx DX0_make_0 15 rfl) rfl,
  f_getA (e_dx DX0_make_0 16 rfl) fX0_40 rfl (by decide) (Nat.le_of_ble_eq_true rfl) rfl (by decide),
  f_getf (e_dx DX0_make_0 17 rfl) fX0_44 rfl (by decide) (by decide) (by decide),
  f_putn (e_dx DX0_make_0 18 rfl) fX0_194 (fun q hq => by cases hq; rfl) rfl (Or.inl rfl) (by decide),
  f_aload_n (n := 2) (e_dx DX0_make_0 19 rfl) rfl,
  ⟨(e_dx DX0_make_0 20 rfl), _, rfl, Or.inl ⟨_, rfl⟩⟩, trivial⟩
def lX0_make (c_X10_add : Nat → Int → Int → Nat → Int → e_M → (Nat → e_M → Prop) → Prop) : List (Nat × f_Wt) := [(0, f_wm [(3, 10, 15), (1, 0, 0), (2, 0, 0), (3, 2, 19), (1, 0, 0)] (fun ar M R => c_X10_add (f_va (f_nth ar 0)) (f_vi (f_nth ar 1)) (f_vi (f_nth ar 2)) (f_va (f_nth ar 3)) (f_vi (f_nth ar 4)) M (fun r M => R (some (.inr (.inr (.inl (9, 14, r))))) M)))]
set_option maxRecDepth 20000 in
theorem BX0_make {sh : Nat → Nat × Nat} {t : Nat} {rm : Nat × Nat × Nat} {cs : Nat × Nat} {R : f_Rt} {c_X10_add : Nat → Int → Int → Nat → Int → e_M → (Nat → e_M → Prop) → Prop} {x1 : Int} {M : e_M} (C : f_Hy sh t yX0_make rm cs 6 (lX0_make c_X10_add) R) (h : VX0_make c_X10_add (fun r M => R (some (.inr (.inr (.inl (9, 14, r))))) M) x1 M) : f_E sh t YX0_make rm cs (f_Q sh t R) 0 [.inr (.inr (.inl (0, 7, 4423))), .inl x1, .inr (.inr (.inr ()))] [] M :=
  f_go (KC := f_kc []) C qX0_makef f_kc_nil 23 0 h
def WX0_make (x1 : Int) (M : e_M) (Q : Nat → e_M → Prop) : Prop :=
  VX0_make WX10_add Q x1 M
theorem PX0_make {sh : Nat → Nat × Nat} {t : Nat} {rm : Nat × Nat × Nat} {cs : Nat × Nat} {R : f_Rt} {x1 : Int} {M : e_M} (C : f_Hy sh t yX0_make rm cs 6 (lX0_make WX10_add) R) (h : WX0_make x1 M (fun r M => R (some (.inr (.inr (.inl (9, 14, r))))) M)) : f_E sh t YX0_make rm cs (f_Q sh t R) 0 [.inr (.inr (.inl (0, 7, 4423))), .inl x1, .inr (.inr (.inr ()))] [] M :=
  BX0_make C h
def wX0_make : f_Wt := f_wm [(4433, 0, 7), (1, 0, 0)] (fun ar M R => WX0_make (f_vi (f_nth ar 1)) M (fun r M => R (some (.inr (.inr (.inl (9, 14, r))))) M))
theorem TX0_make {sh : Nat → Nat × Nat} {t : Nat} : f_Mt sh t YX0_make 6 (wX0_make) :=
  f_Mt_of (k := 1) (Nat.le_of_ble_eq_true rfl) rfl rfl (fun ar M R rm cs h1 h2 h3 hX h => PX0_make ⟨Nat.le_of_ble_eq_true rfl, h1, h2, h3, ⟨(f_Mt.up (Nat.le_of_ble_eq_true rfl) TX10_add), trivial⟩, hX⟩ h)
def VX11_dateOf_114 (k135 : Int → Int → Int → Int → Prop) (Q : Int → Prop) (x2 : Int) (x4 : Int) (x7 : Int) (xs0 : Int) (M : e_M) : Prop :=
  ((3 ≤ xs0 → (k135 x7 xs0 0 (e_w32 (x4 + (e_w32 (x2 * 400)))))) ∧ (xs0 < 3 → (k135 x7 xs0 1 (e_w32 (x4 + (e_w32 (x2 * 400)))))))
def VX11_dateOf_135 (Q : Int → Prop) (x7 : Int) (x8 : Int) (xs1 : Int) (xs0 : Int) (M : e_M) : Prop :=
  (Q (e_w32 ((e_w32 ((e_w32 ((e_w32 (xs0 + xs1)) * 10000)) + (e_w32 (x8 * 100)))) + x7)))
def VX11_dateOf (k114 : Int → Int → Int → Int → Prop) (Q : Int → Prop) (x0 : Int) (M : e_M) : Prop :=
  (¬ (146097 : Int) = 0 ∧ (∀ y1 : Int, y1 = e_w32 ((e_w32 (x0 + 620853)).tdiv 146097) → (∀ y2 : Int, y2 = e_w32 ((e_w32 (x0 + 620853)) - (e_w32 (y1 * 146097))) → (¬ (1460 : Int) = 0 ∧ (¬ (36524 : Int) = 0 ∧ (¬ (146096 : Int) = 0 ∧ (¬ (365 : Int) = 0 ∧ (∀ y3 : Int, y3 = e_w32 ((e_w32 ((e_w32 ((e_w32 (y2 - (e_w32 (y2.tdiv 1460)))) + (e_w32 (y2.tdiv 36524)))) - (e_w32 (y2.tdiv 146096)))).tdiv 365) → (¬ (4 : Int) = 0 ∧ (¬ (100 : Int) = 0 ∧ (∀ y4 : Int, y4 = e_w32 (y2 - (e_w32 ((e_w32 ((e_w32 (y3 * 365)) + (e_w32 (y3.tdiv 4)))) - (e_w32 (y3.tdiv 100))))) → (¬ (153 : Int) = 0 ∧ (∀ y5 : Int, y5 = e_w32 ((e_w32 ((e_w32 ((5 : Int) * y4)) + 2)).tdiv 153) → (¬ (5 : Int) = 0 ∧ (∀ y6 : Int, y6 = e_w32 ((e_w32 (y4 - (e_w32 ((e_w32 ((e_w32 ((153 : Int) * y5)) + 2)).tdiv 5)))) + 1) → ((10 ≤ y5 → (k114 y1 y3 y6 (e_w32 (y5 - 9)))) ∧ (y5 < 10 → (k114 y1 y3 y6 (e_w32 (y5 + 3))))))))))))))))))))
def yX11_dateOf (i : Nat) : e_Y := x_get YX11_dateOf [] i
def pX11_dateOff : List x_I := [(0, 2, 1, 0, 0, 0, []), (1, 0, 3, 0, 0, 620853, []), (4, 9, 0, 0, 0, 0, []), (5, 5, 1, 1, 0, 0, []), (6, 2, 1, 1, 0, 0, []), (7, 0, 3, 0, 0, 146097, []), (10, 9, 0, 3, 0, 0, []), (11, 33, 0, 0, 0, 0, []), (11, 5, 1, 2, 0, 0, []), (12, 2, 1, 1, 0, 0, []), (13, 2, 1, 2, 0, 0, []), (14, 0, 3, 0, 0, 146097, []), (17, 9, 0, 2, 0, 0, []), (18, 9, 0, 1, 0, 0, []), (19, 33, 0, 0, 0, 0, []), (19, 5, 1, 3, 0, 0, []), (20, 2, 1, 3, 0, 0, []), (21, 2, 1, 3, 0, 0, []), (22, 0, 3, 0, 0, 1460, []), (25, 9, 0, 3, 0, 0, []), (26, 9, 0, 1, 0, 0, []), (27, 2, 1, 3, 0, 0, []), (28, 0, 3, 0, 0, 36524, []), (31, 9, 0, 3, 0, 0, []), (32, 9, 0, 0, 0, 0, []), (33, 2, 1, 3, 0, 0, []), (34, 0, 3, 0, 0, 146096, []), (37, 9, 0, 3, 0, 0, []), (38, 9, 0, 1, 0, 0, []), (39, 0, 3, 0, 0, 365, []), (42, 9, 0, 3, 0, 0, []), (43, 33, 0, 0, 0, 0, []), (43, 5, 2, 4, 0, 0, []), (45, 2, 1, 3, 0, 0, []), (46, 2, 2, 4, 0, 0, []), (48, 0, 3, 0, 0, 365, []), (51, 9, 0, 2, 0, 0, []), (52, 2, 2, 4, 0, 0, []), (54, 0, 1, 0, 0, 4, []), (55, 9, 0, 3, 0, 0, []), (56, 9, 0, 0, 0, 0, []), (57, 2, 2, 4, 0, 0, []), (59, 0, 2, 0, 0, 100, []), (61, 9, 0, 3, 0, 0, []), (62, 9, 0, 1, 0, 0, []), (63, 9, 0, 1, 0, 0, []), (64, 33, 0, 0, 0, 0, []), (64, 5, 2, 5, 0, 0, []), (66, 0, 1, 0, 0, 5, []), (67, 2, 2, 5, 0, 0, []), (69, 9, 0, 2, 0, 0, []), (70, 0, 1, 0, 0, 2, []), (71, 9, 0, 0, 0, 0, []), (72, 0, 3, 0, 0, 153, []), (75, 9, 0, 3, 0, 0, []), (76, 33, 0, 0, 0, 0, []), (76, 5, 2, 6, 0, 0, []), (78, 2, 2, 5, 0, 0, []), (80, 0, 3, 0, 0, 153, []), (83, 2, 2, 6, 0, 0, []), (85, 9, 0, 2, 0, 0, []), (86, 0, 1, 0, 0, 2, []), (87, 9, 0, 0, 0, 0, []), (88, 0, 1, 0, 0, 5, []), (89, 9, 0, 3, 0, 0, []), (90, 9, 0, 1, 0, 0, []), (91, 0, 1, 0, 0, 1, []), (92, 9, 0, 0, 0, 0, []), (93, 33, 0, 0, 0, 0, []), (93, 5, 2, 7, 0, 0, []), (95, 2, 2, 6, 0, 0, []), (97, 0, 2, 0, 0, 10, []), (99, 18, 109, 3, 78, 0, []), (102, 2, 2, 6, 0, 0, []), (104, 0, 1, 0, 0, 3, []), (105, 9, 0, 0, 0, 0, []), (106, 19, 114, 0, 81, 0, []), (109, 2, 2, 6, 0, 0, []), (111, 0, 2, 0, 0, 9, []), (113, 9, 0, 1, 0, 0, []), (114, 49, 0, 0, 0, 0, []), (114, 5, 2, 8, 0, 0, []), (116, 2, 2, 4, 0, 0, []), (118, 2, 1, 2, 0, 0, []), (119, 0, 3, 0, 0, 400, []), (122, 9, 0, 2, 0, 0, []), (123, 9, 0, 0, 0, 0, []), (124, 2, 2, 8, 0, 0, []), (126, 0, 1, 0, 0, 3, []), (127, 18, 134, 3, 93, 0, []), (130, 0, 1, 0, 0, 1, []), (131, 19, 135, 0, 94, 0, []), (134, 0, 1, 0, 0, 0, []), (135, 49, 0, 0, 0, 0, []), (135, 9, 0, 0, 0, 0, []), (136, 5, 2, 9, 0, 0, []), (138, 2, 2, 9, 0, 0, []), (140, 0, 3, 0, 0, 10000, []), (143, 9, 0, 2, 0, 0, []), (144, 2, 2, 8, 0, 0, []), (146, 0, 2, 0, 0, 100, []), (148, 9, 0, 2, 0, 0, []), (149, 9, 0, 0, 0, 0, []), (150, 2, 2, 7, 0, 0, []), (152, 9, 0, 0, 0, 0, []), (153, 41, 0, 0, 0, 0, [])]
set_option maxRecDepth 20000 in
theorem qX11_dateOff : f_all yX11_dateOf YX11_dateOf pX11_dateOff :=
  ⟨f_iload_n (n := 0) (e_dx DX11_dateOf_0 0 rfl) rfl,
  f_ldcw (e_dx DX11_dateOf_0 1 rfl) hX11_259 rfl ⟨by decide, by decide⟩,
  f_iadd (e_dx DX11_dateOf_0 2 rfl),
  f_istore_n (n := 1) (e_dx DX11_dateOf_0 3 rfl) rfl (by decide),
  f_iload_n (n := 1) (e_dx DX11_dateOf_0 4 rfl) rfl,
  f_ldcw (e_dx DX11_dateOf_0 5 rfl) hX11_263 rfl ⟨by decide, by decide⟩,
  f_idiv (e_dx DX11_dateOf_0 6 rfl),
  f_g33,
  f_istore_n (n := 2) (e_dx DX11_dateOf_0 7 rfl) rfl (by decide),
  f_iload_n (n := 1) (e_dx DX11_dateOf_0 8 rfl) rfl,
  f_iload_n (n := 2) (e_dx DX11_dateOf_0 9 rfl) rfl,
  f_ldcw (e_dx DX11_dateOf_0 10 rfl) hX11_263 rfl ⟨by decide, by decide⟩,
  f_imul (e_dx DX11_dateOf_0 11 rfl),
  f_isub (e_dx DX11_dateOf_0 12 rfl),
  f_g33,
  f_istore_n (n := 3) (e_dx DX11_dateOf_0 13 rfl) rfl (by decide),
  f_iload_n (n := 3) (e_dx DX11_dateOf_0 14 rfl) rfl,
  f_iload_n (n := 3) (e_dx DX11_dateOf_0 15 rfl) rfl,
  f_sipush (e_dx DX11_dateOf_0 16 rfl) ⟨by decide, by decide⟩,
  f_idiv (e_dx DX11_dateOf_0 17 rfl),
  f_isub (e_dx DX11_dateOf_0 18 rfl),
  f_iload_n (n := 3) (e_dx DX11_dateOf_0 19 rfl) rfl,
  f_ldcw (e_dx DX11_dateOf_0 20 rfl) hX11_264 rfl ⟨by decide, by decide⟩,
  f_idiv (e_dx DX11_dateOf_0 21 rfl),
  f_iadd (e_dx DX11_dateOf_0 22 rfl),
  f_iload_n (n := 3) (e_dx DX11_dateOf_0 23 rfl) rfl,
  f_ldcw (e_dx DX11_dateOf_0 24 rfl) hX11_265 rfl ⟨by decide, by decide⟩,
  f_idiv (e_dx DX11_dateOf_0 25 rfl),
  f_isub (e_dx DX11_dateOf_0 26 rfl),
  f_sipush (e_dx DX11_dateOf_0 27 rfl) ⟨by decide, by decide⟩,
  f_idiv (e_dx DX11_dateOf_0 28 rfl),
  f_g33,
  f_istore (e_dx DX11_dateOf_0 29 rfl) (by decide),
  f_iload_n (n := 3) (e_dx DX11_dateOf_0 30 rfl) rfl,
  f_iload (e_dx DX11_dateOf_0 31 rfl),
  f_sipush (e_dx DX11_dateOf_0 32 rfl) ⟨by decide, by decide⟩,
  f_imul (e_dx DX11_dateOf_0 33 rfl),
  f_iload (e_dx DX11_dateOf_0 34 rfl),
  f_iconst (e_dx DX11_dateOf_0 35 rfl) ⟨by decide, by decide⟩,
  f_idiv (e_dx DX11_dateOf_0 36 rfl),
  f_iadd (e_dx DX11_dateOf_0 37 rfl),
  f_iload (e_dx DX11_dateOf_0 38 rfl),
  f_bipush (e_dx DX11_dateOf_0 39 rfl) ⟨by decide, by decide⟩,
  f_idiv (e_dx DX11_dateOf_1 0 rfl),
  f_isub (e_dx DX11_dateOf_1 1 rfl),
  f_isub (e_dx DX11_dateOf_1 2 rfl),
  f_g33,
  f_istore (e_dx DX11_dateOf_1 3 rfl) (by decide),
  f_iconst (e_dx DX11_dateOf_1 4 rfl) ⟨by decide, by decide⟩,
  f_iload (e_dx DX11_dateOf_1 5 rfl),
  f_imul (e_dx DX11_dateOf_1 6 rfl),
  f_iconst (e_dx DX11_dateOf_1 7 rfl) ⟨by decide, by decide⟩,
  f_iadd (e_dx DX11_dateOf_1 8 rfl),
  f_sipush (e_dx DX11_dateOf_1 9 rfl) ⟨by decide, by decide⟩,
  f_idiv (e_dx DX11_dateOf_1 10 rfl),
  f_g33,
  f_istore (e_dx DX11_dateOf_1 11 rfl) (by decide),
  f_iload (e_dx DX11_dateOf_1 12 rfl),
  f_sipush (e_dx DX11_dateOf_1 13 rfl) ⟨by decide, by decide⟩,
  f_iload (e_dx DX11_dateOf_1 14 rfl),
  f_imul (e_dx DX11_dateOf_1 15 rfl),
  f_iconst (e_dx DX11_dateOf_1 16 rfl) ⟨by decide, by decide⟩,
  f_iadd (e_dx DX11_dateOf_1 17 rfl),
  f_iconst (e_dx DX11_dateOf_1 18 rfl) ⟨by decide, by decide⟩,
  f_idiv (e_dx DX11_dateOf_1 19 rfl),
  f_isub (e_dx DX11_dateOf_1 20 rfl),
  f_iconst (e_dx DX11_dateOf_1 21 rfl) ⟨by decide, by decide⟩,
  f_iadd (e_dx DX11_dateOf_1 22 rfl),
  f_g33,
  f_istore (e_dx DX11_dateOf_1 23 rfl) (by decide),
  f_iload (e_dx DX11_dateOf_1 24 rfl),
  f_bipush (e_dx DX11_dateOf_1 25 rfl) ⟨by decide, by decide⟩,
  f_icmp_ge (e_dx DX11_dateOf_1 26 rfl) rfl,
  f_iload (e_dx DX11_dateOf_1 27 rfl),
  f_iconst (e_dx DX11_dateOf_1 28 rfl) ⟨by decide, by decide⟩,
  f_iadd (e_dx DX11_dateOf_1 29 rfl),
  f_g19 (e_dx DX11_dateOf_1 30 rfl) rfl,
  f_iload (e_dx DX11_dateOf_1 31 rfl),
  f_bipush (e_dx DX11_dateOf_1 32 rfl) ⟨by decide, by decide⟩,
  f_isub (e_dx DX11_dateOf_1 33 rfl),
  trivial,
  f_istore (e_dx DX11_dateOf_1 34 rfl) (by decide),
  f_iload (e_dx DX11_dateOf_1 35 rfl),
  f_iload_n (n := 2) (e_dx DX11_dateOf_1 36 rfl) rfl,
  f_sipush (e_dx DX11_dateOf_1 37 rfl) ⟨by decide, by decide⟩,
  f_imul (e_dx DX11_dateOf_1 38 rfl),
  f_iadd (e_dx DX11_dateOf_1 39 rfl),
  f_iload (e_dx DX11_dateOf_2 0 rfl),
  f_iconst (e_dx DX11_dateOf_2 1 rfl) ⟨by decide, by decide⟩,
  f_icmp_ge (e_dx DX11_dateOf_2 2 rfl) rfl,
  f_iconst (e_dx DX11_dateOf_2 3 rfl) ⟨by decide, by decide⟩,
  f_g19 (e_dx DX11_dateOf_2 4 rfl) rfl,
  f_iconst (e_dx DX11_dateOf_2 5 rfl) ⟨by decide, by decide⟩,
  trivial,
  f_iadd (e_dx DX11_dateOf_2 6 rfl),
  f_istore (e_dx DX11_dateOf_2 7 rfl) (by decide),
  f_iload (e_dx DX11_dateOf_2 8 rfl),
  f_sipush (e_dx DX11_dateOf_2 9 rfl) ⟨by decide, by decide⟩,
  f_imul (e_dx DX11_dateOf_2 10 rfl),
  f_iload (e_dx DX11_dateOf_2 11 rfl),
  f_bipush (e_dx DX11_dateOf_2 12 rfl) ⟨by decide, by decide⟩,
  f_imul (e_dx DX11_dateOf_2 13 rfl),
  f_iadd (e_dx DX11_dateOf_2 14 rfl),
  f_iload (e_dx DX11_dateOf_2 15 rfl),
  f_iadd (e_dx DX11_dateOf_2 16 rfl),
  ⟨(e_dx DX11_dateOf_2 17 rfl), rfl⟩, trivial⟩
def lX11_dateOf : List (Nat × f_Wt) := []
set_option maxRecDepth 20000 in
theorem BX11_dateOf_114 {sh : Nat → Nat × Nat} {t : Nat} {rm : Nat × Nat × Nat} {cs : Nat × Nat} {R : f_Rt} {k135 : Int → Int → Int → Int → Prop} {x2 : Int} {x4 : Int} {x7 : Int} {xs0 : Int} {M : e_M} (C : f_Hy sh t yX11_dateOf rm cs 4 (lX11_dateOf) R) (h135 : ∀ (x7 : Int) (x8 : Int) (xs1 : Int) (xs0 : Int), k135 x7 x8 xs1 xs0 → f_E sh t YX11_dateOf rm cs (f_Q sh t R) 135 [.inr (.inr (.inr ())), .inr (.inr (.inr ())), .inr (.inr (.inr ())), .inr (.inr (.inr ())), .inr (.inr (.inr ())), .inr (.inr (.inr ())), .inr (.inr (.inr ())), .inl x7, .inl x8, .inr (.inr (.inr ()))] [.inl xs1, .inl xs0] M) (h : VX11_dateOf_114 k135 (fun r => R (some (.inl r)) M) x2 x4 x7 xs0 M) : f_E sh t YX11_dateOf rm cs (f_Q sh t R) 114 [.inr (.inr (.inr ())), .inr (.inr (.inr ())), .inl x2, .inr (.inr (.inr ())), .inl x4, .inr (.inr (.inr ())), .inr (.inr (.inr ())), .inl x7, .inr (.inr (.inr ())), .inr (.inr (.inr ()))] [.inl xs0] M := by
  rw [f_kk4 M k135] at h
  exact f_go (KC := f_kc [(135, f_pl [(0, 0, 0), (0, 0, 0), (0, 0, 0), (0, 0, 0), (0, 0, 0), (0, 0, 0), (0, 0, 0), (1, 0, 0), (1, 0, 0), (0, 0, 0)] [(1, 0, 0), (1, 0, 0)] (fun ls st M2 => M2 = M ∧ (k135 (f_vi (f_nth ls 7)) (f_vi (f_nth ls 8)) (f_vi (f_nth st 0)) (f_vi (f_nth st 1)))))]) C qX11_dateOff (f_kc_cons (f_pl_ok rfl (fun ls st M2 ⟨e, hh⟩ => by subst e; exact h135 _ _ _ _ hh)) f_kc_nil) 108 81 h
set_option maxRecDepth 20000 in
theorem BX11_dateOf_135 {sh : Nat → Nat × Nat} {t : Nat} {rm : Nat × Nat × Nat} {cs : Nat × Nat} {R : f_Rt} {x7 : Int} {x8 : Int} {xs1 : Int} {xs0 : Int} {M : e_M} (C : f_Hy sh t yX11_dateOf rm cs 4 (lX11_dateOf) R) (h : VX11_dateOf_135 (fun r => R (some (.inl r)) M) x7 x8 xs1 xs0 M) : f_E sh t YX11_dateOf rm cs (f_Q sh t R) 135 [.inr (.inr (.inr ())), .inr (.inr (.inr ())), .inr (.inr (.inr ())), .inr (.inr (.inr ())), .inr (.inr (.inr ())), .inr (.inr (.inr ())), .inr (.inr (.inr ())), .inl x7, .inl x8, .inr (.inr (.inr ()))] [.inl xs1, .inl xs0] M :=
  f_go (KC := f_kc []) C qX11_dateOff f_kc_nil 108 94 h
set_option maxRecDepth 20000 in
theorem BX11_dateOf {sh : Nat → Nat × Nat} {t : Nat} {rm : Nat × Nat × Nat} {cs : Nat × Nat} {R : f_Rt} {k114 : Int → Int → Int → Int → Prop} {x0 : Int} {M : e_M} (C : f_Hy sh t yX11_dateOf rm cs 4 (lX11_dateOf) R) (h114 : ∀ (x2 : Int) (x4 : Int) (x7 : Int) (xs0 : Int), k114 x2 x4 x7 xs0 → f_E sh t YX11_dateOf rm cs (f_Q sh t R) 114 [.inr (.inr (.inr ())), .inr (.inr (.inr ())), .inl x2, .inr (.inr (.inr ())), .inl x4, .inr (.inr (.inr ())), .inr (.inr (.inr ())), .inl x7, .inr (.inr (.inr ())), .inr (.inr (.inr ()))] [.inl xs0] M) (h : VX11_dateOf k114 (fun r => R (some (.inl r)) M) x0 M) : f_E sh t YX11_dateOf rm cs (f_Q sh t R) 0 [.inl x0, .inr (.inr (.inr ())), .inr (.inr (.inr ())), .inr (.inr (.inr ())), .inr (.inr (.inr ())), .inr (.inr (.inr ())), .inr (.inr (.inr ())), .inr (.inr (.inr ())), .inr (.inr (.inr ())), .inr (.inr (.inr ()))] [] M := by
  rw [f_kk4 M k114] at h
  exact f_go (KC := f_kc [(114, f_pl [(0, 0, 0), (0, 0, 0), (1, 0, 0), (0, 0, 0), (1, 0, 0), (0, 0, 0), (0, 0, 0), (1, 0, 0), (0, 0, 0), (0, 0, 0)] [(1, 0, 0)] (fun ls st M2 => M2 = M ∧ (k114 (f_vi (f_nth ls 2)) (f_vi (f_nth ls 4)) (f_vi (f_nth ls 7)) (f_vi (f_nth st 0)))))]) C qX11_dateOff (f_kc_cons (f_pl_ok rfl (fun ls st M2 ⟨e, hh⟩ => by subst e; exact h114 _ _ _ _ hh)) f_kc_nil) 108 0 h
def WX11_dateOf_135 (M : e_M) (Q : Int → Prop) (x7 : Int) (x8 : Int) (xs1 : Int) (xs0 : Int) : Prop :=
  VX11_dateOf_135 Q x7 x8 xs1 xs0 M
def WX11_dateOf_114 (M : e_M) (Q : Int → Prop) (x2 : Int) (x4 : Int) (x7 : Int) (xs0 : Int) : Prop :=
  VX11_dateOf_114 (WX11_dateOf_135 M Q) Q x2 x4 x7 xs0 M
def WX11_dateOf (x0 : Int) (M : e_M) (Q : Int → Prop) : Prop :=
  VX11_dateOf (WX11_dateOf_114 M Q) Q x0 M
theorem PX11_dateOf_135 {sh : Nat → Nat × Nat} {t : Nat} {rm : Nat × Nat × Nat} {cs : Nat × Nat} {R : f_Rt} {x7 : Int} {x8 : Int} {xs1 : Int} {xs0 : Int} {M : e_M} (C : f_Hy sh t yX11_dateOf rm cs 4 (lX11_dateOf) R) (h : WX11_dateOf_135 M (fun r => R (some (.inl r)) M) x7 x8 xs1 xs0) : f_E sh t YX11_dateOf rm cs (f_Q sh t R) 135 [.inr (.inr (.inr ())), .inr (.inr (.inr ())), .inr (.inr (.inr ())), .inr (.inr (.inr ())), .inr (.inr (.inr ())), .inr (.inr (.inr ())), .inr (.inr (.inr ())), .inl x7, .inl x8, .inr (.inr (.inr ()))] [.inl xs1, .inl xs0] M :=
  BX11_dateOf_135 C h
theorem PX11_dateOf_114 {sh : Nat → Nat × Nat} {t : Nat} {rm : Nat × Nat × Nat} {cs : Nat × Nat} {R : f_Rt} {x2 : Int} {x4 : Int} {x7 : Int} {xs0 : Int} {M : e_M} (C : f_Hy sh t yX11_dateOf rm cs 4 (lX11_dateOf) R) (h : WX11_dateOf_114 M (fun r => R (some (.inl r)) M) x2 x4 x7 xs0) : f_E sh t YX11_dateOf rm cs (f_Q sh t R) 114 [.inr (.inr (.inr ())), .inr (.inr (.inr ())), .inl x2, .inr (.inr (.inr ())), .inl x4, .inr (.inr (.inr ())), .inr (.inr (.inr ())), .inl x7, .inr (.inr (.inr ())), .inr (.inr (.inr ()))] [.inl xs0] M :=
  BX11_dateOf_114 C (fun x7 x8 xs1 xs0 h => PX11_dateOf_135 C h) h
theorem PX11_dateOf {sh : Nat → Nat × Nat} {t : Nat} {rm : Nat × Nat × Nat} {cs : Nat × Nat} {R : f_Rt} {x0 : Int} {M : e_M} (C : f_Hy sh t yX11_dateOf rm cs 4 (lX11_dateOf) R) (h : WX11_dateOf x0 M (fun r => R (some (.inl r)) M)) : f_E sh t YX11_dateOf rm cs (f_Q sh t R) 0 [.inl x0, .inr (.inr (.inr ())), .inr (.inr (.inr ())), .inr (.inr (.inr ())), .inr (.inr (.inr ())), .inr (.inr (.inr ())), .inr (.inr (.inr ())), .inr (.inr (.inr ())), .inr (.inr (.inr ())), .inr (.inr (.inr ()))] [] M :=
  BX11_dateOf C (fun x2 x4 x7 xs0 h => PX11_dateOf_114 C h) h
def wX11_dateOf : f_Wt := f_wm [(1, 0, 0)] (fun ar M R => WX11_dateOf (f_vi (f_nth ar 0)) M (fun r => R (some (.inl r)) M))
theorem TX11_dateOf {sh : Nat → Nat × Nat} {t : Nat} : f_Mt sh t YX11_dateOf 4 (wX11_dateOf) :=
  f_Mt_of (k := 9) (Nat.le_of_ble_eq_true rfl) rfl rfl (fun ar M R rm cs h1 h2 h3 hX h => PX11_dateOf ⟨Nat.le_of_ble_eq_true rfl, h1, h2, h3, trivial, hX⟩ h)
def VX11_dayOf_44 (c_X11_dateOf : Int → e_M → (Int → Prop) → Prop) (k60 : Int → Int → Int → Int → Int → Prop) (Q : Int → Prop) (x0 : Int) (x1 : Int) (x2 : Int) (xs0 : Int) (M : e_M) : Prop :=
  ((3 ≤ x1 → (k60 x0 x1 x2 xs0 (e_w32 (x1 - 3)))) ∧ (x1 < 3 → (k60 x0 x1 x2 xs0 (e_w32 (x1 + 9)))))
def VX11_dayOf_60 (c_X11_dateOf : Int → e_M → (Int → Prop) → Prop) (Q : Int → Prop) (x0 : Int) (x1 : Int) (x2 : Int) (x3 : Int) (xs0 : Int) (M : e_M) : Prop :=
  (¬ (4 : Int) = 0 ∧ (¬ (100 : Int) = 0 ∧ (¬ (400 : Int) = 0 ∧ (¬ (5 : Int) = 0 ∧ (∀ y1 : Int, y1 = e_w32 ((e_w32 ((e_w32 ((e_w32 ((e_w32 ((e_w32 ((e_w32 ((e_w32 (x3 * 365)) + (e_w32 (x3.tdiv 4)))) - (e_w32 (x3.tdiv 100)))) + (e_w32 (x3.tdiv 400)))) + (e_w32 ((e_w32 ((e_w32 ((153 : Int) * xs0)) + 2)).tdiv 5)))) + x2)) - 1)) - 620853) → (c_X11_dateOf y1 M (fun r2 => ((¬ r2 = (e_w32 ((e_w32 ((e_w32 (x0 * 10000)) + (e_w32 (x1 * 100)))) + x2)) → (Q (-1))) ∧ (r2 = (e_w32 ((e_w32 ((e_w32 (x0 * 10000)) + (e_w32 (x1 * 100)))) + x2)) → (Q y1))))))))))
def VX11_dayOf (c_X11_dateOf : Int → e_M → (Int → Prop) → Prop) (k44 : Int → Int → Int → Int → Prop) (Q : Int → Prop) (x0 : Int) (x1 : Int) (x2 : Int) (M : e_M) : Prop :=
  ((x0 < 1700 → (Q (-1))) ∧ (1700 ≤ x0 → ((2299 < x0 → (Q (-1))) ∧ (x0 ≤ 2299 → ((x1 < 1 → (Q (-1))) ∧ (1 ≤ x1 → ((12 < x1 → (Q (-1))) ∧ (x1 ≤ 12 → ((1 ≤ x2 → ((3 ≤ x1 → (k44 x0 x1 x2 x0)) ∧ (x1 < 3 → (k44 x0 x1 x2 (e_w32 (x0 - 1)))))) ∧ (x2 < 1 → (Q (-1))))))))))))
def yX11_dayOf (i : Nat) : e_Y := x_get YX11_dayOf [YX11_dateOf] i
def pX11_dayOff : List x_I := [(0, 2, 1, 0, 0, 0, []), (1, 0, 3, 0, 0, 1700, []), (4, 18, 30, 2, 16, 0, []), (7, 2, 1, 0, 0, 0, []), (8, 0, 3, 0, 0, 2299, []), (11, 18, 30, 4, 16, 0, []), (14, 2, 1, 1, 0, 0, []), (15, 0, 1, 0, 0, 1, []), (16, 18, 30, 2, 16, 0, []), (19, 2, 1, 1, 0, 0, []), (20, 0, 2, 0, 0, 12, []), (22, 18, 30, 4, 16, 0, []), (25, 2, 1, 2, 0, 0, []), (26, 0, 1, 0, 0, 1, []), (27, 18, 32, 3, 18, 0, []), (30, 0, 1, 0, 0, (-1), []), (31, 41, 0, 0, 0, 0, []), (32, 2, 1, 1, 0, 0, []), (33, 0, 1, 0, 0, 3, []), (34, 18, 43, 3, 25, 0, []), (37, 2, 1, 0, 0, 0, []), (38, 0, 1, 0, 0, 1, []), (39, 9, 0, 1, 0, 0, []), (40, 19, 44, 0, 26, 0, []), (43, 2, 1, 0, 0, 0, []), (44, 49, 0, 0, 0, 0, []), (44, 5, 1, 3, 0, 0, []), (45, 2, 1, 1, 0, 0, []), (46, 0, 1, 0, 0, 3, []), (47, 18, 57, 3, 35, 0, []), (50, 2, 1, 1, 0, 0, []), (51, 0, 2, 0, 0, 9, []), (53, 9, 0, 0, 0, 0, []), (54, 19, 60, 0, 38, 0, []), (57, 2, 1, 1, 0, 0, []), (58, 0, 1, 0, 0, 3, []), (59, 9, 0, 1, 0, 0, []), (60, 49, 0, 0, 0, 0, []), (60, 5, 2, 4, 0, 0, []), (62, 2, 1, 3, 0, 0, []), (63, 0, 3, 0, 0, 365, []), (66, 9, 0, 2, 0, 0, []), (67, 2, 1, 3, 0, 0, []), (68, 0, 1, 0, 0, 4, []), (69, 9, 0, 3, 0, 0, []), (70, 9, 0, 0, 0, 0, []), (71, 2, 1, 3, 0, 0, []), (72, 0, 2, 0, 0, 100, []), (74, 9, 0, 3, 0, 0, []), (75, 9, 0, 1, 0, 0, []), (76, 2, 1, 3, 0, 0, []), (77, 0, 3, 0, 0, 400, []), (80, 9, 0, 3, 0, 0, []), (81, 9, 0, 0, 0, 0, []), (82, 0, 3, 0, 0, 153, []), (85, 2, 2, 4, 0, 0, []), (87, 9, 0, 2, 0, 0, []), (88, 0, 1, 0, 0, 2, []), (89, 9, 0, 0, 0, 0, []), (90, 0, 1, 0, 0, 5, []), (91, 9, 0, 3, 0, 0, []), (92, 9, 0, 0, 0, 0, []), (93, 2, 1, 2, 0, 0, []), (94, 9, 0, 0, 0, 0, []), (95, 0, 1, 0, 0, 1, []), (96, 9, 0, 1, 0, 0, []), (97, 0, 3, 0, 0, 620853, []), (100, 9, 0, 1, 0, 0, []), (101, 33, 0, 0, 0, 0, []), (101, 5, 2, 5, 0, 0, []), (103, 2, 2, 5, 0, 0, []), (105, 40, 0, 1, 0, 0, []), (108, 2, 1, 0, 0, 0, []), (109, 0, 3, 0, 0, 10000, []), (112, 9, 0, 2, 0, 0, []), (113, 2, 1, 1, 0, 0, []), (114, 0, 2, 0, 0, 100, []), (116, 9, 0, 2, 0, 0, []), (117, 9, 0, 0, 0, 0, []), (118, 2, 1, 2, 0, 0, []), (119, 9, 0, 0, 0, 0, []), (120, 18, 128, 1, 85, 0, []), (123, 2, 2, 5, 0, 0, []), (125, 19, 129, 0, 86, 0, []), (128, 0, 1, 0, 0, (-1), []), (129, 41, 0, 0, 0, 0, [])]
set_option maxRecDepth 20000 in
theorem qX11_dayOff : f_all yX11_dayOf YX11_dayOf pX11_dayOff :=
  ⟨f_iload_n (n := 0) (e_dx DX11_dayOf_0 0 rfl) rfl,
  f_sipush (e_dx DX11_dayOf_0 1 rfl) ⟨by decide, by decide⟩,
  f_icmp_lt (e_dx DX11_dayOf_0 2 rfl) rfl,
  f_iload_n (n := 0) (e_dx DX11_dayOf_0 3 rfl) rfl,
  f_sipush (e_dx DX11_dayOf_0 4 rfl) ⟨by decide, by decide⟩,
  f_icmp_gt (e_dx DX11_dayOf_0 5 rfl) rfl,
  f_iload_n (n := 1) (e_dx DX11_dayOf_0 6 rfl) rfl,
  f_iconst (e_dx DX11_dayOf_0 7 rfl) ⟨by decide, by decide⟩,
  f_icmp_lt (e_dx DX11_dayOf_0 8 rfl) rfl,
  f_iload_n (n := 1) (e_dx DX11_dayOf_0 9 rfl) rfl,
  f_bipush (e_dx DX11_dayOf_0 10 rfl) ⟨by decide, by decide⟩,
  f_icmp_gt (e_dx DX11_dayOf_0 11 rfl) rfl,
  f_iload_n (n := 2) (e_dx DX11_dayOf_0 12 rfl) rfl,
  f_iconst (e_dx DX11_dayOf_0 13 rfl) ⟨by decide, by decide⟩,
  f_icmp_ge (e_dx DX11_dayOf_0 14 rfl) rfl,
  f_iconst (e_dx DX11_dayOf_0 15 rfl) ⟨by decide, by decide⟩,
  ⟨(e_dx DX11_dayOf_0 16 rfl), rfl⟩,
  f_iload_n (n := 1) (e_dx DX11_dayOf_0 17 rfl) rfl,
  f_iconst (e_dx DX11_dayOf_0 18 rfl) ⟨by decide, by decide⟩,
  f_icmp_ge (e_dx DX11_dayOf_0 19 rfl) rfl,
  f_iload_n (n := 0) (e_dx DX11_dayOf_0 20 rfl) rfl,
  f_iconst (e_dx DX11_dayOf_0 21 rfl) ⟨by decide, by decide⟩,
  f_isub (e_dx DX11_dayOf_0 22 rfl),
  f_g19 (e_dx DX11_dayOf_0 23 rfl) rfl,
  f_iload_n (n := 0) (e_dx DX11_dayOf_0 24 rfl) rfl,
  trivial,
  f_istore_n (n := 3) (e_dx DX11_dayOf_0 25 rfl) rfl (by decide),
  f_iload_n (n := 1) (e_dx DX11_dayOf_0 26 rfl) rfl,
  f_iconst (e_dx DX11_dayOf_0 27 rfl) ⟨by decide, by decide⟩,
  f_icmp_ge (e_dx DX11_dayOf_0 28 rfl) rfl,
  f_iload_n (n := 1) (e_dx DX11_dayOf_0 29 rfl) rfl,
  f_bipush (e_dx DX11_dayOf_0 30 rfl) ⟨by decide, by decide⟩,
  f_iadd (e_dx DX11_dayOf_0 31 rfl),
  f_g19 (e_dx DX11_dayOf_0 32 rfl) rfl,
  f_iload_n (n := 1) (e_dx DX11_dayOf_0 33 rfl) rfl,
  f_iconst (e_dx DX11_dayOf_0 34 rfl) ⟨by decide, by decide⟩,
  f_isub (e_dx DX11_dayOf_0 35 rfl),
  trivial,
  f_istore (e_dx DX11_dayOf_0 36 rfl) (by decide),
  f_iload_n (n := 3) (e_dx DX11_dayOf_0 37 rfl) rfl,
  f_sipush (e_dx DX11_dayOf_0 38 rfl) ⟨by decide, by decide⟩,
  f_imul (e_dx DX11_dayOf_0 39 rfl),
  f_iload_n (n := 3) (e_dx DX11_dayOf_1 0 rfl) rfl,
  f_iconst (e_dx DX11_dayOf_1 1 rfl) ⟨by decide, by decide⟩,
  f_idiv (e_dx DX11_dayOf_1 2 rfl),
  f_iadd (e_dx DX11_dayOf_1 3 rfl),
  f_iload_n (n := 3) (e_dx DX11_dayOf_1 4 rfl) rfl,
  f_bipush (e_dx DX11_dayOf_1 5 rfl) ⟨by decide, by decide⟩,
  f_idiv (e_dx DX11_dayOf_1 6 rfl),
  f_isub (e_dx DX11_dayOf_1 7 rfl),
  f_iload_n (n := 3) (e_dx DX11_dayOf_1 8 rfl) rfl,
  f_sipush (e_dx DX11_dayOf_1 9 rfl) ⟨by decide, by decide⟩,
  f_idiv (e_dx DX11_dayOf_1 10 rfl),
  f_iadd (e_dx DX11_dayOf_1 11 rfl),
  f_sipush (e_dx DX11_dayOf_1 12 rfl) ⟨by decide, by decide⟩,
  f_iload (e_dx DX11_dayOf_1 13 rfl),
  f_imul (e_dx DX11_dayOf_1 14 rfl),
  f_iconst (e_dx DX11_dayOf_1 15 rfl) ⟨by decide, by decide⟩,
  f_iadd (e_dx DX11_dayOf_1 16 rfl),
  f_iconst (e_dx DX11_dayOf_1 17 rfl) ⟨by decide, by decide⟩,
  f_idiv (e_dx DX11_dayOf_1 18 rfl),
  f_iadd (e_dx DX11_dayOf_1 19 rfl),
  f_iload_n (n := 2) (e_dx DX11_dayOf_1 20 rfl) rfl,
  f_iadd (e_dx DX11_dayOf_1 21 rfl),
  f_iconst (e_dx DX11_dayOf_1 22 rfl) ⟨by decide, by decide⟩,
  f_isub (e_dx DX11_dayOf_1 23 rfl),
  f_ldcw (e_dx DX11_dayOf_1 24 rfl) hX11_259 rfl ⟨by decide, by decide⟩,
  f_isub (e_dx DX11_dayOf_1 25 rfl),
  f_g33,
  f_istore (e_dx DX11_dayOf_1 26 rfl) (by decide),
  f_iload (e_dx DX11_dayOf_1 27 rfl),
  x_callS (e_dx DX11_dayOf_1 28 rfl) mwX11_dateOf cX11_260 swX11_dateOf rfl,
  f_iload_n (n := 0) (e_dx DX11_dayOf_1 29 rfl) rfl,
  f_sipush (e_dx DX11_dayOf_1 30 rfl) ⟨by decide, by decide⟩,
  f_imul (e_dx DX11_dayOf_1 31 rfl),
  f_iload_n (n := 1) (e_dx DX11_dayOf_1 32 rfl) rfl,
  f_bipush (e_dx DX11_dayOf_1 33 rfl) ⟨by decide, by decide⟩,
  f_imul (e_dx DX11_dayOf_1 34 rfl),
  f_iadd (e_dx DX11_dayOf_1 35 rfl),
  f_iload_n (n := 2) (e_dx DX11_dayOf_1 36 rfl) rfl,
  f_iadd (e_dx DX11_dayOf_1 37 rfl),
  f_icmp_ne (e_dx DX11_dayOf_1 38 rfl) rfl,
  f_iload (e_dx DX11_dayOf_1 39 rfl),
  f_g19 (e_dx DX11_dayOf_2 0 rfl) rfl,
  f_iconst (e_dx DX11_dayOf_2 1 rfl) ⟨by decide, by decide⟩,
  ⟨(e_dx DX11_dayOf_2 2 rfl), rfl⟩, trivial⟩
def lX11_dayOf (c_X11_dateOf : Int → e_M → (Int → Prop) → Prop) : List (Nat × f_Wt) := [(0, f_wm [(1, 0, 0)] (fun ar M R => c_X11_dateOf (f_vi (f_nth ar 0)) M (fun r => R (some (.inl r)) M)))]
set_option maxRecDepth 20000 in
theorem BX11_dayOf_44 {sh : Nat → Nat × Nat} {t : Nat} {rm : Nat × Nat × Nat} {cs : Nat × Nat} {R : f_Rt} {c_X11_dateOf : Int → e_M → (Int → Prop) → Prop} {k60 : Int → Int → Int → Int → Int → Prop} {x0 : Int} {x1 : Int} {x2 : Int} {xs0 : Int} {M : e_M} (C : f_Hy sh t yX11_dayOf rm cs 5 (lX11_dayOf c_X11_dateOf) R) (h60 : ∀ (x0 : Int) (x1 : Int) (x2 : Int) (x3 : Int) (xs0 : Int), k60 x0 x1 x2 x3 xs0 → f_E sh t YX11_dayOf rm cs (f_Q sh t R) 60 [.inl x0, .inl x1, .inl x2, .inl x3, .inr (.inr (.inr ())), .inr (.inr (.inr ()))] [.inl xs0] M) (h : VX11_dayOf_44 c_X11_dateOf k60 (fun r => R (some (.inl r)) M) x0 x1 x2 xs0 M) : f_E sh t YX11_dayOf rm cs (f_Q sh t R) 44 [.inl x0, .inl x1, .inl x2, .inr (.inr (.inr ())), .inr (.inr (.inr ())), .inr (.inr (.inr ()))] [.inl xs0] M := by
  rw [f_kk5 M k60] at h
  exact f_go (KC := f_kc [(60, f_pl [(1, 0, 0), (1, 0, 0), (1, 0, 0), (1, 0, 0), (0, 0, 0), (0, 0, 0)] [(1, 0, 0)] (fun ls st M2 => M2 = M ∧ (k60 (f_vi (f_nth ls 0)) (f_vi (f_nth ls 1)) (f_vi (f_nth ls 2)) (f_vi (f_nth ls 3)) (f_vi (f_nth st 0)))))]) C qX11_dayOff (f_kc_cons (f_pl_ok rfl (fun ls st M2 ⟨e, hh⟩ => by subst e; exact h60 _ _ _ _ _ hh)) f_kc_nil) 88 26 h
set_option maxRecDepth 20000 in
theorem BX11_dayOf_60 {sh : Nat → Nat × Nat} {t : Nat} {rm : Nat × Nat × Nat} {cs : Nat × Nat} {R : f_Rt} {c_X11_dateOf : Int → e_M → (Int → Prop) → Prop} {x0 : Int} {x1 : Int} {x2 : Int} {x3 : Int} {xs0 : Int} {M : e_M} (C : f_Hy sh t yX11_dayOf rm cs 5 (lX11_dayOf c_X11_dateOf) R) (h : VX11_dayOf_60 c_X11_dateOf (fun r => R (some (.inl r)) M) x0 x1 x2 x3 xs0 M) : f_E sh t YX11_dayOf rm cs (f_Q sh t R) 60 [.inl x0, .inl x1, .inl x2, .inl x3, .inr (.inr (.inr ())), .inr (.inr (.inr ()))] [.inl xs0] M :=
  f_go (KC := f_kc []) C qX11_dayOff f_kc_nil 88 38 h
set_option maxRecDepth 20000 in
theorem BX11_dayOf {sh : Nat → Nat × Nat} {t : Nat} {rm : Nat × Nat × Nat} {cs : Nat × Nat} {R : f_Rt} {c_X11_dateOf : Int → e_M → (Int → Prop) → Prop} {k44 : Int → Int → Int → Int → Prop} {x0 : Int} {x1 : Int} {x2 : Int} {M : e_M} (C : f_Hy sh t yX11_dayOf rm cs 5 (lX11_dayOf c_X11_dateOf) R) (h44 : ∀ (x0 : Int) (x1 : Int) (x2 : Int) (xs0 : Int), k44 x0 x1 x2 xs0 → f_E sh t YX11_dayOf rm cs (f_Q sh t R) 44 [.inl x0, .inl x1, .inl x2, .inr (.inr (.inr ())), .inr (.inr (.inr ())), .inr (.inr (.inr ()))] [.inl xs0] M) (h : VX11_dayOf c_X11_dateOf k44 (fun r => R (some (.inl r)) M) x0 x1 x2 M) : f_E sh t YX11_dayOf rm cs (f_Q sh t R) 0 [.inl x0, .inl x1, .inl x2, .inr (.inr (.inr ())), .inr (.inr (.inr ())), .inr (.inr (.inr ()))] [] M := by
  rw [f_kk4 M k44] at h
  exact f_go (KC := f_kc [(44, f_pl [(1, 0, 0), (1, 0, 0), (1, 0, 0), (0, 0, 0), (0, 0, 0), (0, 0, 0)] [(1, 0, 0)] (fun ls st M2 => M2 = M ∧ (k44 (f_vi (f_nth ls 0)) (f_vi (f_nth ls 1)) (f_vi (f_nth ls 2)) (f_vi (f_nth st 0)))))]) C qX11_dayOff (f_kc_cons (f_pl_ok rfl (fun ls st M2 ⟨e, hh⟩ => by subst e; exact h44 _ _ _ _ hh)) f_kc_nil) 88 0 h
def WX11_dayOf_60 (M : e_M) (Q : Int → Prop) (x0 : Int) (x1 : Int) (x2 : Int) (x3 : Int) (xs0 : Int) : Prop :=
  VX11_dayOf_60 WX11_dateOf Q x0 x1 x2 x3 xs0 M
def WX11_dayOf_44 (M : e_M) (Q : Int → Prop) (x0 : Int) (x1 : Int) (x2 : Int) (xs0 : Int) : Prop :=
  VX11_dayOf_44 WX11_dateOf (WX11_dayOf_60 M Q) Q x0 x1 x2 xs0 M
def WX11_dayOf (x0 : Int) (x1 : Int) (x2 : Int) (M : e_M) (Q : Int → Prop) : Prop :=
  VX11_dayOf WX11_dateOf (WX11_dayOf_44 M Q) Q x0 x1 x2 M
theorem PX11_dayOf_60 {sh : Nat → Nat × Nat} {t : Nat} {rm : Nat × Nat × Nat} {cs : Nat × Nat} {R : f_Rt} {x0 : Int} {x1 : Int} {x2 : Int} {x3 : Int} {xs0 : Int} {M : e_M} (C : f_Hy sh t yX11_dayOf rm cs 5 (lX11_dayOf WX11_dateOf) R) (h : WX11_dayOf_60 M (fun r => R (some (.inl r)) M) x0 x1 x2 x3 xs0) : f_E sh t YX11_dayOf rm cs (f_Q sh t R) 60 [.inl x0, .inl x1, .inl x2, .inl x3, .inr (.inr (.inr ())), .inr (.inr (.inr ()))] [.inl xs0] M :=
  BX11_dayOf_60 C h
theorem PX11_dayOf_44 {sh : Nat → Nat × Nat} {t : Nat} {rm : Nat × Nat × Nat} {cs : Nat × Nat} {R : f_Rt} {x0 : Int} {x1 : Int} {x2 : Int} {xs0 : Int} {M : e_M} (C : f_Hy sh t yX11_dayOf rm cs 5 (lX11_dayOf WX11_dateOf) R) (h : WX11_dayOf_44 M (fun r => R (some (.inl r)) M) x0 x1 x2 xs0) : f_E sh t YX11_dayOf rm cs (f_Q sh t R) 44 [.inl x0, .inl x1, .inl x2, .inr (.inr (.inr ())), .inr (.inr (.inr ())), .inr (.inr (.inr ()))] [.inl xs0] M :=
  BX11_dayOf_44 C (fun x0 x1 x2 x3 xs0 h => PX11_dayOf_60 C h) h
theorem PX11_dayOf {sh : Nat → Nat × Nat} {t : Nat} {rm : Nat × Nat × Nat} {cs : Nat × Nat} {R : f_Rt} {x0 : Int} {x1 : Int} {x2 : Int} {M : e_M} (C : f_Hy sh t yX11_dayOf rm cs 5 (lX11_dayOf WX11_dateOf) R) (h : WX11_dayOf x0 x1 x2 M (fun r => R (some (.inl r)) M)) : f_E sh t YX11_dayOf rm cs (f_Q sh t R) 0 [.inl x0, .inl x1, .inl x2, .inr (.inr (.inr ())), .inr (.inr (.inr ())), .inr (.inr (.inr ()))] [] M :=
  BX11_dayOf C (fun x0 x1 x2 xs0 h => PX11_dayOf_44 C h) h
def wX11_dayOf : f_Wt := f_wm [(1, 0, 0), (1, 0, 0), (1, 0, 0)] (fun ar M R => WX11_dayOf (f_vi (f_nth ar 0)) (f_vi (f_nth ar 1)) (f_vi (f_nth ar 2)) M (fun r => R (some (.inl r)) M))
theorem TX11_dayOf {sh : Nat → Nat × Nat} {t : Nat} : f_Mt sh t YX11_dayOf 5 (wX11_dayOf) :=
  f_Mt_of (k := 3) (Nat.le_of_ble_eq_true rfl) rfl rfl (fun ar M R rm cs h1 h2 h3 hX h => PX11_dayOf ⟨Nat.le_of_ble_eq_true rfl, h1, h2, h3, ⟨(f_Mt.up (Nat.le_of_ble_eq_true rfl) TX11_dateOf), trivial⟩, hX⟩ h)
def VX11_fullAgeOf_41 (c_X11_dateOf : Int → e_M → (Int → Prop) → Prop) (c_X11_dayOf : Int → Int → Int → e_M → (Int → Prop) → Prop) (Q : Int → Prop) (x3 : Int) (M : e_M) : Prop :=
  ((0 ≤ x3 → (Q x3)) ∧ (x3 < 0 → (Q 1000000)))
def VX11_fullAgeOf (c_X11_dateOf : Int → e_M → (Int → Prop) → Prop) (c_X11_dayOf : Int → Int → Int → e_M → (Int → Prop) → Prop) (k41 : Int → Prop) (Q : Int → Prop) (x0 : Int) (M : e_M) : Prop :=
  (c_X11_dateOf x0 M (fun r1 => (¬ (10000 : Int) = 0 ∧ (∀ y2 : Int, y2 = e_w32 ((e_w32 (r1.tdiv 10000)) + 18) → (¬ (100 : Int) = 0 ∧ (¬ (100 : Int) = 0 ∧ (¬ (100 : Int) = 0 ∧ (c_X11_dayOf y2 ((e_w32 (r1.tdiv 100)).tmod 100) (r1.tmod 100) M (fun r3 => ((0 ≤ r3 → (k41 r3)) ∧ (r3 < 0 → (c_X11_dayOf y2 3 1 M (fun r4 => (k41 r4))))))))))))))
def yX11_fullAgeOf (i : Nat) : e_Y := x_get YX11_fullAgeOf [YX11_dateOf, YX11_dayOf] i
def pX11_fullAgeOff : List x_I := [(0, 2, 1, 0, 0, 0, []), (1, 40, 0, 1, 0, 0, []), (4, 5, 1, 1, 0, 0, []), (5, 2, 1, 1, 0, 0, []), (6, 0, 3, 0, 0, 10000, []), (9, 9, 0, 3, 0, 0, []), (10, 0, 2, 0, 0, 18, []), (12, 9, 0, 0, 0, 0, []), (13, 33, 0, 0, 0, 0, []), (13, 5, 1, 2, 0, 0, []), (14, 2, 1, 2, 0, 0, []), (15, 2, 1, 1, 0, 0, []), (16, 0, 2, 0, 0, 100, []), (18, 9, 0, 3, 0, 0, []), (19, 0, 2, 0, 0, 100, []), (21, 9, 0, 4, 0, 0, []), (22, 2, 1, 1, 0, 0, []), (23, 0, 2, 0, 0, 100, []), (25, 9, 0, 4, 0, 0, []), (26, 40, 1, 3, 0, 0, []), (29, 5, 1, 3, 0, 0, []), (30, 2, 1, 3, 0, 0, []), (31, 17, 41, 3, 29, 0, []), (34, 2, 1, 2, 0, 0, []), (35, 0, 1, 0, 0, 3, []), (36, 0, 1, 0, 0, 1, []), (37, 40, 1, 3, 0, 0, []), (40, 5, 1, 3, 0, 0, []), (41, 49, 0, 0, 0, 0, []), (41, 2, 1, 3, 0, 0, []), (42, 17, 51, 3, 34, 0, []), (45, 0, 3, 0, 0, 1000000, []), (48, 19, 52, 0, 35, 0, []), (51, 2, 1, 3, 0, 0, []), (52, 41, 0, 0, 0, 0, [])]
set_option maxRecDepth 20000 in
theorem qX11_fullAgeOff : f_all yX11_fullAgeOf YX11_fullAgeOf pX11_fullAgeOff :=
  ⟨f_iload_n (n := 0) (e_dx DX11_fullAgeOf_0 0 rfl) rfl,
  x_callS (e_dx DX11_fullAgeOf_0 1 rfl) mwX11_dateOf cX11_260 swX11_dateOf rfl,
  f_istore_n (n := 1) (e_dx DX11_fullAgeOf_0 2 rfl) rfl (by decide),
  f_iload_n (n := 1) (e_dx DX11_fullAgeOf_0 3 rfl) rfl,
  f_sipush (e_dx DX11_fullAgeOf_0 4 rfl) ⟨by decide, by decide⟩,
  f_idiv (e_dx DX11_fullAgeOf_0 5 rfl),
  f_bipush (e_dx DX11_fullAgeOf_0 6 rfl) ⟨by decide, by decide⟩,
  f_iadd (e_dx DX11_fullAgeOf_0 7 rfl),
  f_g33,
  f_istore_n (n := 2) (e_dx DX11_fullAgeOf_0 8 rfl) rfl (by decide),
  f_iload_n (n := 2) (e_dx DX11_fullAgeOf_0 9 rfl) rfl,
  f_iload_n (n := 1) (e_dx DX11_fullAgeOf_0 10 rfl) rfl,
  f_bipush (e_dx DX11_fullAgeOf_0 11 rfl) ⟨by decide, by decide⟩,
  f_idiv (e_dx DX11_fullAgeOf_0 12 rfl),
  f_bipush (e_dx DX11_fullAgeOf_0 13 rfl) ⟨by decide, by decide⟩,
  f_irem (e_dx DX11_fullAgeOf_0 14 rfl),
  f_iload_n (n := 1) (e_dx DX11_fullAgeOf_0 15 rfl) rfl,
  f_bipush (e_dx DX11_fullAgeOf_0 16 rfl) ⟨by decide, by decide⟩,
  f_irem (e_dx DX11_fullAgeOf_0 17 rfl),
  x_callS (e_dx DX11_fullAgeOf_0 18 rfl) mwX11_dayOf cX11_266 swX11_dayOf rfl,
  f_istore_n (n := 3) (e_dx DX11_fullAgeOf_0 19 rfl) rfl (by decide),
  f_iload_n (n := 3) (e_dx DX11_fullAgeOf_0 20 rfl) rfl,
  f_if_ge (e_dx DX11_fullAgeOf_0 21 rfl) rfl,
  f_iload_n (n := 2) (e_dx DX11_fullAgeOf_0 22 rfl) rfl,
  f_iconst (e_dx DX11_fullAgeOf_0 23 rfl) ⟨by decide, by decide⟩,
  f_iconst (e_dx DX11_fullAgeOf_0 24 rfl) ⟨by decide, by decide⟩,
  x_callS (e_dx DX11_fullAgeOf_0 25 rfl) mwX11_dayOf cX11_266 swX11_dayOf rfl,
  f_istore_n (n := 3) (e_dx DX11_fullAgeOf_0 26 rfl) rfl (by decide),
  trivial,
  f_iload_n (n := 3) (e_dx DX11_fullAgeOf_0 27 rfl) rfl,
  f_if_ge (e_dx DX11_fullAgeOf_0 28 rfl) rfl,
  f_ldcw (e_dx DX11_fullAgeOf_0 29 rfl) hX11_269 rfl ⟨by decide, by decide⟩,
  f_g19 (e_dx DX11_fullAgeOf_0 30 rfl) rfl,
  f_iload_n (n := 3) (e_dx DX11_fullAgeOf_0 31 rfl) rfl,
  ⟨(e_dx DX11_fullAgeOf_0 32 rfl), rfl⟩, trivial⟩
def lX11_fullAgeOf (c_X11_dateOf : Int → e_M → (Int → Prop) → Prop) (c_X11_dayOf : Int → Int → Int → e_M → (Int → Prop) → Prop) : List (Nat × f_Wt) := [(0, f_wm [(1, 0, 0)] (fun ar M R => c_X11_dateOf (f_vi (f_nth ar 0)) M (fun r => R (some (.inl r)) M))), (1, f_wm [(1, 0, 0), (1, 0, 0), (1, 0, 0)] (fun ar M R => c_X11_dayOf (f_vi (f_nth ar 0)) (f_vi (f_nth ar 1)) (f_vi (f_nth ar 2)) M (fun r => R (some (.inl r)) M)))]
set_option maxRecDepth 20000 in
theorem BX11_fullAgeOf_41 {sh : Nat → Nat × Nat} {t : Nat} {rm : Nat × Nat × Nat} {cs : Nat × Nat} {R : f_Rt} {c_X11_dateOf : Int → e_M → (Int → Prop) → Prop} {c_X11_dayOf : Int → Int → Int → e_M → (Int → Prop) → Prop} {x3 : Int} {M : e_M} (C : f_Hy sh t yX11_fullAgeOf rm cs 6 (lX11_fullAgeOf c_X11_dateOf c_X11_dayOf) R) (h : VX11_fullAgeOf_41 c_X11_dateOf c_X11_dayOf (fun r => R (some (.inl r)) M) x3 M) : f_E sh t YX11_fullAgeOf rm cs (f_Q sh t R) 41 [.inr (.inr (.inr ())), .inr (.inr (.inr ())), .inr (.inr (.inr ())), .inl x3] [] M :=
  f_go (KC := f_kc []) C qX11_fullAgeOff f_kc_nil 37 29 h
set_option maxRecDepth 20000 in
theorem BX11_fullAgeOf {sh : Nat → Nat × Nat} {t : Nat} {rm : Nat × Nat × Nat} {cs : Nat × Nat} {R : f_Rt} {c_X11_dateOf : Int → e_M → (Int → Prop) → Prop} {c_X11_dayOf : Int → Int → Int → e_M → (Int → Prop) → Prop} {k41 : Int → Prop} {x0 : Int} {M : e_M} (C : f_Hy sh t yX11_fullAgeOf rm cs 6 (lX11_fullAgeOf c_X11_dateOf c_X11_dayOf) R) (h41 : ∀ (x3 : Int), k41 x3 → f_E sh t YX11_fullAgeOf rm cs (f_Q sh t R) 41 [.inr (.inr (.inr ())), .inr (.inr (.inr ())), .inr (.inr (.inr ())), .inl x3] [] M) (h : VX11_fullAgeOf c_X11_dateOf c_X11_dayOf k41 (fun r => R (some (.inl r)) M) x0 M) : f_E sh t YX11_fullAgeOf rm cs (f_Q sh t R) 0 [.inl x0, .inr (.inr (.inr ())), .inr (.inr (.inr ())), .inr (.inr (.inr ()))] [] M := by
  rw [f_kk1 M k41] at h
  exact f_go (KC := f_kc [(41, f_pl [(0, 0, 0), (0, 0, 0), (0, 0, 0), (1, 0, 0)] [] (fun ls st M2 => M2 = M ∧ (k41 (f_vi (f_nth ls 3)))))]) C qX11_fullAgeOff (f_kc_cons (f_pl_ok rfl (fun ls st M2 ⟨e, hh⟩ => by subst e; exact h41 _ hh)) f_kc_nil) 37 0 h
def WX11_fullAgeOf_41 (M : e_M) (Q : Int → Prop) (x3 : Int) : Prop :=
  VX11_fullAgeOf_41 WX11_dateOf WX11_dayOf Q x3 M
def WX11_fullAgeOf (x0 : Int) (M : e_M) (Q : Int → Prop) : Prop :=
  VX11_fullAgeOf WX11_dateOf WX11_dayOf (WX11_fullAgeOf_41 M Q) Q x0 M
theorem PX11_fullAgeOf_41 {sh : Nat → Nat × Nat} {t : Nat} {rm : Nat × Nat × Nat} {cs : Nat × Nat} {R : f_Rt} {x3 : Int} {M : e_M} (C : f_Hy sh t yX11_fullAgeOf rm cs 6 (lX11_fullAgeOf WX11_dateOf WX11_dayOf) R) (h : WX11_fullAgeOf_41 M (fun r => R (some (.inl r)) M) x3) : f_E sh t YX11_fullAgeOf rm cs (f_Q sh t R) 41 [.inr (.inr (.inr ())), .inr (.inr (.inr ())), .inr (.inr (.inr ())), .inl x3] [] M :=
  BX11_fullAgeOf_41 C h
theorem PX11_fullAgeOf {sh : Nat → Nat × Nat} {t : Nat} {rm : Nat × Nat × Nat} {cs : Nat × Nat} {R : f_Rt} {x0 : Int} {M : e_M} (C : f_Hy sh t yX11_fullAgeOf rm cs 6 (lX11_fullAgeOf WX11_dateOf WX11_dayOf) R) (h : WX11_fullAgeOf x0 M (fun r => R (some (.inl r)) M)) : f_E sh t YX11_fullAgeOf rm cs (f_Q sh t R) 0 [.inl x0, .inr (.inr (.inr ())), .inr (.inr (.inr ())), .inr (.inr (.inr ()))] [] M :=
  BX11_fullAgeOf C (fun x3 h => PX11_fullAgeOf_41 C h) h
def wX11_fullAgeOf : f_Wt := f_wm [(1, 0, 0)] (fun ar M R => WX11_fullAgeOf (f_vi (f_nth ar 0)) M (fun r => R (some (.inl r)) M))
theorem TX11_fullAgeOf {sh : Nat → Nat × Nat} {t : Nat} : f_Mt sh t YX11_fullAgeOf 6 (wX11_fullAgeOf) :=
  f_Mt_of (k := 3) (Nat.le_of_ble_eq_true rfl) rfl rfl (fun ar M R rm cs h1 h2 h3 hX h => PX11_fullAgeOf ⟨Nat.le_of_ble_eq_true rfl, h1, h2, h3, ⟨(f_Mt.up (Nat.le_of_ble_eq_true rfl) TX11_dateOf), (f_Mt.up (Nat.le_of_ble_eq_true rfl) TX11_dayOf), trivial⟩, hX⟩ h)
def VX0_makePerson (c_X10_isFull : Nat → Int → e_M → (Int → Prop) → Prop) (c_X0_make : Int → e_M → (Nat → e_M → Prop) → Prop) (c_X11_fullAgeOf : Int → e_M → (Int → Prop) → Prop) (Q : Int → e_M → Prop) (M : e_M) : Prop :=
  (((M ((M 4423 1).toNat) 8) ≤ (M ((M 4423 1).toNat) 4) → (c_X10_isFull ((M 4423 0).toNat) 1 M (fun r1 => ((r1 = 0 → (c_X0_make 1 M (fun r2 M3 => (∀ M4 : e_M, M4 = e_up M3 r2 4 (M3 ((M3 4423 1).toNat) 8) → (c_X11_fullAgeOf (M4 ((M4 4423 1).toNat) 8) M4 (fun r5 => (∀ M6 : e_M, M6 = e_up M4 r2 6 r5 → (Q 0 M6)))))))) ∧ (¬ r1 = 0 → (Q 7 M)))))) ∧ ((M ((M 4423 1).toNat) 4) < (M ((M 4423 1).toNat) 8) → (Q 8 M)))
def yX0_makePerson (i : Nat) : e_Y := x_get YX0_makePerson [YX10_isFull, YX0_make, YX11_fullAgeOf] i
def pX0_makePersonf : List x_I := [(0, 4, 1, 0, 0, 0, []), (1, 25, 0, 1, 4, 0, [(0, 2, 19), (0, 0, 0)]), (4, 25, 2, 8, 0, 0, []), (7, 4, 1, 0, 0, 0, []), (8, 25, 0, 1, 4, 0, [(0, 2, 19), (0, 0, 0)]), (11, 25, 2, 4, 0, 0, []), (14, 18, 20, 5, 10, 0, []), (17, 0, 2, 0, 0, 8, []), (19, 41, 0, 0, 0, 0, []), (20, 4, 1, 0, 0, 0, []), (21, 25, 0, 0, 4, 0, [(0, 10, 15), (0, 0, 0)]), (24, 0, 1, 0, 0, 1, []), (25, 40, 0, 2, 12, 0, []), (28, 17, 34, 0, 17, 0, []), (31, 0, 2, 0, 0, 7, []), (33, 41, 0, 0, 0, 0, []), (34, 4, 1, 0, 0, 0, []), (35, 0, 1, 0, 0, 1, []), (36, 40, 1, 2, 2, 0, []), (39, 7, 1, 1, 0, 0, []), (40, 4, 1, 1, 0, 0, []), (41, 4, 1, 0, 0, 0, []), (42, 25, 0, 1, 4, 0, [(0, 2, 19), (0, 0, 0)]), (45, 25, 2, 8, 0, 0, []), (48, 26, 9, 4, 0, 0, []), (51, 4, 1, 1, 0, 0, []), (52, 4, 1, 0, 0, 0, []), (53, 25, 0, 1, 4, 0, [(0, 2, 19), (0, 0, 0)]), (56, 25, 2, 8, 0, 0, []), (59, 40, 2, 1, 0, 0, []), (62, 26, 9, 6, 0, 0, []), (65, 0, 1, 0, 0, 0, []), (66, 41, 0, 0, 0, 0, [])]
set_option maxRecDepth 20000 in
theorem qX0_makePersonf : f_all yX0_makePerson YX0_makePerson pX0_makePersonf :=
  ⟨f_aload_n (n := 0) (e_dx DX0_makePerson_0 0 rfl) rfl,
  f_getA (e_dx DX0_makePerson_0 1 rfl) fX0_40 rfl (by decide) (Nat.le_of_ble_eq_true rfl) rfl (by decide),
  f_getf (e_dx DX0_makePerson_0 2 rfl) fX0_197 rfl (by decide) (by decide) (by decide),
  f_aload_n (n := 0) (e_dx DX0_makePerson_0 3 rfl) rfl,
  f_getA (e_dx DX0_makePerson_0 4 rfl) fX0_40 rfl (by decide) (Nat.le_of_ble_eq_true rfl) rfl (by decide),
  f_getf (e_dx DX0_makePerson_0 5 rfl) fX0_44 rfl (by decide) (by decide) (by decide),
  f_icmp_le (e_dx DX0_makePerson_0 6 rfl) rfl,
  f_bipush (e_dx DX0_makePerson_0 7 rfl) ⟨by decide, by decide⟩,
  ⟨(e_dx DX0_makePerson_0 8 rfl), rfl⟩,
  f_aload_n (n := 0) (e_dx DX0_makePerson_0 9 rfl) rfl,
  f_getA (e_dx DX0_makePerson_0 10 rfl) fX0_36 rfl (by decide) (Nat.le_of_ble_eq_true rfl) rfl (by decide),
  f_iconst (e_dx DX0_makePerson_0 11 rfl) ⟨by decide, by decide⟩,
  x_callV (e_dx DX0_makePerson_0 12 rfl) mwX10_isFull vwX10_isFull cX0_200 rfl,
  f_if_eq (e_dx DX0_makePerson_0 13 rfl) rfl,
  f_bipush (e_dx DX0_makePerson_0 14 rfl) ⟨by decide, by decide⟩,
  ⟨(e_dx DX0_makePerson_0 15 rfl), rfl⟩,
  f_aload_n (n := 0) (e_dx DX0_makePerson_0 16 rfl) rfl,
  f_iconst (e_dx DX0_makePerson_0 17 rfl) ⟨by decide, by decide⟩,
  x_callV (e_dx DX0_makePerson_0 18 rfl) mwX0_make vwX0_make cX0_203 rfl,
  f_astore_n (n := 1) (e_dx DX0_makePerson_0 19 rfl) rfl (by decide),
  f_aload_n (n := 1) (e_dx DX0_makePerson_0 20 rfl) rfl,
  f_aload_n (n := 0) (e_dx DX0_makePerson_0 21 rfl) rfl,
  f_getA (e_dx DX0_makePerson_0 22 rfl) fX0_40 rfl (by decide) (Nat.le_of_ble_eq_true rfl) rfl (by decide),
  f_getf (e_dx DX0_makePerson_0 23 rfl) fX0_197 rfl (by decide) (by decide) (by decide),
  f_putn (e_dx DX0_makePerson_0 24 rfl) fX0_194 (fun q hq => by cases hq; rfl) rfl (Or.inl rfl) (by decide),
  f_aload_n (n := 1) (e_dx DX0_makePerson_0 25 rfl) rfl,
  f_aload_n (n := 0) (e_dx DX0_makePerson_0 26 rfl) rfl,
  f_getA (e_dx DX0_makePerson_0 27 rfl) fX0_40 rfl (by decide) (Nat.le_of_ble_eq_true rfl) rfl (by decide),
  f_getf (e_dx DX0_makePerson_0 28 rfl) fX0_197 rfl (by decide) (by decide) (by decide),
  x_callSN (e_dx DX0_makePerson_0 29 rfl) mwX11_fullAgeOf cX0_207 swX11_fullAgeOf rfl,
  f_putn (e_dx DX0_makePerson_0 30 rfl) fX0_211 (fun q hq => by cases hq; rfl) rfl (Or.inl rfl) (by decide),
  f_iconst (e_dx DX0_makePerson_0 31 rfl) ⟨by decide, by decide⟩,
  ⟨(e_dx DX0_makePerson_0 32 rfl), rfl⟩, trivial⟩
def lX0_makePerson (c_X10_isFull : Nat → Int → e_M → (Int → Prop) → Prop) (c_X0_make : Int → e_M → (Nat → e_M → Prop) → Prop) (c_X11_fullAgeOf : Int → e_M → (Int → Prop) → Prop) : List (Nat × f_Wt) := [(0, f_wm [(3, 10, 15), (1, 0, 0)] (fun ar M R => c_X10_isFull (f_va (f_nth ar 0)) (f_vi (f_nth ar 1)) M (fun r => R (some (.inl r)) M))), (1, f_wm [(4433, 0, 7), (1, 0, 0)] (fun ar M R => c_X0_make (f_vi (f_nth ar 1)) M (fun r M => R (some (.inr (.inr (.inl (9, 14, r))))) M))), (2, f_wm [(1, 0, 0)] (fun ar M R => c_X11_fullAgeOf (f_vi (f_nth ar 0)) M (fun r => R (some (.inl r)) M)))]
set_option maxRecDepth 20000 in
theorem BX0_makePerson {sh : Nat → Nat × Nat} {t : Nat} {rm : Nat × Nat × Nat} {cs : Nat × Nat} {R : f_Rt} {c_X10_isFull : Nat → Int → e_M → (Int → Prop) → Prop} {c_X0_make : Int → e_M → (Nat → e_M → Prop) → Prop} {c_X11_fullAgeOf : Int → e_M → (Int → Prop) → Prop} {M : e_M} (C : f_Hy sh t yX0_makePerson rm cs 7 (lX0_makePerson c_X10_isFull c_X0_make c_X11_fullAgeOf) R) (h : VX0_makePerson c_X10_isFull c_X0_make c_X11_fullAgeOf (fun r M => R (some (.inl r)) M) M) : f_E sh t YX0_makePerson rm cs (f_Q sh t R) 0 [.inr (.inr (.inl (0, 7, 4423))), .inr (.inr (.inr ()))] [] M :=
  f_go (KC := f_kc []) C qX0_makePersonf f_kc_nil 35 0 h
def WX0_makePerson (M : e_M) (Q : Int → e_M → Prop) : Prop :=
  VX0_makePerson WX10_isFull WX0_make WX11_fullAgeOf Q M
theorem PX0_makePerson {sh : Nat → Nat × Nat} {t : Nat} {rm : Nat × Nat × Nat} {cs : Nat × Nat} {R : f_Rt} {M : e_M} (C : f_Hy sh t yX0_makePerson rm cs 7 (lX0_makePerson WX10_isFull WX0_make WX11_fullAgeOf) R) (h : WX0_makePerson M (fun r M => R (some (.inl r)) M)) : f_E sh t YX0_makePerson rm cs (f_Q sh t R) 0 [.inr (.inr (.inl (0, 7, 4423))), .inr (.inr (.inr ()))] [] M :=
  BX0_makePerson C h
def wX0_makePerson : f_Wt := f_wm [(4433, 0, 7)] (fun ar M R => WX0_makePerson M (fun r M => R (some (.inl r)) M))
theorem TX0_makePerson {sh : Nat → Nat × Nat} {t : Nat} : f_Mt sh t YX0_makePerson 7 (wX0_makePerson) :=
  f_Mt_of (k := 1) (Nat.le_of_ble_eq_true rfl) rfl rfl (fun ar M R rm cs h1 h2 h3 hX h => PX0_makePerson ⟨Nat.le_of_ble_eq_true rfl, h1, h2, h3, ⟨(f_Mt.up (Nat.le_of_ble_eq_true rfl) TX10_isFull), (f_Mt.up (Nat.le_of_ble_eq_true rfl) TX0_make), (f_Mt.up (Nat.le_of_ble_eq_true rfl) TX11_fullAgeOf), trivial⟩, hX⟩ h)
def VX10_isOfAge_26 (c_X10_at : Nat → Int → Int → e_M → (Nat → Prop) → Prop) (Q : Int → Prop) (M : e_M) : Prop :=
  (Q 1)
def VX10_isOfAge (c_X10_at : Nat → Int → Int → e_M → (Nat → Prop) → Prop) (k26 : Prop) (Q : Int → Prop) (a0 : Nat) (x1 : Int) (M : e_M) : Prop :=
  (c_X10_at a0 1 x1 M (fun r1 => (((M r1 7) = 1 → (k26)) ∧ (¬ (M r1 7) = 1 → (((M a0 11) < (M r1 6) → (Q 0)) ∧ ((M r1 6) ≤ (M a0 11) → (k26)))))))
def yX10_isOfAge (i : Nat) : e_Y := x_get YX10_isOfAge [YX10_at] i
def pX10_isOfAgef : List x_I := [(0, 4, 1, 0, 0, 0, []), (1, 0, 1, 0, 0, 1, []), (2, 2, 1, 1, 0, 0, []), (3, 40, 0, 3, 12, 0, []), (6, 7, 1, 2, 0, 0, []), (7, 4, 1, 2, 0, 0, []), (8, 25, 9, 7, 0, 0, []), (11, 0, 1, 0, 0, 1, []), (12, 18, 26, 0, 15, 0, []), (15, 4, 1, 0, 0, 0, []), (16, 25, 10, 11, 0, 0, []), (19, 4, 1, 2, 0, 0, []), (20, 25, 9, 6, 0, 0, []), (23, 18, 30, 2, 18, 0, []), (26, 49, 0, 0, 0, 0, []), (26, 0, 1, 0, 0, 1, []), (27, 19, 31, 0, 19, 0, []), (30, 0, 1, 0, 0, 0, []), (31, 48, 0, 0, 0, 0, [])]
set_option maxRecDepth 20000 in
theorem qX10_isOfAgef : f_all yX10_isOfAge YX10_isOfAge pX10_isOfAgef :=
  ⟨f_aload_n (n := 0) (e_dx DX10_isOfAge_0 0 rfl) rfl,
  f_iconst (e_dx DX10_isOfAge_0 1 rfl) ⟨by decide, by decide⟩,
  f_iload_n (n := 1) (e_dx DX10_isOfAge_0 2 rfl) rfl,
  x_callV (e_dx DX10_isOfAge_0 3 rfl) mwX10_at vwX10_at cX10_93 rfl,
  f_astore_n (n := 2) (e_dx DX10_isOfAge_0 4 rfl) rfl (by decide),
  f_aload_n (n := 2) (e_dx DX10_isOfAge_0 5 rfl) rfl,
  f_getf (e_dx DX10_isOfAge_0 6 rfl) fX10_97 rfl (by decide) (by decide) (by decide),
  f_iconst (e_dx DX10_isOfAge_0 7 rfl) ⟨by decide, by decide⟩,
  f_icmp_eq (e_dx DX10_isOfAge_0 8 rfl) rfl,
  f_aload_n (n := 0) (e_dx DX10_isOfAge_0 9 rfl) rfl,
  f_getf (e_dx DX10_isOfAge_0 10 rfl) fX10_65 rfl (by decide) (by decide) (by decide),
  f_aload_n (n := 2) (e_dx DX10_isOfAge_0 11 rfl) rfl,
  f_getf (e_dx DX10_isOfAge_0 12 rfl) fX10_161 rfl (by decide) (by decide) (by decide),
  f_icmp_lt (e_dx DX10_isOfAge_0 13 rfl) rfl,
  trivial,
  f_iconst (e_dx DX10_isOfAge_0 14 rfl) ⟨by decide, by decide⟩,
  f_g19 (e_dx DX10_isOfAge_0 15 rfl) rfl,
  f_iconst (e_dx DX10_isOfAge_0 16 rfl) ⟨by decide, by decide⟩,
  ⟨(e_dx DX10_isOfAge_0 17 rfl), rfl⟩, trivial⟩
def lX10_isOfAge (c_X10_at : Nat → Int → Int → e_M → (Nat → Prop) → Prop) : List (Nat × f_Wt) := [(0, f_wm [(3, 10, 15), (1, 0, 0), (1, 0, 0)] (fun ar M R => c_X10_at (f_va (f_nth ar 0)) (f_vi (f_nth ar 1)) (f_vi (f_nth ar 2)) M (fun r => R (some (.inr (.inr (.inl (9, 14, r))))) M)))]
set_option maxRecDepth 20000 in
theorem BX10_isOfAge_26 {sh : Nat → Nat × Nat} {t : Nat} {rm : Nat × Nat × Nat} {cs : Nat × Nat} {R : f_Rt} {c_X10_at : Nat → Int → Int → e_M → (Nat → Prop) → Prop} {M : e_M} (C : f_Hy sh t yX10_isOfAge rm cs 5 (lX10_isOfAge c_X10_at) R) (h : VX10_isOfAge_26 c_X10_at (fun r => R (some (.inl r)) M) M) : f_E sh t YX10_isOfAge rm cs (f_Q sh t R) 26 [.inr (.inr (.inr ())), .inr (.inr (.inr ())), .inr (.inr (.inr ()))] [] M :=
  f_go (KC := f_kc []) C qX10_isOfAgef f_kc_nil 21 15 h
set_option maxRecDepth 20000 in
theorem BX10_isOfAge {sh : Nat → Nat × Nat} {t : Nat} {rm : Nat × Nat × Nat} {cs : Nat × Nat} {R : f_Rt} {c_X10_at : Nat → Int → Int → e_M → (Nat → Prop) → Prop} {k26 : Prop} {a0 : Nat} {x1 : Int} {M : e_M} (C : f_Hy sh t yX10_isOfAge rm cs 5 (lX10_isOfAge c_X10_at) R) (h26 : k26 → f_E sh t YX10_isOfAge rm cs (f_Q sh t R) 26 [.inr (.inr (.inr ())), .inr (.inr (.inr ())), .inr (.inr (.inr ()))] [] M) (h : VX10_isOfAge c_X10_at k26 (fun r => R (some (.inl r)) M) a0 x1 M) : f_E sh t YX10_isOfAge rm cs (f_Q sh t R) 0 [.inr (.inr (.inl (10, 15, a0))), .inl x1, .inr (.inr (.inr ()))] [] M := by
  rw [f_kk0 M k26] at h
  exact f_go (KC := f_kc [(26, f_pl [(0, 0, 0), (0, 0, 0), (0, 0, 0)] [] (fun ls st M2 => M2 = M ∧ (k26)))]) C qX10_isOfAgef (f_kc_cons (f_pl_ok rfl (fun ls st M2 ⟨e, hh⟩ => by subst e; exact h26  hh)) f_kc_nil) 21 0 h
def WX10_isOfAge_26 (M : e_M) (Q : Int → Prop) : Prop :=
  VX10_isOfAge_26 WX10_at Q M
def WX10_isOfAge (a0 : Nat) (x1 : Int) (M : e_M) (Q : Int → Prop) : Prop :=
  VX10_isOfAge WX10_at (WX10_isOfAge_26 M Q) Q a0 x1 M
theorem PX10_isOfAge_26 {sh : Nat → Nat × Nat} {t : Nat} {rm : Nat × Nat × Nat} {cs : Nat × Nat} {R : f_Rt} {M : e_M} (C : f_Hy sh t yX10_isOfAge rm cs 5 (lX10_isOfAge WX10_at) R) (h : WX10_isOfAge_26 M (fun r => R (some (.inl r)) M)) : f_E sh t YX10_isOfAge rm cs (f_Q sh t R) 26 [.inr (.inr (.inr ())), .inr (.inr (.inr ())), .inr (.inr (.inr ()))] [] M :=
  BX10_isOfAge_26 C h
theorem PX10_isOfAge {sh : Nat → Nat × Nat} {t : Nat} {rm : Nat × Nat × Nat} {cs : Nat × Nat} {R : f_Rt} {a0 : Nat} {x1 : Int} {M : e_M} (C : f_Hy sh t yX10_isOfAge rm cs 5 (lX10_isOfAge WX10_at) R) (h : WX10_isOfAge a0 x1 M (fun r => R (some (.inl r)) M)) : f_E sh t YX10_isOfAge rm cs (f_Q sh t R) 0 [.inr (.inr (.inl (10, 15, a0))), .inl x1, .inr (.inr (.inr ()))] [] M :=
  BX10_isOfAge C (fun h => PX10_isOfAge_26 C h) h
def wX10_isOfAge : f_Wt := f_wm [(3, 10, 15), (1, 0, 0)] (fun ar M R => WX10_isOfAge (f_va (f_nth ar 0)) (f_vi (f_nth ar 1)) M (fun r => R (some (.inl r)) M))
theorem TX10_isOfAge {sh : Nat → Nat × Nat} {t : Nat} : f_Mt sh t YX10_isOfAge 5 (wX10_isOfAge) :=
  f_Mt_of (k := 1) (Nat.le_of_ble_eq_true rfl) rfl rfl (fun ar M R rm cs h1 h2 h3 hX h => PX10_isOfAge ⟨Nat.le_of_ble_eq_true rfl, h1, h2, h3, ⟨(f_Mt.up (Nat.le_of_ble_eq_true rfl) TX10_at), trivial⟩, hX⟩ h)
def VX0_makeFirm (c_X10_isOfAge : Nat → Int → e_M → (Int → Prop) → Prop) (c_X10_isFull : Nat → Int → e_M → (Int → Prop) → Prop) (c_X0_make : Int → e_M → (Nat → e_M → Prop) → Prop) (Q : Int → e_M → Prop) (M : e_M) : Prop :=
  ((0 ≤ (1 : Int) ∧ (1 : Int) < 8) ∧ (c_X10_isOfAge ((M 4423 0).toNat) (M 4425 ((1 : Int).toNat)) M (fun r1 => ((¬ r1 = 0 → (c_X10_isFull ((M 4423 0).toNat) 1 M (fun r2 => ((r2 = 0 → (c_X0_make 1 M (fun r3 M4 => (∀ M5 : e_M, M5 = e_up M4 r3 4 (-1) → (∀ M6 : e_M, M6 = e_up M5 r3 7 1 → ((0 ≤ (1 : Int) ∧ (1 : Int) < 8) ∧ (∀ M7 : e_M, M7 = e_up M6 r3 5 (M6 4425 ((1 : Int).toNat)) → (Q 0 M7)))))))) ∧ (¬ r2 = 0 → (Q 7 M)))))) ∧ (r1 = 0 → (Q 2 M))))))
def yX0_makeFirm (i : Nat) : e_Y := x_get YX0_makeFirm [YX10_isOfAge, YX10_isFull, YX0_make] i
def pX0_makeFirmf : List x_I := [(0, 4, 1, 0, 0, 0, []), (1, 25, 0, 0, 4, 0, [(0, 10, 15), (0, 0, 0)]), (4, 4, 1, 0, 0, 0, []), (5, 25, 0, 4, 4, 0, [(0, 20, 8), (0, 1, 2)]), (8, 0, 1, 0, 0, 1, []), (9, 27, 0, 0, 0, 0, []), (10, 40, 0, 2, 12, 0, []), (13, 17, 18, 1, 11, 0, []), (16, 0, 1, 0, 0, 2, []), (17, 41, 0, 0, 0, 0, []), (18, 4, 1, 0, 0, 0, []), (19, 25, 0, 0, 4, 0, [(0, 10, 15), (0, 0, 0)]), (22, 0, 1, 0, 0, 1, []), (23, 40, 1, 2, 12, 0, []), (26, 17, 32, 0, 18, 0, []), (29, 0, 2, 0, 0, 7, []), (31, 41, 0, 0, 0, 0, []), (32, 4, 1, 0, 0, 0, []), (33, 0, 1, 0, 0, 1, []), (34, 40, 2, 2, 2, 0, []), (37, 7, 1, 1, 0, 0, []), (38, 4, 1, 1, 0, 0, []), (39, 0, 1, 0, 0, (-1), []), (40, 26, 9, 4, 0, 0, []), (43, 4, 1, 1, 0, 0, []), (44, 0, 1, 0, 0, 1, []), (45, 26, 9, 7, 0, 0, []), (48, 4, 1, 1, 0, 0, []), (49, 4, 1, 0, 0, 0, []), (50, 25, 0, 4, 4, 0, [(0, 20, 8), (0, 1, 2)]), (53, 0, 1, 0, 0, 1, []), (54, 27, 0, 0, 0, 0, []), (55, 26, 9, 5, 0, 0, []), (58, 0, 1, 0, 0, 0, []), (59, 41, 0, 0, 0, 0, [])]
set_option maxRecDepth 20000 in
theorem qX0_makeFirmf : f_all yX0_makeFirm YX0_makeFirm pX0_makeFirmf :=
  ⟨f_aload_n (n := 0) (e_dx DX0_makeFirm_0 0 rfl) rfl,
  f_getA (e_dx DX0_makeFirm_0 1 rfl) fX0_36 rfl (by decide) (Nat.le_of_ble_eq_true rfl) rfl (by decide),
  f_aload_n (n := 0) (e_dx DX0_makeFirm_0 2 rfl) rfl,
  f_getA (e_dx DX0_makeFirm_0 3 rfl) fX0_19 rfl (by decide) (Nat.le_of_ble_eq_true rfl) rfl (by decide),
  f_iconst (e_dx DX0_makeFirm_0 4 rfl) ⟨by decide, by decide⟩,
  f_iaload (e_dx DX0_makeFirm_0 5 rfl),
  x_callV (e_dx DX0_makeFirm_0 6 rfl) mwX10_isOfAge vwX10_isOfAge cX0_214 rfl,
  f_if_ne (e_dx DX0_makeFirm_0 7 rfl) rfl,
  f_iconst (e_dx DX0_makeFirm_0 8 rfl) ⟨by decide, by decide⟩,
  ⟨(e_dx DX0_makeFirm_0 9 rfl), rfl⟩,
  f_aload_n (n := 0) (e_dx DX0_makeFirm_0 10 rfl) rfl,
  f_getA (e_dx DX0_makeFirm_0 11 rfl) fX0_36 rfl (by decide) (Nat.le_of_ble_eq_true rfl) rfl (by decide),
  f_iconst (e_dx DX0_makeFirm_0 12 rfl) ⟨by decide, by decide⟩,
  x_callV (e_dx DX0_makeFirm_0 13 rfl) mwX10_isFull vwX10_isFull cX0_200 rfl,
  f_if_eq (e_dx DX0_makeFirm_0 14 rfl) rfl,
  f_bipush (e_dx DX0_makeFirm_0 15 rfl) ⟨by decide, by decide⟩,
  ⟨(e_dx DX0_makeFirm_0 16 rfl), rfl⟩,
  f_aload_n (n := 0) (e_dx DX0_makeFirm_0 17 rfl) rfl,
  f_iconst (e_dx DX0_makeFirm_0 18 rfl) ⟨by decide, by decide⟩,
  x_callV (e_dx DX0_makeFirm_0 19 rfl) mwX0_make vwX0_make cX0_203 rfl,
  f_astore_n (n := 1) (e_dx DX0_makeFirm_0 20 rfl) rfl (by decide),
  f_aload_n (n := 1) (e_dx DX0_makeFirm_0 21 rfl) rfl,
  f_iconst (e_dx DX0_makeFirm_0 22 rfl) ⟨by decide, by decide⟩,
  f_putn (e_dx DX0_makeFirm_0 23 rfl) fX0_194 (fun q hq => by cases hq; rfl) rfl (Or.inl rfl) (by decide),
  f_aload_n (n := 1) (e_dx DX0_makeFirm_0 24 rfl) rfl,
  f_iconst (e_dx DX0_makeFirm_0 25 rfl) ⟨by decide, by decide⟩,
  f_putn (e_dx DX0_makeFirm_0 26 rfl) fX0_156 (fun q hq => by cases hq; rfl) rfl (Or.inl rfl) (by decide),
  f_aload_n (n := 1) (e_dx DX0_makeFirm_0 27 rfl) rfl,
  f_aload_n (n := 0) (e_dx DX0_makeFirm_0 28 rfl) rfl,
  f_getA (e_dx DX0_makeFirm_0 29 rfl) fX0_19 rfl (by decide) (Nat.le_of_ble_eq_true rfl) rfl (by decide),
  f_iconst (e_dx DX0_makeFirm_0 30 rfl) ⟨by decide, by decide⟩,
  f_iaload (e_dx DX0_makeFirm_0 31 rfl),
  f_putn (e_dx DX0_makeFirm_0 32 rfl) fX0_188 (fun q hq => by cases hq; rfl) rfl (Or.inl rfl) (by decide),
  f_iconst (e_dx DX0_makeFirm_0 33 rfl) ⟨by decide, by decide⟩,
  ⟨(e_dx DX0_makeFirm_0 34 rfl), rfl⟩, trivial⟩
def lX0_makeFirm (c_X10_isOfAge : Nat → Int → e_M → (Int → Prop) → Prop) (c_X10_isFull : Nat → Int → e_M → (Int → Prop) → Prop) (c_X0_make : Int → e_M → (Nat → e_M → Prop) → Prop) : List (Nat × f_Wt) := [(0, f_wm [(3, 10, 15), (1, 0, 0)] (fun ar M R => c_X10_isOfAge (f_va (f_nth ar 0)) (f_vi (f_nth ar 1)) M (fun r => R (some (.inl r)) M))), (1, f_wm [(3, 10, 15), (1, 0, 0)] (fun ar M R => c_X10_isFull (f_va (f_nth ar 0)) (f_vi (f_nth ar 1)) M (fun r => R (some (.inl r)) M))), (2, f_wm [(4433, 0, 7), (1, 0, 0)] (fun ar M R => c_X0_make (f_vi (f_nth ar 1)) M (fun r M => R (some (.inr (.inr (.inl (9, 14, r))))) M)))]
set_option maxRecDepth 20000 in
theorem BX0_makeFirm {sh : Nat → Nat × Nat} {t : Nat} {rm : Nat × Nat × Nat} {cs : Nat × Nat} {R : f_Rt} {c_X10_isOfAge : Nat → Int → e_M → (Int → Prop) → Prop} {c_X10_isFull : Nat → Int → e_M → (Int → Prop) → Prop} {c_X0_make : Int → e_M → (Nat → e_M → Prop) → Prop} {M : e_M} (C : f_Hy sh t yX0_makeFirm rm cs 7 (lX0_makeFirm c_X10_isOfAge c_X10_isFull c_X0_make) R) (h : VX0_makeFirm c_X10_isOfAge c_X10_isFull c_X0_make (fun r M => R (some (.inl r)) M) M) : f_E sh t YX0_makeFirm rm cs (f_Q sh t R) 0 [.inr (.inr (.inl (0, 7, 4423))), .inr (.inr (.inr ()))] [] M :=
  f_go (KC := f_kc []) C qX0_makeFirmf f_kc_nil 37 0 h
def WX0_makeFirm (M : e_M) (Q : Int → e_M → Prop) : Prop :=
  VX0_makeFirm WX10_isOfAge WX10_isFull WX0_make Q M
theorem PX0_makeFirm {sh : Nat → Nat × Nat} {t : Nat} {rm : Nat × Nat × Nat} {cs : Nat × Nat} {R : f_Rt} {M : e_M} (C : f_Hy sh t yX0_makeFirm rm cs 7 (lX0_makeFirm WX10_isOfAge WX10_isFull WX0_make) R) (h : WX0_makeFirm M (fun r M => R (some (.inl r)) M)) : f_E sh t YX0_makeFirm rm cs (f_Q sh t R) 0 [.inr (.inr (.inl (0, 7, 4423))), .inr (.inr (.inr ()))] [] M :=
  BX0_makeFirm C h
def wX0_makeFirm : f_Wt := f_wm [(4433, 0, 7)] (fun ar M R => WX0_makeFirm M (fun r M => R (some (.inl r)) M))
theorem TX0_makeFirm {sh : Nat → Nat × Nat} {t : Nat} : f_Mt sh t YX0_makeFirm 7 (wX0_makeFirm) :=
  f_Mt_of (k := 1) (Nat.le_of_ble_eq_true rfl) rfl rfl (fun ar M R rm cs h1 h2 h3 hX h => PX0_makeFirm ⟨Nat.le_of_ble_eq_true rfl, h1, h2, h3, ⟨(f_Mt.up (Nat.le_of_ble_eq_true rfl) TX10_isOfAge), (f_Mt.up (Nat.le_of_ble_eq_true rfl) TX10_isFull), (f_Mt.up (Nat.le_of_ble_eq_true rfl) TX0_make), trivial⟩, hX⟩ h)
def VX0_guard (c_X10_isOfAge : Nat → Int → e_M → (Int → Prop) → Prop) (c_X10_at : Nat → Int → Int → e_M → (Nat → Prop) → Prop) (Q : Int → e_M → Prop) (M : e_M) : Prop :=
  ((0 ≤ (0 : Int) ∧ (0 : Int) < 8) ∧ (c_X10_isOfAge ((M 4423 0).toNat) (M 4425 ((0 : Int).toNat)) M (fun r1 => ((r1 = 0 → ((0 ≤ (1 : Int) ∧ (1 : Int) < 8) ∧ (c_X10_isOfAge ((M 4423 0).toNat) (M 4425 ((1 : Int).toNat)) M (fun r2 => ((¬ r2 = 0 → ((0 ≤ (0 : Int) ∧ (0 : Int) < 8) ∧ (c_X10_at ((M 4423 0).toNat) 1 (M 4425 ((0 : Int).toNat)) M (fun r3 => ((0 ≤ (1 : Int) ∧ (1 : Int) < 8) ∧ (∀ M4 : e_M, M4 = e_up M r3 5 (M 4425 ((1 : Int).toNat)) → (Q 0 M4))))))) ∧ (r2 = 0 → (Q 2 M))))))) ∧ (¬ r1 = 0 → (Q 9 M))))))
def yX0_guard (i : Nat) : e_Y := x_get YX0_guard [YX10_isOfAge, YX10_at] i
def pX0_guardf : List x_I := [(0, 4, 1, 0, 0, 0, []), (1, 25, 0, 0, 4, 0, [(0, 10, 15), (0, 0, 0)]), (4, 4, 1, 0, 0, 0, []), (5, 25, 0, 4, 4, 0, [(0, 20, 8), (0, 1, 2)]), (8, 0, 1, 0, 0, 0, []), (9, 27, 0, 0, 0, 0, []), (10, 40, 0, 2, 12, 0, []), (13, 17, 19, 0, 11, 0, []), (16, 0, 2, 0, 0, 9, []), (18, 41, 0, 0, 0, 0, []), (19, 4, 1, 0, 0, 0, []), (20, 25, 0, 0, 4, 0, [(0, 10, 15), (0, 0, 0)]), (23, 4, 1, 0, 0, 0, []), (24, 25, 0, 4, 4, 0, [(0, 20, 8), (0, 1, 2)]), (27, 0, 1, 0, 0, 1, []), (28, 27, 0, 0, 0, 0, []), (29, 40, 0, 2, 12, 0, []), (32, 17, 37, 1, 21, 0, []), (35, 0, 1, 0, 0, 2, []), (36, 41, 0, 0, 0, 0, []), (37, 4, 1, 0, 0, 0, []), (38, 25, 0, 0, 4, 0, [(0, 10, 15), (0, 0, 0)]), (41, 0, 1, 0, 0, 1, []), (42, 4, 1, 0, 0, 0, []), (43, 25, 0, 4, 4, 0, [(0, 20, 8), (0, 1, 2)]), (46, 0, 1, 0, 0, 0, []), (47, 27, 0, 0, 0, 0, []), (48, 40, 1, 3, 12, 0, []), (51, 4, 1, 0, 0, 0, []), (52, 25, 0, 4, 4, 0, [(0, 20, 8), (0, 1, 2)]), (55, 0, 1, 0, 0, 1, []), (56, 27, 0, 0, 0, 0, []), (57, 26, 9, 5, 0, 0, []), (60, 0, 1, 0, 0, 0, []), (61, 41, 0, 0, 0, 0, [])]
set_option maxRecDepth 20000 in
theorem qX0_guardf : f_all yX0_guard YX0_guard pX0_guardf :=
  ⟨f_aload_n (n := 0) (e_dx DX0_guard_0 0 rfl) rfl,
  f_getA (e_dx DX0_guard_0 1 rfl) fX0_36 rfl (by decide) (Nat.le_of_ble_eq_true rfl) rfl (by decide),
  f_aload_n (n := 0) (e_dx DX0_guard_0 2 rfl) rfl,
  f_getA (e_dx DX0_guard_0 3 rfl) fX0_19 rfl (by decide) (Nat.le_of_ble_eq_true rfl) rfl (by decide),
  f_iconst (e_dx DX0_guard_0 4 rfl) ⟨by decide, by decide⟩,
  f_iaload (e_dx DX0_guard_0 5 rfl),
  x_callV (e_dx DX0_guard_0 6 rfl) mwX10_isOfAge vwX10_isOfAge cX0_214 rfl,
  f_if_eq (e_dx DX0_guard_0 7 rfl) rfl,
  f_bipush (e_dx DX0_guard_0 8 rfl) ⟨by decide, by decide⟩,
  ⟨(e_dx DX0_guard_0 9 rfl), rfl⟩,
  f_aload_n (n := 0) (e_dx DX0_guard_0 10 rfl) rfl,
  f_getA (e_dx DX0_guard_0 11 rfl) fX0_36 rfl (by decide) (Nat.le_of_ble_eq_true rfl) rfl (by decide),
  f_aload_n (n := 0) (e_dx DX0_guard_0 12 rfl) rfl,
  f_getA (e_dx DX0_guard_0 13 rfl) fX0_19 rfl (by decide) (Nat.le_of_ble_eq_true rfl) rfl (by decide),
  f_iconst (e_dx DX0_guard_0 14 rfl) ⟨by decide, by decide⟩,
  f_iaload (e_dx DX0_guard_0 15 rfl),
  x_callV (e_dx DX0_guard_0 16 rfl) mwX10_isOfAge vwX10_isOfAge cX0_214 rfl,
  f_if_ne (e_dx DX0_guard_0 17 rfl) rfl,
  f_iconst (e_dx DX0_guard_0 18 rfl) ⟨by decide, by decide⟩,
  ⟨(e_dx DX0_guard_0 19 rfl), rfl⟩,
  f_aload_n (n := 0) (e_dx DX0_guard_0 20 rfl) rfl,
  f_getA (e_dx DX0_guard_0 21 rfl) fX0_36 rfl (by decide) (Nat.le_of_ble_eq_true rfl) rfl (by decide),
  f_iconst (e_dx DX0_guard_0 22 rfl) ⟨by decide, by decide⟩,
  f_aload_n (n := 0) (e_dx DX0_guard_0 23 rfl) rfl,
  f_getA (e_dx DX0_guard_0 24 rfl) fX0_19 rfl (by decide) (Nat.le_of_ble_eq_true rfl) rfl (by decide),
  f_iconst (e_dx DX0_guard_0 25 rfl) ⟨by decide, by decide⟩,
  f_iaload (e_dx DX0_guard_0 26 rfl),
  x_callV (e_dx DX0_guard_0 27 rfl) mwX10_at vwX10_at cX0_152 rfl,
  f_aload_n (n := 0) (e_dx DX0_guard_0 28 rfl) rfl,
  f_getA (e_dx DX0_guard_0 29 rfl) fX0_19 rfl (by decide) (Nat.le_of_ble_eq_true rfl) rfl (by decide),
  f_iconst (e_dx DX0_guard_0 30 rfl) ⟨by decide, by decide⟩,
  f_iaload (e_dx DX0_guard_0 31 rfl),
  f_putn (e_dx DX0_guard_0 32 rfl) fX0_188 (fun q hq => by cases hq; rfl) rfl (Or.inl rfl) (by decide),
  f_iconst (e_dx DX0_guard_0 33 rfl) ⟨by decide, by decide⟩,
  ⟨(e_dx DX0_guard_0 34 rfl), rfl⟩, trivial⟩
def lX0_guard (c_X10_isOfAge : Nat → Int → e_M → (Int → Prop) → Prop) (c_X10_at : Nat → Int → Int → e_M → (Nat → Prop) → Prop) : List (Nat × f_Wt) := [(0, f_wm [(3, 10, 15), (1, 0, 0)] (fun ar M R => c_X10_isOfAge (f_va (f_nth ar 0)) (f_vi (f_nth ar 1)) M (fun r => R (some (.inl r)) M))), (1, f_wm [(3, 10, 15), (1, 0, 0), (1, 0, 0)] (fun ar M R => c_X10_at (f_va (f_nth ar 0)) (f_vi (f_nth ar 1)) (f_vi (f_nth ar 2)) M (fun r => R (some (.inr (.inr (.inl (9, 14, r))))) M)))]
set_option maxRecDepth 20000 in
theorem BX0_guard {sh : Nat → Nat × Nat} {t : Nat} {rm : Nat × Nat × Nat} {cs : Nat × Nat} {R : f_Rt} {c_X10_isOfAge : Nat → Int → e_M → (Int → Prop) → Prop} {c_X10_at : Nat → Int → Int → e_M → (Nat → Prop) → Prop} {M : e_M} (C : f_Hy sh t yX0_guard rm cs 6 (lX0_guard c_X10_isOfAge c_X10_at) R) (h : VX0_guard c_X10_isOfAge c_X10_at (fun r M => R (some (.inl r)) M) M) : f_E sh t YX0_guard rm cs (f_Q sh t R) 0 [.inr (.inr (.inl (0, 7, 4423)))] [] M :=
  f_go (KC := f_kc []) C qX0_guardf f_kc_nil 37 0 h
def WX0_guard (M : e_M) (Q : Int → e_M → Prop) : Prop :=
  VX0_guard WX10_isOfAge WX10_at Q M
theorem PX0_guard {sh : Nat → Nat × Nat} {t : Nat} {rm : Nat × Nat × Nat} {cs : Nat × Nat} {R : f_Rt} {M : e_M} (C : f_Hy sh t yX0_guard rm cs 6 (lX0_guard WX10_isOfAge WX10_at) R) (h : WX0_guard M (fun r M => R (some (.inl r)) M)) : f_E sh t YX0_guard rm cs (f_Q sh t R) 0 [.inr (.inr (.inl (0, 7, 4423)))] [] M :=
  BX0_guard C h
def wX0_guard : f_Wt := f_wm [(4433, 0, 7)] (fun ar M R => WX0_guard M (fun r M => R (some (.inl r)) M))
theorem TX0_guard {sh : Nat → Nat × Nat} {t : Nat} : f_Mt sh t YX0_guard 6 (wX0_guard) :=
  f_Mt_of (k := 0) (Nat.le_of_ble_eq_true rfl) rfl rfl (fun ar M R rm cs h1 h2 h3 hX h => PX0_guard ⟨Nat.le_of_ble_eq_true rfl, h1, h2, h3, ⟨(f_Mt.up (Nat.le_of_ble_eq_true rfl) TX10_isOfAge), (f_Mt.up (Nat.le_of_ble_eq_true rfl) TX10_at), trivial⟩, hX⟩ h)
def VX0_arePartsMixed_2 (k28 : Int → Int → Int → Int → Prop) (Q : Int → Prop) (x1 : Int) (x2 : Int) (x3 : Int) (M : e_M) : Prop :=
  (((M ((M 4423 1).toNat) 7) ≤ x3 → (Q 0)) ∧ (x3 < (M ((M 4423 1).toNat) 7) → ((0 ≤ x3 ∧ x3 < 8) ∧ ((¬ (M 4425 (x3.toNat)) = x2 → (k28 x1 x2 x3 x1)) ∧ ((M 4425 (x3.toNat)) = x2 → (Q 1))))))
def VX0_arePartsMixed_28 (k2 : Int → Int → Int → Prop) (k28 : Int → Int → Int → Int → Prop) (Q : Int → Prop) (x1 : Int) (x2 : Int) (x3 : Int) (x4 : Int) (M : e_M) : Prop :=
  ((x3 ≤ x4 → (k2 x1 x2 (e_w32 (x3 + 1)))) ∧ (x4 < x3 → ((0 ≤ x3 ∧ x3 < 8) ∧ ((0 ≤ x4 ∧ x4 < 8) ∧ ((¬ (M 4425 (x3.toNat)) = (M 4425 (x4.toNat)) → (k28 x1 x2 x3 (e_w32 (x4 + 1)))) ∧ ((M 4425 (x3.toNat)) = (M 4425 (x4.toNat)) → (Q 1)))))))
def VX0_arePartsMixed (k2 : Int → Int → Int → Prop) (Q : Int → Prop) (x1 : Int) (x2 : Int) (M : e_M) : Prop :=
  (k2 x1 x2 x1)
def yX0_arePartsMixed (i : Nat) : e_Y := x_get YX0_arePartsMixed [] i
def pX0_arePartsMixedf : List x_I := [(0, 2, 1, 1, 0, 0, []), (1, 5, 1, 3, 0, 0, []), (2, 49, 0, 0, 0, 0, []), (2, 2, 1, 3, 0, 0, []), (3, 4, 1, 0, 0, 0, []), (4, 25, 0, 1, 4, 0, [(0, 2, 19), (0, 0, 0)]), (7, 25, 2, 7, 0, 0, []), (10, 18, 64, 3, 38, 0, []), (13, 4, 1, 0, 0, 0, []), (14, 25, 0, 4, 4, 0, [(0, 20, 8), (0, 1, 2)]), (17, 2, 1, 3, 0, 0, []), (18, 27, 0, 0, 0, 0, []), (19, 2, 1, 2, 0, 0, []), (20, 18, 25, 1, 17, 0, []), (23, 0, 1, 0, 0, 1, []), (24, 48, 0, 0, 0, 0, []), (25, 2, 1, 1, 0, 0, []), (26, 5, 2, 4, 0, 0, []), (28, 49, 0, 0, 0, 0, []), (28, 2, 2, 4, 0, 0, []), (30, 2, 1, 3, 0, 0, []), (31, 18, 58, 3, 36, 0, []), (34, 4, 1, 0, 0, 0, []), (35, 25, 0, 4, 4, 0, [(0, 20, 8), (0, 1, 2)]), (38, 2, 1, 3, 0, 0, []), (39, 27, 0, 0, 0, 0, []), (40, 4, 1, 0, 0, 0, []), (41, 25, 0, 4, 4, 0, [(0, 20, 8), (0, 1, 2)]), (44, 2, 2, 4, 0, 0, []), (46, 27, 0, 0, 0, 0, []), (47, 18, 52, 1, 34, 0, []), (50, 0, 1, 0, 0, 1, []), (51, 48, 0, 0, 0, 0, []), (52, 8, 0, 4, 0, 1, []), (55, 19, 28, 0, 19, 0, []), (58, 8, 0, 3, 0, 1, []), (61, 19, 2, 0, 3, 0, []), (64, 0, 1, 0, 0, 0, []), (65, 48, 0, 0, 0, 0, [])]
set_option maxRecDepth 20000 in
theorem qX0_arePartsMixedf : f_all yX0_arePartsMixed YX0_arePartsMixed pX0_arePartsMixedf :=
  ⟨f_iload_n (n := 1) (e_dx DX0_arePartsMixed_0 0 rfl) rfl,
  f_istore_n (n := 3) (e_dx DX0_arePartsMixed_0 1 rfl) rfl (by decide),
  trivial,
  f_iload_n (n := 3) (e_dx DX0_arePartsMixed_0 2 rfl) rfl,
  f_aload_n (n := 0) (e_dx DX0_arePartsMixed_0 3 rfl) rfl,
  f_getA (e_dx DX0_arePartsMixed_0 4 rfl) fX0_40 rfl (by decide) (Nat.le_of_ble_eq_true rfl) rfl (by decide),
  f_getf (e_dx DX0_arePartsMixed_0 5 rfl) fX0_126 rfl (by decide) (by decide) (by decide),
  f_icmp_ge (e_dx DX0_arePartsMixed_0 6 rfl) rfl,
  f_aload_n (n := 0) (e_dx DX0_arePartsMixed_0 7 rfl) rfl,
  f_getA (e_dx DX0_arePartsMixed_0 8 rfl) fX0_19 rfl (by decide) (Nat.le_of_ble_eq_true rfl) rfl (by decide),
  f_iload_n (n := 3) (e_dx DX0_arePartsMixed_0 9 rfl) rfl,
  f_iaload (e_dx DX0_arePartsMixed_0 10 rfl),
  f_iload_n (n := 2) (e_dx DX0_arePartsMixed_0 11 rfl) rfl,
  f_icmp_ne (e_dx DX0_arePartsMixed_0 12 rfl) rfl,
  f_iconst (e_dx DX0_arePartsMixed_0 13 rfl) ⟨by decide, by decide⟩,
  ⟨(e_dx DX0_arePartsMixed_0 14 rfl), rfl⟩,
  f_iload_n (n := 1) (e_dx DX0_arePartsMixed_0 15 rfl) rfl,
  f_istore (e_dx DX0_arePartsMixed_0 16 rfl) (by decide),
  trivial,
  f_iload (e_dx DX0_arePartsMixed_0 17 rfl),
  f_iload_n (n := 3) (e_dx DX0_arePartsMixed_0 18 rfl) rfl,
  f_icmp_ge (e_dx DX0_arePartsMixed_0 19 rfl) rfl,
  f_aload_n (n := 0) (e_dx DX0_arePartsMixed_0 20 rfl) rfl,
  f_getA (e_dx DX0_arePartsMixed_0 21 rfl) fX0_19 rfl (by decide) (Nat.le_of_ble_eq_true rfl) rfl (by decide),
  f_iload_n (n := 3) (e_dx DX0_arePartsMixed_0 22 rfl) rfl,
  f_iaload (e_dx DX0_arePartsMixed_0 23 rfl),
  f_aload_n (n := 0) (e_dx DX0_arePartsMixed_0 24 rfl) rfl,
  f_getA (e_dx DX0_arePartsMixed_0 25 rfl) fX0_19 rfl (by decide) (Nat.le_of_ble_eq_true rfl) rfl (by decide),
  f_iload (e_dx DX0_arePartsMixed_0 26 rfl),
  f_iaload (e_dx DX0_arePartsMixed_0 27 rfl),
  f_icmp_ne (e_dx DX0_arePartsMixed_0 28 rfl) rfl,
  f_iconst (e_dx DX0_arePartsMixed_0 29 rfl) ⟨by decide, by decide⟩,
  ⟨(e_dx DX0_arePartsMixed_0 30 rfl), rfl⟩,
  f_g8 (e_dx DX0_arePartsMixed_0 31 rfl) ⟨by decide, by decide⟩,
  f_g19 (e_dx DX0_arePartsMixed_0 32 rfl) rfl,
  f_g8 (e_dx DX0_arePartsMixed_0 33 rfl) ⟨by decide, by decide⟩,
  f_g19 (e_dx DX0_arePartsMixed_0 34 rfl) rfl,
  f_iconst (e_dx DX0_arePartsMixed_0 35 rfl) ⟨by decide, by decide⟩,
  ⟨(e_dx DX0_arePartsMixed_0 36 rfl), rfl⟩, trivial⟩
def lX0_arePartsMixed : List (Nat × f_Wt) := []
set_option maxRecDepth 20000 in
theorem BX0_arePartsMixed_2 {sh : Nat → Nat × Nat} {t : Nat} {rm : Nat × Nat × Nat} {cs : Nat × Nat} {R : f_Rt} {k28 : Int → Int → Int → Int → Prop} {x1 : Int} {x2 : Int} {x3 : Int} {M : e_M} (C : f_Hy sh t yX0_arePartsMixed rm cs 4 (lX0_arePartsMixed) R) (h28 : ∀ (x1 : Int) (x2 : Int) (x3 : Int) (x4 : Int), k28 x1 x2 x3 x4 → f_E sh t YX0_arePartsMixed rm cs (f_Q sh t R) 28 [.inr (.inr (.inl (0, 7, 4423))), .inl x1, .inl x2, .inl x3, .inl x4] [] M) (h : VX0_arePartsMixed_2 k28 (fun r => R (some (.inl r)) M) x1 x2 x3 M) : f_E sh t YX0_arePartsMixed rm cs (f_Q sh t R) 2 [.inr (.inr (.inl (0, 7, 4423))), .inl x1, .inl x2, .inl x3, .inr (.inr (.inr ()))] [] M := by
  rw [f_kk4 M k28] at h
  exact f_go (KC := f_kc [(28, f_pl [(4433, 0, 7), (1, 0, 0), (1, 0, 0), (1, 0, 0), (1, 0, 0)] [] (fun ls st M2 => M2 = M ∧ (k28 (f_vi (f_nth ls 1)) (f_vi (f_nth ls 2)) (f_vi (f_nth ls 3)) (f_vi (f_nth ls 4)))))]) C qX0_arePartsMixedf (f_kc_cons (f_pl_ok rfl (fun ls st M2 ⟨e, hh⟩ => by subst e; exact h28 _ _ _ _ hh)) f_kc_nil) 41 3 h
set_option maxRecDepth 20000 in
theorem BX0_arePartsMixed_28 {sh : Nat → Nat × Nat} {t : Nat} {rm : Nat × Nat × Nat} {cs : Nat × Nat} {R : f_Rt} {k2 : Int → Int → Int → Prop} {k28 : Int → Int → Int → Int → Prop} {x1 : Int} {x2 : Int} {x3 : Int} {x4 : Int} {M : e_M} (C : f_Hy sh t yX0_arePartsMixed rm cs 4 (lX0_arePartsMixed) R) (h2 : ∀ (x1 : Int) (x2 : Int) (x3 : Int), k2 x1 x2 x3 → f_E sh t YX0_arePartsMixed rm cs (f_Q sh t R) 2 [.inr (.inr (.inl (0, 7, 4423))), .inl x1, .inl x2, .inl x3, .inr (.inr (.inr ()))] [] M) (h28 : ∀ (x1 : Int) (x2 : Int) (x3 : Int) (x4 : Int), k28 x1 x2 x3 x4 → f_E sh t YX0_arePartsMixed rm cs (f_Q sh t R) 28 [.inr (.inr (.inl (0, 7, 4423))), .inl x1, .inl x2, .inl x3, .inl x4] [] M) (h : VX0_arePartsMixed_28 k2 k28 (fun r => R (some (.inl r)) M) x1 x2 x3 x4 M) : f_E sh t YX0_arePartsMixed rm cs (f_Q sh t R) 28 [.inr (.inr (.inl (0, 7, 4423))), .inl x1, .inl x2, .inl x3, .inl x4] [] M := by
  rw [f_kk3 M k2] at h
  rw [f_kk4 M k28] at h
  exact f_go (KC := f_kc [(2, f_pl [(4433, 0, 7), (1, 0, 0), (1, 0, 0), (1, 0, 0), (0, 0, 0)] [] (fun ls st M2 => M2 = M ∧ (k2 (f_vi (f_nth ls 1)) (f_vi (f_nth ls 2)) (f_vi (f_nth ls 3))))), (28, f_pl [(4433, 0, 7), (1, 0, 0), (1, 0, 0), (1, 0, 0), (1, 0, 0)] [] (fun ls st M2 => M2 = M ∧ (k28 (f_vi (f_nth ls 1)) (f_vi (f_nth ls 2)) (f_vi (f_nth ls 3)) (f_vi (f_nth ls 4)))))]) C qX0_arePartsMixedf (f_kc_cons (f_pl_ok rfl (fun ls st M2 ⟨e, hh⟩ => by subst e; exact h2 _ _ _ hh)) (f_kc_cons (f_pl_ok rfl (fun ls st M2 ⟨e, hh⟩ => by subst e; exact h28 _ _ _ _ hh)) f_kc_nil)) 41 19 h
set_option maxRecDepth 20000 in
theorem BX0_arePartsMixed {sh : Nat → Nat × Nat} {t : Nat} {rm : Nat × Nat × Nat} {cs : Nat × Nat} {R : f_Rt} {k2 : Int → Int → Int → Prop} {x1 : Int} {x2 : Int} {M : e_M} (C : f_Hy sh t yX0_arePartsMixed rm cs 4 (lX0_arePartsMixed) R) (h2 : ∀ (x1 : Int) (x2 : Int) (x3 : Int), k2 x1 x2 x3 → f_E sh t YX0_arePartsMixed rm cs (f_Q sh t R) 2 [.inr (.inr (.inl (0, 7, 4423))), .inl x1, .inl x2, .inl x3, .inr (.inr (.inr ()))] [] M) (h : VX0_arePartsMixed k2 (fun r => R (some (.inl r)) M) x1 x2 M) : f_E sh t YX0_arePartsMixed rm cs (f_Q sh t R) 0 [.inr (.inr (.inl (0, 7, 4423))), .inl x1, .inl x2, .inr (.inr (.inr ())), .inr (.inr (.inr ()))] [] M := by
  rw [f_kk3 M k2] at h
  exact f_go (KC := f_kc [(2, f_pl [(4433, 0, 7), (1, 0, 0), (1, 0, 0), (1, 0, 0), (0, 0, 0)] [] (fun ls st M2 => M2 = M ∧ (k2 (f_vi (f_nth ls 1)) (f_vi (f_nth ls 2)) (f_vi (f_nth ls 3)))))]) C qX0_arePartsMixedf (f_kc_cons (f_pl_ok rfl (fun ls st M2 ⟨e, hh⟩ => by subst e; exact h2 _ _ _ hh)) f_kc_nil) 41 0 h
def WX0_arePartsMixed_28 (M : e_M) (H2 : Int → Int → Int → Prop) (Q : Int → Prop) : Nat → Int → Int → Int → Int → Prop
  | 0, _, _, _, _ => False
  | n + 1, x1, x2, x3, x4 =>
    VX0_arePartsMixed_28 H2 (WX0_arePartsMixed_28 M H2 Q n) Q x1 x2 x3 x4 M
def WX0_arePartsMixed_2 (M : e_M) (Q : Int → Prop) : Nat → Int → Int → Int → Prop
  | 0, _, _, _ => False
  | n + 1, x1, x2, x3 =>
    VX0_arePartsMixed_2 (fun x1 x2 x3 x4 => ∃ j, WX0_arePartsMixed_28 M (WX0_arePartsMixed_2 M Q n) Q j x1 x2 x3 x4) Q x1 x2 x3 M
def WX0_arePartsMixed (x1 : Int) (x2 : Int) (M : e_M) (Q : Int → Prop) : Prop :=
  VX0_arePartsMixed (fun x1 x2 x3 => ∃ j, WX0_arePartsMixed_2 M Q j x1 x2 x3) Q x1 x2 M
theorem PX0_arePartsMixed_28 {sh : Nat → Nat × Nat} {t : Nat} {rm : Nat × Nat × Nat} {cs : Nat × Nat} {R : f_Rt} {H2 : Int → Int → Int → Prop} {M : e_M} (C : f_Hy sh t yX0_arePartsMixed rm cs 4 (lX0_arePartsMixed) R) (g2 : ∀ (x1 : Int) (x2 : Int) (x3 : Int), H2 x1 x2 x3 → f_E sh t YX0_arePartsMixed rm cs (f_Q sh t R) 2 [.inr (.inr (.inl (0, 7, 4423))), .inl x1, .inl x2, .inl x3, .inr (.inr (.inr ()))] [] M) : ∀ (n : Nat) (x1 : Int) (x2 : Int) (x3 : Int) (x4 : Int), WX0_arePartsMixed_28 M H2 (fun r => R (some (.inl r)) M) n x1 x2 x3 x4 → f_E sh t YX0_arePartsMixed rm cs (f_Q sh t R) 28 [.inr (.inr (.inl (0, 7, 4423))), .inl x1, .inl x2, .inl x3, .inl x4] [] M := by
  intro n
  induction n with
  | zero => intro x1 x2 x3 x4 h; exact h.elim
  | succ n ih => intro x1 x2 x3 x4 h; exact BX0_arePartsMixed_28 C g2 ih h
theorem PX0_arePartsMixed_2 {sh : Nat → Nat × Nat} {t : Nat} {rm : Nat × Nat × Nat} {cs : Nat × Nat} {R : f_Rt} {M : e_M} (C : f_Hy sh t yX0_arePartsMixed rm cs 4 (lX0_arePartsMixed) R) : ∀ (n : Nat) (x1 : Int) (x2 : Int) (x3 : Int), WX0_arePartsMixed_2 M (fun r => R (some (.inl r)) M) n x1 x2 x3 → f_E sh t YX0_arePartsMixed rm cs (f_Q sh t R) 2 [.inr (.inr (.inl (0, 7, 4423))), .inl x1, .inl x2, .inl x3, .inr (.inr (.inr ()))] [] M := by
  intro n
  induction n with
  | zero => intro x1 x2 x3 h; exact h.elim
  | succ n ih => intro x1 x2 x3 h; exact BX0_arePartsMixed_2 C (fun x1 x2 x3 x4 ⟨j, h⟩ => PX0_arePartsMixed_28 C ih j _ _ _ _ h) h
theorem PX0_arePartsMixed {sh : Nat → Nat × Nat} {t : Nat} {rm : Nat × Nat × Nat} {cs : Nat × Nat} {R : f_Rt} {x1 : Int} {x2 : Int} {M : e_M} (C : f_Hy sh t yX0_arePartsMixed rm cs 4 (lX0_arePartsMixed) R) (h : WX0_arePartsMixed x1 x2 M (fun r => R (some (.inl r)) M)) : f_E sh t YX0_arePartsMixed rm cs (f_Q sh t R) 0 [.inr (.inr (.inl (0, 7, 4423))), .inl x1, .inl x2, .inr (.inr (.inr ())), .inr (.inr (.inr ()))] [] M :=
  BX0_arePartsMixed C (fun x1 x2 x3 ⟨j, h⟩ => PX0_arePartsMixed_2 C j _ _ _ h) h
def wX0_arePartsMixed : f_Wt := f_wm [(4433, 0, 7), (1, 0, 0), (1, 0, 0)] (fun ar M R => WX0_arePartsMixed (f_vi (f_nth ar 1)) (f_vi (f_nth ar 2)) M (fun r => R (some (.inl r)) M))
theorem TX0_arePartsMixed {sh : Nat → Nat × Nat} {t : Nat} : f_Mt sh t YX0_arePartsMixed 4 (wX0_arePartsMixed) :=
  f_Mt_of (k := 2) (Nat.le_of_ble_eq_true rfl) rfl rfl (fun ar M R rm cs h1 h2 h3 hX h => PX0_arePartsMixed ⟨Nat.le_of_ble_eq_true rfl, h1, h2, h3, trivial, hX⟩ h)
def VX11_commonDivisor_3 (k33 : Int → Prop) (k3 : Int → Int → Int → Prop) (Q : Int → Prop) (x0 : Int) (x2 : Int) (x4 : Int) (M : e_M) : Prop :=
  ((200 ≤ x4 → (k33 x0)) ∧ (x4 < 200 → ((x2 = 0 → (k33 x0)) ∧ (¬ x2 = 0 → (¬ x2 = 0 ∧ (k3 x2 (x0.tmod x2) (e_w32 (x4 + 1))))))))
def VX11_commonDivisor_33 (Q : Int → Prop) (x0 : Int) (M : e_M) : Prop :=
  ((¬ x0 = 0 → (Q x0)) ∧ (x0 = 0 → (Q 1)))
def VX11_commonDivisor (k3 : Int → Int → Int → Prop) (Q : Int → Prop) (x0 : Int) (x2 : Int) (M : e_M) : Prop :=
  (k3 x0 x2 0)
def yX11_commonDivisor (i : Nat) : e_Y := x_get YX11_commonDivisor [] i
def pX11_commonDivisorf : List x_I := [(0, 0, 1, 0, 0, 0, []), (1, 5, 2, 4, 0, 0, []), (3, 49, 0, 0, 0, 0, []), (3, 2, 2, 4, 0, 0, []), (5, 0, 3, 0, 0, 200, []), (8, 18, 33, 3, 20, 0, []), (11, 3, 1, 2, 0, 0, []), (12, 1, 1, 0, 0, 0, []), (13, 32, 33, 0, 20, 0, []), (17, 3, 1, 0, 0, 0, []), (18, 3, 1, 2, 0, 0, []), (19, 10, 0, 4, 0, 0, []), (20, 6, 2, 5, 0, 0, []), (22, 3, 1, 2, 0, 0, []), (23, 6, 1, 0, 0, 0, []), (24, 3, 2, 5, 0, 0, []), (26, 6, 1, 2, 0, 0, []), (27, 8, 0, 4, 0, 1, []), (30, 19, 3, 0, 3, 0, []), (33, 49, 0, 0, 0, 0, []), (33, 3, 1, 0, 0, 0, []), (34, 1, 1, 0, 0, 0, []), (35, 32, 43, 1, 26, 0, []), (39, 1, 1, 0, 0, 1, []), (40, 19, 44, 0, 27, 0, []), (43, 3, 1, 0, 0, 0, []), (44, 43, 0, 0, 0, 0, [])]
set_option maxRecDepth 20000 in
theorem qX11_commonDivisorf : f_all yX11_commonDivisor YX11_commonDivisor pX11_commonDivisorf :=
  ⟨f_iconst (e_dx DX11_commonDivisor_0 0 rfl) ⟨by decide, by decide⟩,
  f_istore (e_dx DX11_commonDivisor_0 1 rfl) (by decide),
  trivial,
  f_iload (e_dx DX11_commonDivisor_0 2 rfl),
  f_sipush (e_dx DX11_commonDivisor_0 3 rfl) ⟨by decide, by decide⟩,
  f_icmp_ge (e_dx DX11_commonDivisor_0 4 rfl) rfl,
  f_lload_n (n := 2) (e_dx DX11_commonDivisor_0 5 rfl) rfl,
  f_lconst (n := 0) (e_dx DX11_commonDivisor_0 6 rfl) rfl,
  f_lif_eq (e_dx DX11_commonDivisor_0 7 rfl) (e_dx DX11_commonDivisor_0 8 rfl) rfl,
  f_lload_n (n := 0) (e_dx DX11_commonDivisor_0 9 rfl) rfl,
  f_lload_n (n := 2) (e_dx DX11_commonDivisor_0 10 rfl) rfl,
  f_lrem (e_dx DX11_commonDivisor_0 11 rfl),
  f_lstore (e_dx DX11_commonDivisor_0 12 rfl) (by decide),
  f_lload_n (n := 2) (e_dx DX11_commonDivisor_0 13 rfl) rfl,
  f_lstore_n (n := 0) (e_dx DX11_commonDivisor_0 14 rfl) rfl (by decide),
  f_lload (e_dx DX11_commonDivisor_0 15 rfl),
  f_lstore_n (n := 2) (e_dx DX11_commonDivisor_0 16 rfl) rfl (by decide),
  f_g8 (e_dx DX11_commonDivisor_0 17 rfl) ⟨by decide, by decide⟩,
  f_g19 (e_dx DX11_commonDivisor_0 18 rfl) rfl,
  trivial,
  f_lload_n (n := 0) (e_dx DX11_commonDivisor_0 19 rfl) rfl,
  f_lconst (n := 0) (e_dx DX11_commonDivisor_0 20 rfl) rfl,
  f_lif_ne (e_dx DX11_commonDivisor_0 21 rfl) (e_dx DX11_commonDivisor_0 22 rfl) rfl,
  f_lconst (n := 1) (e_dx DX11_commonDivisor_0 23 rfl) rfl,
  f_g19 (e_dx DX11_commonDivisor_0 24 rfl) rfl,
  f_lload_n (n := 0) (e_dx DX11_commonDivisor_0 25 rfl) rfl,
  ⟨(e_dx DX11_commonDivisor_0 26 rfl), rfl⟩, trivial⟩
def lX11_commonDivisor : List (Nat × f_Wt) := []
set_option maxRecDepth 20000 in
theorem BX11_commonDivisor_3 {sh : Nat → Nat × Nat} {t : Nat} {rm : Nat × Nat × Nat} {cs : Nat × Nat} {R : f_Rt} {k33 : Int → Prop} {k3 : Int → Int → Int → Prop} {x0 : Int} {x2 : Int} {x4 : Int} {M : e_M} (C : f_Hy sh t yX11_commonDivisor rm cs 4 (lX11_commonDivisor) R) (h33 : ∀ (x0 : Int), k33 x0 → f_E sh t YX11_commonDivisor rm cs (f_Q sh t R) 33 [.inr (.inl x0), .inr (.inr (.inr ())), .inr (.inr (.inr ())), .inr (.inr (.inr ())), .inr (.inr (.inr ())), .inr (.inr (.inr ())), .inr (.inr (.inr ()))] [] M) (h3 : ∀ (x0 : Int) (x2 : Int) (x4 : Int), k3 x0 x2 x4 → f_E sh t YX11_commonDivisor rm cs (f_Q sh t R) 3 [.inr (.inl x0), .inr (.inr (.inr ())), .inr (.inl x2), .inr (.inr (.inr ())), .inl x4, .inr (.inr (.inr ())), .inr (.inr (.inr ()))] [] M) (h : VX11_commonDivisor_3 k33 k3 (fun r => R (some (.inr (.inl r))) M) x0 x2 x4 M) : f_E sh t YX11_commonDivisor rm cs (f_Q sh t R) 3 [.inr (.inl x0), .inr (.inr (.inr ())), .inr (.inl x2), .inr (.inr (.inr ())), .inl x4, .inr (.inr (.inr ())), .inr (.inr (.inr ()))] [] M := by
  rw [f_kk1 M k33] at h
  rw [f_kk3 M k3] at h
  exact f_go (KC := f_kc [(33, f_pl [(2, 0, 0), (0, 0, 0), (0, 0, 0), (0, 0, 0), (0, 0, 0), (0, 0, 0), (0, 0, 0)] [] (fun ls st M2 => M2 = M ∧ (k33 (f_vi (f_nth ls 0))))), (3, f_pl [(2, 0, 0), (0, 0, 0), (2, 0, 0), (0, 0, 0), (1, 0, 0), (0, 0, 0), (0, 0, 0)] [] (fun ls st M2 => M2 = M ∧ (k3 (f_vi (f_nth ls 0)) (f_vi (f_nth ls 2)) (f_vi (f_nth ls 4)))))]) C qX11_commonDivisorf (f_kc_cons (f_pl_ok rfl (fun ls st M2 ⟨e, hh⟩ => by subst e; exact h33 _ hh)) (f_kc_cons (f_pl_ok rfl (fun ls st M2 ⟨e, hh⟩ => by subst e; exact h3 _ _ _ hh)) f_kc_nil)) 29 3 h
set_option maxRecDepth 20000 in
theorem BX11_commonDivisor_33 {sh : Nat → Nat × Nat} {t : Nat} {rm : Nat × Nat × Nat} {cs : Nat × Nat} {R : f_Rt} {x0 : Int} {M : e_M} (C : f_Hy sh t yX11_commonDivisor rm cs 4 (lX11_commonDivisor) R) (h : VX11_commonDivisor_33 (fun r => R (some (.inr (.inl r))) M) x0 M) : f_E sh t YX11_commonDivisor rm cs (f_Q sh t R) 33 [.inr (.inl x0), .inr (.inr (.inr ())), .inr (.inr (.inr ())), .inr (.inr (.inr ())), .inr (.inr (.inr ())), .inr (.inr (.inr ())), .inr (.inr (.inr ()))] [] M :=
  f_go (KC := f_kc []) C qX11_commonDivisorf f_kc_nil 29 20 h
set_option maxRecDepth 20000 in
theorem BX11_commonDivisor {sh : Nat → Nat × Nat} {t : Nat} {rm : Nat × Nat × Nat} {cs : Nat × Nat} {R : f_Rt} {k3 : Int → Int → Int → Prop} {x0 : Int} {x2 : Int} {M : e_M} (C : f_Hy sh t yX11_commonDivisor rm cs 4 (lX11_commonDivisor) R) (h3 : ∀ (x0 : Int) (x2 : Int) (x4 : Int), k3 x0 x2 x4 → f_E sh t YX11_commonDivisor rm cs (f_Q sh t R) 3 [.inr (.inl x0), .inr (.inr (.inr ())), .inr (.inl x2), .inr (.inr (.inr ())), .inl x4, .inr (.inr (.inr ())), .inr (.inr (.inr ()))] [] M) (h : VX11_commonDivisor k3 (fun r => R (some (.inr (.inl r))) M) x0 x2 M) : f_E sh t YX11_commonDivisor rm cs (f_Q sh t R) 0 [.inr (.inl x0), .inr (.inr (.inr ())), .inr (.inl x2), .inr (.inr (.inr ())), .inr (.inr (.inr ())), .inr (.inr (.inr ())), .inr (.inr (.inr ()))] [] M := by
  rw [f_kk3 M k3] at h
  exact f_go (KC := f_kc [(3, f_pl [(2, 0, 0), (0, 0, 0), (2, 0, 0), (0, 0, 0), (1, 0, 0), (0, 0, 0), (0, 0, 0)] [] (fun ls st M2 => M2 = M ∧ (k3 (f_vi (f_nth ls 0)) (f_vi (f_nth ls 2)) (f_vi (f_nth ls 4)))))]) C qX11_commonDivisorf (f_kc_cons (f_pl_ok rfl (fun ls st M2 ⟨e, hh⟩ => by subst e; exact h3 _ _ _ hh)) f_kc_nil) 29 0 h
def WX11_commonDivisor_33 (M : e_M) (Q : Int → Prop) (x0 : Int) : Prop :=
  VX11_commonDivisor_33 Q x0 M
def WX11_commonDivisor_3 (M : e_M) (Q : Int → Prop) : Nat → Int → Int → Int → Prop
  | 0, _, _, _ => False
  | n + 1, x0, x2, x4 =>
    VX11_commonDivisor_3 (WX11_commonDivisor_33 M Q) (WX11_commonDivisor_3 M Q n) Q x0 x2 x4 M
def WX11_commonDivisor (x0 : Int) (x2 : Int) (M : e_M) (Q : Int → Prop) : Prop :=
  VX11_commonDivisor (fun x0 x2 x4 => ∃ j, WX11_commonDivisor_3 M Q j x0 x2 x4) Q x0 x2 M
theorem PX11_commonDivisor_33 {sh : Nat → Nat × Nat} {t : Nat} {rm : Nat × Nat × Nat} {cs : Nat × Nat} {R : f_Rt} {x0 : Int} {M : e_M} (C : f_Hy sh t yX11_commonDivisor rm cs 4 (lX11_commonDivisor) R) (h : WX11_commonDivisor_33 M (fun r => R (some (.inr (.inl r))) M) x0) : f_E sh t YX11_commonDivisor rm cs (f_Q sh t R) 33 [.inr (.inl x0), .inr (.inr (.inr ())), .inr (.inr (.inr ())), .inr (.inr (.inr ())), .inr (.inr (.inr ())), .inr (.inr (.inr ())), .inr (.inr (.inr ()))] [] M :=
  BX11_commonDivisor_33 C h
theorem PX11_commonDivisor_3 {sh : Nat → Nat × Nat} {t : Nat} {rm : Nat × Nat × Nat} {cs : Nat × Nat} {R : f_Rt} {M : e_M} (C : f_Hy sh t yX11_commonDivisor rm cs 4 (lX11_commonDivisor) R) : ∀ (n : Nat) (x0 : Int) (x2 : Int) (x4 : Int), WX11_commonDivisor_3 M (fun r => R (some (.inr (.inl r))) M) n x0 x2 x4 → f_E sh t YX11_commonDivisor rm cs (f_Q sh t R) 3 [.inr (.inl x0), .inr (.inr (.inr ())), .inr (.inl x2), .inr (.inr (.inr ())), .inl x4, .inr (.inr (.inr ())), .inr (.inr (.inr ()))] [] M := by
  intro n
  induction n with
  | zero => intro x0 x2 x4 h; exact h.elim
  | succ n ih => intro x0 x2 x4 h; exact BX11_commonDivisor_3 C (fun x0 h => PX11_commonDivisor_33 C h) ih h
theorem PX11_commonDivisor {sh : Nat → Nat × Nat} {t : Nat} {rm : Nat × Nat × Nat} {cs : Nat × Nat} {R : f_Rt} {x0 : Int} {x2 : Int} {M : e_M} (C : f_Hy sh t yX11_commonDivisor rm cs 4 (lX11_commonDivisor) R) (h : WX11_commonDivisor x0 x2 M (fun r => R (some (.inr (.inl r))) M)) : f_E sh t YX11_commonDivisor rm cs (f_Q sh t R) 0 [.inr (.inl x0), .inr (.inr (.inr ())), .inr (.inl x2), .inr (.inr (.inr ())), .inr (.inr (.inr ())), .inr (.inr (.inr ())), .inr (.inr (.inr ()))] [] M :=
  BX11_commonDivisor C (fun x0 x2 x4 ⟨j, h⟩ => PX11_commonDivisor_3 C j _ _ _ h) h
def wX11_commonDivisor : f_Wt := f_wm [(2, 0, 0), (2, 0, 0)] (fun ar M R => WX11_commonDivisor (f_vi (f_nth ar 0)) (f_vi (f_nth ar 1)) M (fun r => R (some (.inr (.inl r))) M))
theorem TX11_commonDivisor {sh : Nat → Nat × Nat} {t : Nat} : f_Mt sh t YX11_commonDivisor 4 (wX11_commonDivisor) :=
  f_Mt_of (k := 3) (Nat.le_of_ble_eq_true rfl) rfl rfl (fun ar M R rm cs h1 h2 h3 hX h => PX11_commonDivisor ⟨Nat.le_of_ble_eq_true rfl, h1, h2, h3, trivial, hX⟩ h)
def VX2_isWhole_7 (c_X11_commonDivisor : Int → Int → e_M → (Int → Prop) → Prop) (k7 : Nat → Int → Int → Int → Prop) (Q : Int → Prop) (a0 : Nat) (x1 : Int) (x3 : Int) (x5 : Int) (M : e_M) : Prop :=
  (((M a0 15) ≤ x5 → ((¬ x1 = x3 → (Q 0)) ∧ (x1 = x3 → (Q 1)))) ∧ (x5 < (M a0 15) → ((0 ≤ x5 ∧ x5 < 6) ∧ ((0 ≤ x5 ∧ x5 < 6) ∧ (((M (a0 + 3) (x5.toNat)) ≤ (M (a0 + 4) (x5.toNat)) → ((0 ≤ x5 ∧ x5 < 6) ∧ ((0 ≤ x5 ∧ x5 < 6) ∧ (∀ y1 : Int, y1 = e_w64 ((e_w64 (x1 * (M (a0 + 4) (x5.toNat)))) + (e_w64 ((M (a0 + 3) (x5.toNat)) * x3))) → ((0 ≤ x5 ∧ x5 < 6) ∧ (∀ y2 : Int, y2 = e_w64 (x3 * (M (a0 + 4) (x5.toNat))) → ((y1 ≤ y2 → (c_X11_commonDivisor y1 y2 M (fun r3 => (¬ r3 = 0 ∧ (¬ r3 = 0 ∧ (k7 a0 (e_w64 (y1.tdiv r3)) (e_w64 (y2.tdiv r3)) (e_w32 (x5 + 1)))))))) ∧ (y2 < y1 → (Q 0))))))))) ∧ ((M (a0 + 4) (x5.toNat)) < (M (a0 + 3) (x5.toNat)) → (Q 0)))))))
def VX2_isWhole (c_X11_commonDivisor : Int → Int → e_M → (Int → Prop) → Prop) (k7 : Nat → Int → Int → Int → Prop) (Q : Int → Prop) (a0 : Nat) (M : e_M) : Prop :=
  (k7 a0 0 1 0)
def yX2_isWhole (i : Nat) : e_Y := x_get YX2_isWhole [YX11_commonDivisor] i
def pX2_isWholef : List x_I := [(0, 1, 1, 0, 0, 0, []), (1, 6, 1, 1, 0, 0, []), (2, 1, 1, 0, 0, 1, []), (3, 6, 1, 3, 0, 0, []), (4, 0, 1, 0, 0, 0, []), (5, 5, 2, 5, 0, 0, []), (7, 49, 0, 0, 0, 0, []), (7, 2, 2, 5, 0, 0, []), (9, 4, 1, 0, 0, 0, []), (10, 25, 2, 15, 0, 0, []), (13, 18, 97, 3, 65, 0, []), (16, 4, 1, 0, 0, 0, []), (17, 25, 2, 13, 4, 0, [(0, 23, 6), (0, 1, 3)]), (20, 2, 2, 5, 0, 0, []), (22, 27, 0, 1, 0, 0, []), (23, 4, 1, 0, 0, 0, []), (24, 25, 2, 14, 4, 0, [(0, 23, 6), (0, 1, 4)]), (27, 2, 2, 5, 0, 0, []), (29, 27, 0, 1, 0, 0, []), (30, 32, 36, 5, 23, 0, []), (34, 0, 1, 0, 0, 0, []), (35, 48, 0, 0, 0, 0, []), (36, 3, 1, 1, 0, 0, []), (37, 4, 1, 0, 0, 0, []), (38, 25, 2, 14, 4, 0, [(0, 23, 6), (0, 1, 4)]), (41, 2, 2, 5, 0, 0, []), (43, 27, 0, 1, 0, 0, []), (44, 10, 0, 2, 0, 0, []), (45, 4, 1, 0, 0, 0, []), (46, 25, 2, 13, 4, 0, [(0, 23, 6), (0, 1, 3)]), (49, 2, 2, 5, 0, 0, []), (51, 27, 0, 1, 0, 0, []), (52, 3, 1, 3, 0, 0, []), (53, 10, 0, 2, 0, 0, []), (54, 10, 0, 0, 0, 0, []), (55, 33, 0, 0, 0, 0, []), (55, 6, 1, 1, 0, 0, []), (56, 3, 1, 3, 0, 0, []), (57, 4, 1, 0, 0, 0, []), (58, 25, 2, 14, 4, 0, [(0, 23, 6), (0, 1, 4)]), (61, 2, 2, 5, 0, 0, []), (63, 27, 0, 1, 0, 0, []), (64, 10, 0, 2, 0, 0, []), (65, 33, 0, 0, 0, 0, []), (65, 6, 1, 3, 0, 0, []), (66, 3, 1, 1, 0, 0, []), (67, 3, 1, 3, 0, 0, []), (68, 32, 74, 5, 51, 0, []), (72, 0, 1, 0, 0, 0, []), (73, 48, 0, 0, 0, 0, []), (74, 3, 1, 1, 0, 0, []), (75, 3, 1, 3, 0, 0, []), (76, 40, 0, 2, 0, 0, []), (79, 6, 2, 6, 0, 0, []), (81, 3, 1, 1, 0, 0, []), (82, 3, 2, 6, 0, 0, []), (84, 10, 0, 3, 0, 0, []), (85, 6, 1, 1, 0, 0, []), (86, 3, 1, 3, 0, 0, []), (87, 3, 2, 6, 0, 0, []), (89, 10, 0, 3, 0, 0, []), (90, 6, 1, 3, 0, 0, []), (91, 8, 0, 5, 0, 1, []), (94, 19, 7, 0, 7, 0, []), (97, 3, 1, 1, 0, 0, []), (98, 3, 1, 3, 0, 0, []), (99, 32, 107, 1, 70, 0, []), (103, 0, 1, 0, 0, 1, []), (104, 19, 108, 0, 71, 0, []), (107, 0, 1, 0, 0, 0, []), (108, 48, 0, 0, 0, 0, [])]
set_option maxRecDepth 20000 in
theorem qX2_isWholef : f_all yX2_isWhole YX2_isWhole pX2_isWholef :=
  ⟨f_lconst (n := 0) (e_dx DX2_isWhole_0 0 rfl) rfl,
  f_lstore_n (n := 1) (e_dx DX2_isWhole_0 1 rfl) rfl (by decide),
  f_lconst (n := 1) (e_dx DX2_isWhole_0 2 rfl) rfl,
  f_lstore_n (n := 3) (e_dx DX2_isWhole_0 3 rfl) rfl (by decide),
  f_iconst (e_dx DX2_isWhole_0 4 rfl) ⟨by decide, by decide⟩,
  f_istore (e_dx DX2_isWhole_0 5 rfl) (by decide),
  trivial,
  f_iload (e_dx DX2_isWhole_0 6 rfl),
  f_aload_n (n := 0) (e_dx DX2_isWhole_0 7 rfl) rfl,
  f_getf (e_dx DX2_isWhole_0 8 rfl) fX2_66 rfl (by decide) (by decide) (by decide),
  f_icmp_ge (e_dx DX2_isWhole_0 9 rfl) rfl,
  f_aload_n (n := 0) (e_dx DX2_isWhole_0 10 rfl) rfl,
  f_getA (e_dx DX2_isWhole_0 11 rfl) fX2_19 rfl (by decide) (Nat.le_of_ble_eq_true rfl) rfl (by decide),
  f_iload (e_dx DX2_isWhole_0 12 rfl),
  f_laload (e_dx DX2_isWhole_0 13 rfl),
  f_aload_n (n := 0) (e_dx DX2_isWhole_0 14 rfl) rfl,
  f_getA (e_dx DX2_isWhole_0 15 rfl) fX2_22 rfl (by decide) (Nat.le_of_ble_eq_true rfl) rfl (by decide),
  f_iload (e_dx DX2_isWhole_0 16 rfl),
  f_laload (e_dx DX2_isWhole_0 17 rfl),
  f_lif_le (e_dx DX2_isWhole_0 18 rfl) (e_dx DX2_isWhole_0 19 rfl) rfl,
  f_iconst (e_dx DX2_isWhole_0 20 rfl) ⟨by decide, by decide⟩,
  ⟨(e_dx DX2_isWhole_0 21 rfl), rfl⟩,
  f_lload_n (n := 1) (e_dx DX2_isWhole_0 22 rfl) rfl,
  f_aload_n (n := 0) (e_dx DX2_isWhole_0 23 rfl) rfl,
  f_getA (e_dx DX2_isWhole_0 24 rfl) fX2_22 rfl (by decide) (Nat.le_of_ble_eq_true rfl) rfl (by decide),
  f_iload (e_dx DX2_isWhole_0 25 rfl),
  f_laload (e_dx DX2_isWhole_0 26 rfl),
  f_lmul (e_dx DX2_isWhole_0 27 rfl),
  f_aload_n (n := 0) (e_dx DX2_isWhole_0 28 rfl) rfl,
  f_getA (e_dx DX2_isWhole_0 29 rfl) fX2_19 rfl (by decide) (Nat.le_of_ble_eq_true rfl) rfl (by decide),
  f_iload (e_dx DX2_isWhole_0 30 rfl),
  f_laload (e_dx DX2_isWhole_0 31 rfl),
  f_lload_n (n := 3) (e_dx DX2_isWhole_0 32 rfl) rfl,
  f_lmul (e_dx DX2_isWhole_0 33 rfl),
  f_ladd (e_dx DX2_isWhole_0 34 rfl),
  f_g33,
  f_lstore_n (n := 1) (e_dx DX2_isWhole_0 35 rfl) rfl (by decide),
  f_lload_n (n := 3) (e_dx DX2_isWhole_0 36 rfl) rfl,
  f_aload_n (n := 0) (e_dx DX2_isWhole_0 37 rfl) rfl,
  f_getA (e_dx DX2_isWhole_0 38 rfl) fX2_22 rfl (by decide) (Nat.le_of_ble_eq_true rfl) rfl (by decide),
  f_iload (e_dx DX2_isWhole_0 39 rfl),
  f_laload (e_dx DX2_isWhole_1 0 rfl),
  f_lmul (e_dx DX2_isWhole_1 1 rfl),
  f_g33,
  f_lstore_n (n := 3) (e_dx DX2_isWhole_1 2 rfl) rfl (by decide),
  f_lload_n (n := 1) (e_dx DX2_isWhole_1 3 rfl) rfl,
  f_lload_n (n := 3) (e_dx DX2_isWhole_1 4 rfl) rfl,
  f_lif_le (e_dx DX2_isWhole_1 5 rfl) (e_dx DX2_isWhole_1 6 rfl) rfl,
  f_iconst (e_dx DX2_isWhole_1 7 rfl) ⟨by decide, by decide⟩,
  ⟨(e_dx DX2_isWhole_1 8 rfl), rfl⟩,
  f_lload_n (n := 1) (e_dx DX2_isWhole_1 9 rfl) rfl,
  f_lload_n (n := 3) (e_dx DX2_isWhole_1 10 rfl) rfl,
  x_callSN (e_dx DX2_isWhole_1 11 rfl) mwX11_commonDivisor cX2_72 swX11_commonDivisor rfl,
  f_lstore (e_dx DX2_isWhole_1 12 rfl) (by decide),
  f_lload_n (n := 1) (e_dx DX2_isWhole_1 13 rfl) rfl,
  f_lload (e_dx DX2_isWhole_1 14 rfl),
  f_ldiv (e_dx DX2_isWhole_1 15 rfl),
  f_lstore_n (n := 1) (e_dx DX2_isWhole_1 16 rfl) rfl (by decide),
  f_lload_n (n := 3) (e_dx DX2_isWhole_1 17 rfl) rfl,
  f_lload (e_dx DX2_isWhole_1 18 rfl),
  f_ldiv (e_dx DX2_isWhole_1 19 rfl),
  f_lstore_n (n := 3) (e_dx DX2_isWhole_1 20 rfl) rfl (by decide),
  f_g8 (e_dx DX2_isWhole_1 21 rfl) ⟨by decide, by decide⟩,
  f_g19 (e_dx DX2_isWhole_1 22 rfl) rfl,
  f_lload_n (n := 1) (e_dx DX2_isWhole_1 23 rfl) rfl,
  f_lload_n (n := 3) (e_dx DX2_isWhole_1 24 rfl) rfl,
  f_lif_ne (e_dx DX2_isWhole_1 25 rfl) (e_dx DX2_isWhole_1 26 rfl) rfl,
  f_iconst (e_dx DX2_isWhole_1 27 rfl) ⟨by decide, by decide⟩,
  f_g19 (e_dx DX2_isWhole_1 28 rfl) rfl,
  f_iconst (e_dx DX2_isWhole_1 29 rfl) ⟨by decide, by decide⟩,
  ⟨(e_dx DX2_isWhole_1 30 rfl), rfl⟩, trivial⟩
def lX2_isWhole (c_X11_commonDivisor : Int → Int → e_M → (Int → Prop) → Prop) : List (Nat × f_Wt) := [(0, f_wm [(2, 0, 0), (2, 0, 0)] (fun ar M R => c_X11_commonDivisor (f_vi (f_nth ar 0)) (f_vi (f_nth ar 1)) M (fun r => R (some (.inr (.inl r))) M)))]
set_option maxRecDepth 20000 in
theorem BX2_isWhole_7 {sh : Nat → Nat × Nat} {t : Nat} {rm : Nat × Nat × Nat} {cs : Nat × Nat} {R : f_Rt} {c_X11_commonDivisor : Int → Int → e_M → (Int → Prop) → Prop} {k7 : Nat → Int → Int → Int → Prop} {a0 : Nat} {x1 : Int} {x3 : Int} {x5 : Int} {M : e_M} (C : f_Hy sh t yX2_isWhole rm cs 5 (lX2_isWhole c_X11_commonDivisor) R) (h7 : ∀ (a0 : Nat) (x1 : Int) (x3 : Int) (x5 : Int), k7 a0 x1 x3 x5 → f_E sh t YX2_isWhole rm cs (f_Q sh t R) 7 [.inr (.inr (.inl (2, 19, a0))), .inr (.inl x1), .inr (.inr (.inr ())), .inr (.inl x3), .inr (.inr (.inr ())), .inl x5, .inr (.inr (.inr ())), .inr (.inr (.inr ()))] [] M) (h : VX2_isWhole_7 c_X11_commonDivisor k7 (fun r => R (some (.inl r)) M) a0 x1 x3 x5 M) : f_E sh t YX2_isWhole rm cs (f_Q sh t R) 7 [.inr (.inr (.inl (2, 19, a0))), .inr (.inl x1), .inr (.inr (.inr ())), .inr (.inl x3), .inr (.inr (.inr ())), .inl x5, .inr (.inr (.inr ())), .inr (.inr (.inr ()))] [] M := by
  rw [f_kk4 M k7] at h
  exact f_go (KC := f_kc [(7, f_pl [(3, 2, 19), (2, 0, 0), (0, 0, 0), (2, 0, 0), (0, 0, 0), (1, 0, 0), (0, 0, 0), (0, 0, 0)] [] (fun ls st M2 => M2 = M ∧ (k7 (f_va (f_nth ls 0)) (f_vi (f_nth ls 1)) (f_vi (f_nth ls 3)) (f_vi (f_nth ls 5)))))]) C qX2_isWholef (f_kc_cons (f_pl_ok rfl (fun ls st M2 ⟨e, hh⟩ => by subst e; exact h7 _ _ _ _ hh)) f_kc_nil) 73 7 h
set_option maxRecDepth 20000 in
theorem BX2_isWhole {sh : Nat → Nat × Nat} {t : Nat} {rm : Nat × Nat × Nat} {cs : Nat × Nat} {R : f_Rt} {c_X11_commonDivisor : Int → Int → e_M → (Int → Prop) → Prop} {k7 : Nat → Int → Int → Int → Prop} {a0 : Nat} {M : e_M} (C : f_Hy sh t yX2_isWhole rm cs 5 (lX2_isWhole c_X11_commonDivisor) R) (h7 : ∀ (a0 : Nat) (x1 : Int) (x3 : Int) (x5 : Int), k7 a0 x1 x3 x5 → f_E sh t YX2_isWhole rm cs (f_Q sh t R) 7 [.inr (.inr (.inl (2, 19, a0))), .inr (.inl x1), .inr (.inr (.inr ())), .inr (.inl x3), .inr (.inr (.inr ())), .inl x5, .inr (.inr (.inr ())), .inr (.inr (.inr ()))] [] M) (h : VX2_isWhole c_X11_commonDivisor k7 (fun r => R (some (.inl r)) M) a0 M) : f_E sh t YX2_isWhole rm cs (f_Q sh t R) 0 [.inr (.inr (.inl (2, 19, a0))), .inr (.inr (.inr ())), .inr (.inr (.inr ())), .inr (.inr (.inr ())), .inr (.inr (.inr ())), .inr (.inr (.inr ())), .inr (.inr (.inr ())), .inr (.inr (.inr ()))] [] M := by
  rw [f_kk4 M k7] at h
  exact f_go (KC := f_kc [(7, f_pl [(3, 2, 19), (2, 0, 0), (0, 0, 0), (2, 0, 0), (0, 0, 0), (1, 0, 0), (0, 0, 0), (0, 0, 0)] [] (fun ls st M2 => M2 = M ∧ (k7 (f_va (f_nth ls 0)) (f_vi (f_nth ls 1)) (f_vi (f_nth ls 3)) (f_vi (f_nth ls 5)))))]) C qX2_isWholef (f_kc_cons (f_pl_ok rfl (fun ls st M2 ⟨e, hh⟩ => by subst e; exact h7 _ _ _ _ hh)) f_kc_nil) 73 0 h
def WX2_isWhole_7 (M : e_M) (Q : Int → Prop) : Nat → Nat → Int → Int → Int → Prop
  | 0, _, _, _, _ => False
  | n + 1, a0, x1, x3, x5 =>
    VX2_isWhole_7 WX11_commonDivisor (WX2_isWhole_7 M Q n) Q a0 x1 x3 x5 M
def WX2_isWhole (a0 : Nat) (M : e_M) (Q : Int → Prop) : Prop :=
  VX2_isWhole WX11_commonDivisor (fun a0 x1 x3 x5 => ∃ j, WX2_isWhole_7 M Q j a0 x1 x3 x5) Q a0 M
theorem PX2_isWhole_7 {sh : Nat → Nat × Nat} {t : Nat} {rm : Nat × Nat × Nat} {cs : Nat × Nat} {R : f_Rt} {M : e_M} (C : f_Hy sh t yX2_isWhole rm cs 5 (lX2_isWhole WX11_commonDivisor) R) : ∀ (n : Nat) (a0 : Nat) (x1 : Int) (x3 : Int) (x5 : Int), WX2_isWhole_7 M (fun r => R (some (.inl r)) M) n a0 x1 x3 x5 → f_E sh t YX2_isWhole rm cs (f_Q sh t R) 7 [.inr (.inr (.inl (2, 19, a0))), .inr (.inl x1), .inr (.inr (.inr ())), .inr (.inl x3), .inr (.inr (.inr ())), .inl x5, .inr (.inr (.inr ())), .inr (.inr (.inr ()))] [] M := by
  intro n
  induction n with
  | zero => intro a0 x1 x3 x5 h; exact h.elim
  | succ n ih => intro a0 x1 x3 x5 h; exact BX2_isWhole_7 C ih h
theorem PX2_isWhole {sh : Nat → Nat × Nat} {t : Nat} {rm : Nat × Nat × Nat} {cs : Nat × Nat} {R : f_Rt} {a0 : Nat} {M : e_M} (C : f_Hy sh t yX2_isWhole rm cs 5 (lX2_isWhole WX11_commonDivisor) R) (h : WX2_isWhole a0 M (fun r => R (some (.inl r)) M)) : f_E sh t YX2_isWhole rm cs (f_Q sh t R) 0 [.inr (.inr (.inl (2, 19, a0))), .inr (.inr (.inr ())), .inr (.inr (.inr ())), .inr (.inr (.inr ())), .inr (.inr (.inr ())), .inr (.inr (.inr ())), .inr (.inr (.inr ())), .inr (.inr (.inr ()))] [] M :=
  BX2_isWhole C (fun a0 x1 x3 x5 ⟨j, h⟩ => PX2_isWhole_7 C j _ _ _ _ h) h
def wX2_isWhole : f_Wt := f_wm [(3, 2, 19)] (fun ar M R => WX2_isWhole (f_va (f_nth ar 0)) M (fun r => R (some (.inl r)) M))
theorem TX2_isWhole {sh : Nat → Nat × Nat} {t : Nat} : f_Mt sh t YX2_isWhole 5 (wX2_isWhole) :=
  f_Mt_of (k := 7) (Nat.le_of_ble_eq_true rfl) rfl rfl (fun ar M R rm cs h1 h2 h3 hX h => PX2_isWhole ⟨Nat.le_of_ble_eq_true rfl, h1, h2, h3, ⟨(f_Mt.up (Nat.le_of_ble_eq_true rfl) TX11_commonDivisor), trivial⟩, hX⟩ h)
def VX4_placeOf_2 (k2 : Nat → Int → Int → Prop) (Q : Int → Prop) (a0 : Nat) (x1 : Int) (x2 : Int) (M : e_M) : Prop :=
  (((M a0 8) ≤ x2 → (Q (-1))) ∧ (x2 < (M a0 8) → ((0 ≤ x2 ∧ x2 < 14) ∧ ((¬ (M (a0 + 6) (x2.toNat)) = x1 → (k2 a0 x1 (e_w32 (x2 + 1)))) ∧ ((M (a0 + 6) (x2.toNat)) = x1 → (Q x2))))))
def VX4_placeOf (k2 : Nat → Int → Int → Prop) (Q : Int → Prop) (a0 : Nat) (x1 : Int) (M : e_M) : Prop :=
  (k2 a0 x1 0)
def yX4_placeOf (i : Nat) : e_Y := x_get YX4_placeOf [] i
def pX4_placeOff : List x_I := [(0, 0, 1, 0, 0, 0, []), (1, 5, 1, 2, 0, 0, []), (2, 49, 0, 0, 0, 0, []), (2, 2, 1, 2, 0, 0, []), (3, 4, 1, 0, 0, 0, []), (4, 25, 4, 8, 0, 0, []), (7, 18, 28, 3, 18, 0, []), (10, 4, 1, 0, 0, 0, []), (11, 25, 4, 5, 4, 0, [(0, 20, 14), (0, 1, 6)]), (14, 2, 1, 2, 0, 0, []), (15, 27, 0, 0, 0, 0, []), (16, 2, 1, 1, 0, 0, []), (17, 18, 22, 1, 16, 0, []), (20, 2, 1, 2, 0, 0, []), (21, 41, 0, 0, 0, 0, []), (22, 8, 0, 2, 0, 1, []), (25, 19, 2, 0, 3, 0, []), (28, 0, 1, 0, 0, (-1), []), (29, 41, 0, 0, 0, 0, [])]
set_option maxRecDepth 20000 in
theorem qX4_placeOff : f_all yX4_placeOf YX4_placeOf pX4_placeOff :=
  ⟨f_iconst (e_dx DX4_placeOf_0 0 rfl) ⟨by decide, by decide⟩,
  f_istore_n (n := 2) (e_dx DX4_placeOf_0 1 rfl) rfl (by decide),
  trivial,
  f_iload_n (n := 2) (e_dx DX4_placeOf_0 2 rfl) rfl,
  f_aload_n (n := 0) (e_dx DX4_placeOf_0 3 rfl) rfl,
  f_getf (e_dx DX4_placeOf_0 4 rfl) fX4_48 rfl (by decide) (by decide) (by decide),
  f_icmp_ge (e_dx DX4_placeOf_0 5 rfl) rfl,
  f_aload_n (n := 0) (e_dx DX4_placeOf_0 6 rfl) rfl,
  f_getA (e_dx DX4_placeOf_0 7 rfl) fX4_37 rfl (by decide) (Nat.le_of_ble_eq_true rfl) rfl (by decide),
  f_iload_n (n := 2) (e_dx DX4_placeOf_0 8 rfl) rfl,
  f_iaload (e_dx DX4_placeOf_0 9 rfl),
  f_iload_n (n := 1) (e_dx DX4_placeOf_0 10 rfl) rfl,
  f_icmp_ne (e_dx DX4_placeOf_0 11 rfl) rfl,
  f_iload_n (n := 2) (e_dx DX4_placeOf_0 12 rfl) rfl,
  ⟨(e_dx DX4_placeOf_0 13 rfl), rfl⟩,
  f_g8 (e_dx DX4_placeOf_0 14 rfl) ⟨by decide, by decide⟩,
  f_g19 (e_dx DX4_placeOf_0 15 rfl) rfl,
  f_iconst (e_dx DX4_placeOf_0 16 rfl) ⟨by decide, by decide⟩,
  ⟨(e_dx DX4_placeOf_0 17 rfl), rfl⟩, trivial⟩
def lX4_placeOf : List (Nat × f_Wt) := []
set_option maxRecDepth 20000 in
theorem BX4_placeOf_2 {sh : Nat → Nat × Nat} {t : Nat} {rm : Nat × Nat × Nat} {cs : Nat × Nat} {R : f_Rt} {k2 : Nat → Int → Int → Prop} {a0 : Nat} {x1 : Int} {x2 : Int} {M : e_M} (C : f_Hy sh t yX4_placeOf rm cs 4 (lX4_placeOf) R) (h2 : ∀ (a0 : Nat) (x1 : Int) (x2 : Int), k2 a0 x1 x2 → f_E sh t YX4_placeOf rm cs (f_Q sh t R) 2 [.inr (.inr (.inl (4, 9, a0))), .inl x1, .inl x2] [] M) (h : VX4_placeOf_2 k2 (fun r => R (some (.inl r)) M) a0 x1 x2 M) : f_E sh t YX4_placeOf rm cs (f_Q sh t R) 2 [.inr (.inr (.inl (4, 9, a0))), .inl x1, .inl x2] [] M := by
  rw [f_kk3 M k2] at h
  exact f_go (KC := f_kc [(2, f_pl [(3, 4, 9), (1, 0, 0), (1, 0, 0)] [] (fun ls st M2 => M2 = M ∧ (k2 (f_va (f_nth ls 0)) (f_vi (f_nth ls 1)) (f_vi (f_nth ls 2)))))]) C qX4_placeOff (f_kc_cons (f_pl_ok rfl (fun ls st M2 ⟨e, hh⟩ => by subst e; exact h2 _ _ _ hh)) f_kc_nil) 21 3 h
set_option maxRecDepth 20000 in
theorem BX4_placeOf {sh : Nat → Nat × Nat} {t : Nat} {rm : Nat × Nat × Nat} {cs : Nat × Nat} {R : f_Rt} {k2 : Nat → Int → Int → Prop} {a0 : Nat} {x1 : Int} {M : e_M} (C : f_Hy sh t yX4_placeOf rm cs 4 (lX4_placeOf) R) (h2 : ∀ (a0 : Nat) (x1 : Int) (x2 : Int), k2 a0 x1 x2 → f_E sh t YX4_placeOf rm cs (f_Q sh t R) 2 [.inr (.inr (.inl (4, 9, a0))), .inl x1, .inl x2] [] M) (h : VX4_placeOf k2 (fun r => R (some (.inl r)) M) a0 x1 M) : f_E sh t YX4_placeOf rm cs (f_Q sh t R) 0 [.inr (.inr (.inl (4, 9, a0))), .inl x1, .inr (.inr (.inr ()))] [] M := by
  rw [f_kk3 M k2] at h
  exact f_go (KC := f_kc [(2, f_pl [(3, 4, 9), (1, 0, 0), (1, 0, 0)] [] (fun ls st M2 => M2 = M ∧ (k2 (f_va (f_nth ls 0)) (f_vi (f_nth ls 1)) (f_vi (f_nth ls 2)))))]) C qX4_placeOff (f_kc_cons (f_pl_ok rfl (fun ls st M2 ⟨e, hh⟩ => by subst e; exact h2 _ _ _ hh)) f_kc_nil) 21 0 h
def WX4_placeOf_2 (M : e_M) (Q : Int → Prop) : Nat → Nat → Int → Int → Prop
  | 0, _, _, _ => False
  | n + 1, a0, x1, x2 =>
    VX4_placeOf_2 (WX4_placeOf_2 M Q n) Q a0 x1 x2 M
def WX4_placeOf (a0 : Nat) (x1 : Int) (M : e_M) (Q : Int → Prop) : Prop :=
  VX4_placeOf (fun a0 x1 x2 => ∃ j, WX4_placeOf_2 M Q j a0 x1 x2) Q a0 x1 M
theorem PX4_placeOf_2 {sh : Nat → Nat × Nat} {t : Nat} {rm : Nat × Nat × Nat} {cs : Nat × Nat} {R : f_Rt} {M : e_M} (C : f_Hy sh t yX4_placeOf rm cs 4 (lX4_placeOf) R) : ∀ (n : Nat) (a0 : Nat) (x1 : Int) (x2 : Int), WX4_placeOf_2 M (fun r => R (some (.inl r)) M) n a0 x1 x2 → f_E sh t YX4_placeOf rm cs (f_Q sh t R) 2 [.inr (.inr (.inl (4, 9, a0))), .inl x1, .inl x2] [] M := by
  intro n
  induction n with
  | zero => intro a0 x1 x2 h; exact h.elim
  | succ n ih => intro a0 x1 x2 h; exact BX4_placeOf_2 C ih h
theorem PX4_placeOf {sh : Nat → Nat × Nat} {t : Nat} {rm : Nat × Nat × Nat} {cs : Nat × Nat} {R : f_Rt} {a0 : Nat} {x1 : Int} {M : e_M} (C : f_Hy sh t yX4_placeOf rm cs 4 (lX4_placeOf) R) (h : WX4_placeOf a0 x1 M (fun r => R (some (.inl r)) M)) : f_E sh t YX4_placeOf rm cs (f_Q sh t R) 0 [.inr (.inr (.inl (4, 9, a0))), .inl x1, .inr (.inr (.inr ()))] [] M :=
  BX4_placeOf C (fun a0 x1 x2 ⟨j, h⟩ => PX4_placeOf_2 C j _ _ _ h) h
def wX4_placeOf : f_Wt := f_wm [(3, 4, 9), (1, 0, 0)] (fun ar M R => WX4_placeOf (f_va (f_nth ar 0)) (f_vi (f_nth ar 1)) M (fun r => R (some (.inl r)) M))
theorem TX4_placeOf {sh : Nat → Nat × Nat} {t : Nat} : f_Mt sh t YX4_placeOf 4 (wX4_placeOf) :=
  f_Mt_of (k := 1) (Nat.le_of_ble_eq_true rfl) rfl rfl (fun ar M R rm cs h1 h2 h3 hX h => PX4_placeOf ⟨Nat.le_of_ble_eq_true rfl, h1, h2, h3, trivial, hX⟩ h)
def VX4_copyOwners_10 (k10 : Nat → Nat → Int → e_M → Prop) (Q : e_M → Prop) (a0 : Nat) (a1 : Nat) (x2 : Int) (M : e_M) : Prop :=
  (((M a0 8) ≤ x2 → (Q M)) ∧ (x2 < (M a0 8) → ((0 ≤ x2 ∧ x2 < 14) ∧ ((0 ≤ x2 ∧ x2 < 14) ∧ (∀ M1 : e_M, M1 = e_up M (a0 + 6) (x2.toNat) (M (a1 + 6) (x2.toNat)) → ((0 ≤ x2 ∧ x2 < 14) ∧ ((0 ≤ x2 ∧ x2 < 14) ∧ (∀ M2 : e_M, M2 = e_up M1 (a0 + 7) (x2.toNat) (M1 (a1 + 7) (x2.toNat)) → ((0 ≤ x2 ∧ x2 < 14) ∧ ((0 ≤ x2 ∧ x2 < 14) ∧ (∀ M3 : e_M, M3 = e_up M2 (a0 + 8) (x2.toNat) (M2 (a1 + 8) (x2.toNat)) → (k10 a0 a1 (e_w32 (x2 + 1)) M3))))))))))))
def VX4_copyOwners (k10 : Nat → Nat → Int → e_M → Prop) (Q : e_M → Prop) (a0 : Nat) (a1 : Nat) (M : e_M) : Prop :=
  (∀ M1 : e_M, M1 = e_up M a0 8 (M a1 8) → (k10 a0 a1 0 M1))
def yX4_copyOwners (i : Nat) : e_Y := x_get YX4_copyOwners [] i
def pX4_copyOwnersf : List x_I := [(0, 4, 1, 0, 0, 0, []), (1, 4, 1, 1, 0, 0, []), (2, 25, 4, 8, 0, 0, []), (5, 26, 4, 8, 0, 0, []), (8, 0, 1, 0, 0, 0, []), (9, 5, 1, 2, 0, 0, []), (10, 49, 0, 0, 0, 0, []), (10, 2, 1, 2, 0, 0, []), (11, 4, 1, 0, 0, 0, []), (12, 25, 4, 8, 0, 0, []), (15, 18, 60, 3, 38, 0, []), (18, 4, 1, 0, 0, 0, []), (19, 25, 4, 5, 4, 0, [(0, 20, 14), (0, 1, 6)]), (22, 2, 1, 2, 0, 0, []), (23, 4, 1, 1, 0, 0, []), (24, 25, 4, 5, 4, 0, [(0, 20, 14), (0, 1, 6)]), (27, 2, 1, 2, 0, 0, []), (28, 27, 0, 0, 0, 0, []), (29, 28, 0, 0, 0, 0, []), (30, 4, 1, 0, 0, 0, []), (31, 25, 4, 6, 4, 0, [(0, 23, 14), (0, 1, 7)]), (34, 2, 1, 2, 0, 0, []), (35, 4, 1, 1, 0, 0, []), (36, 25, 4, 6, 4, 0, [(0, 23, 14), (0, 1, 7)]), (39, 2, 1, 2, 0, 0, []), (40, 27, 0, 1, 0, 0, []), (41, 28, 0, 1, 0, 0, []), (42, 4, 1, 0, 0, 0, []), (43, 25, 4, 7, 4, 0, [(0, 23, 14), (0, 1, 8)]), (46, 2, 1, 2, 0, 0, []), (47, 4, 1, 1, 0, 0, []), (48, 25, 4, 7, 4, 0, [(0, 23, 14), (0, 1, 8)]), (51, 2, 1, 2, 0, 0, []), (52, 27, 0, 1, 0, 0, []), (53, 28, 0, 1, 0, 0, []), (54, 8, 0, 2, 0, 1, []), (57, 19, 10, 0, 7, 0, []), (60, 44, 0, 0, 0, 0, [])]
set_option maxRecDepth 20000 in
theorem qX4_copyOwnersf : f_all yX4_copyOwners YX4_copyOwners pX4_copyOwnersf :=
  ⟨f_aload_n (n := 0) (e_dx DX4_copyOwners_0 0 rfl) rfl,
  f_aload_n (n := 1) (e_dx DX4_copyOwners_0 1 rfl) rfl,
  f_getf (e_dx DX4_copyOwners_0 2 rfl) fX4_48 rfl (by decide) (by decide) (by decide),
  f_putn (e_dx DX4_copyOwners_0 3 rfl) fX4_48 (fun q hq => by cases hq; rfl) rfl (Or.inl rfl) (by decide),
  f_iconst (e_dx DX4_copyOwners_0 4 rfl) ⟨by decide, by decide⟩,
  f_istore_n (n := 2) (e_dx DX4_copyOwners_0 5 rfl) rfl (by decide),
  trivial,
  f_iload_n (n := 2) (e_dx DX4_copyOwners_0 6 rfl) rfl,
  f_aload_n (n := 0) (e_dx DX4_copyOwners_0 7 rfl) rfl,
  f_getf (e_dx DX4_copyOwners_0 8 rfl) fX4_48 rfl (by decide) (by decide) (by decide),
  f_icmp_ge (e_dx DX4_copyOwners_0 9 rfl) rfl,
  f_aload_n (n := 0) (e_dx DX4_copyOwners_0 10 rfl) rfl,
  f_getA (e_dx DX4_copyOwners_0 11 rfl) fX4_37 rfl (by decide) (Nat.le_of_ble_eq_true rfl) rfl (by decide),
  f_iload_n (n := 2) (e_dx DX4_copyOwners_0 12 rfl) rfl,
  f_aload_n (n := 1) (e_dx DX4_copyOwners_0 13 rfl) rfl,
  f_getA (e_dx DX4_copyOwners_0 14 rfl) fX4_37 rfl (by decide) (Nat.le_of_ble_eq_true rfl) rfl (by decide),
  f_iload_n (n := 2) (e_dx DX4_copyOwners_0 15 rfl) rfl,
  f_iaload (e_dx DX4_copyOwners_0 16 rfl),
  f_iastore (e_dx DX4_copyOwners_0 17 rfl),
  f_aload_n (n := 0) (e_dx DX4_copyOwners_0 18 rfl) rfl,
  f_getA (e_dx DX4_copyOwners_0 19 rfl) fX4_41 rfl (by decide) (Nat.le_of_ble_eq_true rfl) rfl (by decide),
  f_iload_n (n := 2) (e_dx DX4_copyOwners_0 20 rfl) rfl,
  f_aload_n (n := 1) (e_dx DX4_copyOwners_0 21 rfl) rfl,
  f_getA (e_dx DX4_copyOwners_0 22 rfl) fX4_41 rfl (by decide) (Nat.le_of_ble_eq_true rfl) rfl (by decide),
  f_iload_n (n := 2) (e_dx DX4_copyOwners_0 23 rfl) rfl,
  f_laload (e_dx DX4_copyOwners_0 24 rfl),
  f_lastore (e_dx DX4_copyOwners_0 25 rfl),
  f_aload_n (n := 0) (e_dx DX4_copyOwners_0 26 rfl) rfl,
  f_getA (e_dx DX4_copyOwners_0 27 rfl) fX4_45 rfl (by decide) (Nat.le_of_ble_eq_true rfl) rfl (by decide),
  f_iload_n (n := 2) (e_dx DX4_copyOwners_0 28 rfl) rfl,
  f_aload_n (n := 1) (e_dx DX4_copyOwners_0 29 rfl) rfl,
  f_getA (e_dx DX4_copyOwners_0 30 rfl) fX4_45 rfl (by decide) (Nat.le_of_ble_eq_true rfl) rfl (by decide),
  f_iload_n (n := 2) (e_dx DX4_copyOwners_0 31 rfl) rfl,
  f_laload (e_dx DX4_copyOwners_0 32 rfl),
  f_lastore (e_dx DX4_copyOwners_0 33 rfl),
  f_g8 (e_dx DX4_copyOwners_0 34 rfl) ⟨by decide, by decide⟩,
  f_g19 (e_dx DX4_copyOwners_0 35 rfl) rfl,
  ⟨(e_dx DX4_copyOwners_0 36 rfl), rfl⟩, trivial⟩
def lX4_copyOwners : List (Nat × f_Wt) := []
set_option maxRecDepth 20000 in
theorem BX4_copyOwners_10 {sh : Nat → Nat × Nat} {t : Nat} {rm : Nat × Nat × Nat} {cs : Nat × Nat} {R : f_Rt} {k10 : Nat → Nat → Int → e_M → Prop} {a0 : Nat} {a1 : Nat} {x2 : Int} {M : e_M} (C : f_Hy sh t yX4_copyOwners rm cs 4 (lX4_copyOwners) R) (h10 : ∀ (a0 : Nat) (a1 : Nat) (x2 : Int) (M : e_M), k10 a0 a1 x2 M → f_E sh t YX4_copyOwners rm cs (f_Q sh t R) 10 [.inr (.inr (.inl (4, 9, a0))), .inr (.inr (.inl (4, 9, a1))), .inl x2] [] M) (h : VX4_copyOwners_10 k10 (fun M => R none M) a0 a1 x2 M) : f_E sh t YX4_copyOwners rm cs (f_Q sh t R) 10 [.inr (.inr (.inl (4, 9, a0))), .inr (.inr (.inl (4, 9, a1))), .inl x2] [] M :=
  f_go (KC := f_kc [(10, f_pl [(3, 4, 9), (3, 4, 9), (1, 0, 0)] [] (fun ls st M => k10 (f_va (f_nth ls 0)) (f_va (f_nth ls 1)) (f_vi (f_nth ls 2)) M))]) C qX4_copyOwnersf (f_kc_cons (f_pl_ok rfl (fun ls st M h => h10 _ _ _ M h)) f_kc_nil) 40 7 h
set_option maxRecDepth 20000 in
theorem BX4_copyOwners {sh : Nat → Nat × Nat} {t : Nat} {rm : Nat × Nat × Nat} {cs : Nat × Nat} {R : f_Rt} {k10 : Nat → Nat → Int → e_M → Prop} {a0 : Nat} {a1 : Nat} {M : e_M} (C : f_Hy sh t yX4_copyOwners rm cs 4 (lX4_copyOwners) R) (h10 : ∀ (a0 : Nat) (a1 : Nat) (x2 : Int) (M : e_M), k10 a0 a1 x2 M → f_E sh t YX4_copyOwners rm cs (f_Q sh t R) 10 [.inr (.inr (.inl (4, 9, a0))), .inr (.inr (.inl (4, 9, a1))), .inl x2] [] M) (h : VX4_copyOwners k10 (fun M => R none M) a0 a1 M) : f_E sh t YX4_copyOwners rm cs (f_Q sh t R) 0 [.inr (.inr (.inl (4, 9, a0))), .inr (.inr (.inl (4, 9, a1))), .inr (.inr (.inr ()))] [] M :=
  f_go (KC := f_kc [(10, f_pl [(3, 4, 9), (3, 4, 9), (1, 0, 0)] [] (fun ls st M => k10 (f_va (f_nth ls 0)) (f_va (f_nth ls 1)) (f_vi (f_nth ls 2)) M))]) C qX4_copyOwnersf (f_kc_cons (f_pl_ok rfl (fun ls st M h => h10 _ _ _ M h)) f_kc_nil) 40 0 h
def WX4_copyOwners_10 (Q : e_M → Prop) : Nat → Nat → Nat → Int → e_M → Prop
  | 0, _, _, _, _ => False
  | n + 1, a0, a1, x2, M =>
    VX4_copyOwners_10 (WX4_copyOwners_10 Q n) Q a0 a1 x2 M
def WX4_copyOwners (a0 : Nat) (a1 : Nat) (M : e_M) (Q : e_M → Prop) : Prop :=
  VX4_copyOwners (fun a0 a1 x2 M => ∃ j, WX4_copyOwners_10 Q j a0 a1 x2 M) Q a0 a1 M
theorem PX4_copyOwners_10 {sh : Nat → Nat × Nat} {t : Nat} {rm : Nat × Nat × Nat} {cs : Nat × Nat} {R : f_Rt} (C : f_Hy sh t yX4_copyOwners rm cs 4 (lX4_copyOwners) R) : ∀ (n : Nat) (a0 : Nat) (a1 : Nat) (x2 : Int) (M : e_M), WX4_copyOwners_10 (fun M => R none M) n a0 a1 x2 M → f_E sh t YX4_copyOwners rm cs (f_Q sh t R) 10 [.inr (.inr (.inl (4, 9, a0))), .inr (.inr (.inl (4, 9, a1))), .inl x2] [] M := by
  intro n
  induction n with
  | zero => intro a0 a1 x2 M h; exact h.elim
  | succ n ih => intro a0 a1 x2 M h; exact BX4_copyOwners_10 C ih h
theorem PX4_copyOwners {sh : Nat → Nat × Nat} {t : Nat} {rm : Nat × Nat × Nat} {cs : Nat × Nat} {R : f_Rt} {a0 : Nat} {a1 : Nat} {M : e_M} (C : f_Hy sh t yX4_copyOwners rm cs 4 (lX4_copyOwners) R) (h : WX4_copyOwners a0 a1 M (fun M => R none M)) : f_E sh t YX4_copyOwners rm cs (f_Q sh t R) 0 [.inr (.inr (.inl (4, 9, a0))), .inr (.inr (.inl (4, 9, a1))), .inr (.inr (.inr ()))] [] M :=
  BX4_copyOwners C (fun a0 a1 x2 M ⟨j, h⟩ => PX4_copyOwners_10 C j _ _ _ _ h) h
def wX4_copyOwners : f_Wt := f_wm [(3, 4, 9), (3, 4, 9)] (fun ar M R => WX4_copyOwners (f_va (f_nth ar 0)) (f_va (f_nth ar 1)) M (fun M => R none M))
theorem TX4_copyOwners {sh : Nat → Nat × Nat} {t : Nat} : f_Mt sh t YX4_copyOwners 4 (wX4_copyOwners) :=
  f_Mt_of (k := 1) (Nat.le_of_ble_eq_true rfl) rfl rfl (fun ar M R rm cs h1 h2 h3 hX h => PX4_copyOwners ⟨Nat.le_of_ble_eq_true rfl, h1, h2, h3, trivial, hX⟩ h)
def VX4_put (c_X11_commonDivisor : Int → Int → e_M → (Int → Prop) → Prop) (Q : e_M → Prop) (a0 : Nat) (x1 : Int) (x2 : Int) (x4 : Int) (M : e_M) : Prop :=
  (c_X11_commonDivisor x2 x4 M (fun r1 => (¬ r1 = 0 ∧ ((0 ≤ x1 ∧ x1 < 14) ∧ (∀ M2 : e_M, M2 = e_up M (a0 + 7) (x1.toNat) (e_w64 (x2.tdiv r1)) → (¬ r1 = 0 ∧ ((0 ≤ x1 ∧ x1 < 14) ∧ (∀ M3 : e_M, M3 = e_up M2 (a0 + 8) (x1.toNat) (e_w64 (x4.tdiv r1)) → (Q M3)))))))))
def yX4_put (i : Nat) : e_Y := x_get YX4_put [YX11_commonDivisor] i
def pX4_putf : List x_I := [(0, 3, 1, 2, 0, 0, []), (1, 3, 2, 4, 0, 0, []), (3, 40, 0, 2, 0, 0, []), (6, 6, 2, 6, 0, 0, []), (8, 4, 1, 0, 0, 0, []), (9, 25, 4, 6, 4, 0, [(0, 23, 14), (0, 1, 7)]), (12, 2, 1, 1, 0, 0, []), (13, 3, 1, 2, 0, 0, []), (14, 3, 2, 6, 0, 0, []), (16, 10, 0, 3, 0, 0, []), (17, 28, 0, 1, 0, 0, []), (18, 4, 1, 0, 0, 0, []), (19, 25, 4, 7, 4, 0, [(0, 23, 14), (0, 1, 8)]), (22, 2, 1, 1, 0, 0, []), (23, 3, 2, 4, 0, 0, []), (25, 3, 2, 6, 0, 0, []), (27, 10, 0, 3, 0, 0, []), (28, 28, 0, 1, 0, 0, []), (29, 44, 0, 0, 0, 0, [])]
set_option maxRecDepth 20000 in
theorem qX4_putf : f_all yX4_put YX4_put pX4_putf :=
  ⟨f_lload_n (n := 2) (e_dx DX4_put_0 0 rfl) rfl,
  f_lload (e_dx DX4_put_0 1 rfl),
  x_callSN (e_dx DX4_put_0 2 rfl) mwX11_commonDivisor cX4_66 swX11_commonDivisor rfl,
  f_lstore (e_dx DX4_put_0 3 rfl) (by decide),
  f_aload_n (n := 0) (e_dx DX4_put_0 4 rfl) rfl,
  f_getA (e_dx DX4_put_0 5 rfl) fX4_41 rfl (by decide) (Nat.le_of_ble_eq_true rfl) rfl (by decide),
  f_iload_n (n := 1) (e_dx DX4_put_0 6 rfl) rfl,
  f_lload_n (n := 2) (e_dx DX4_put_0 7 rfl) rfl,
  f_lload (e_dx DX4_put_0 8 rfl),
  f_ldiv (e_dx DX4_put_0 9 rfl),
  f_lastore (e_dx DX4_put_0 10 rfl),
  f_aload_n (n := 0) (e_dx DX4_put_0 11 rfl) rfl,
  f_getA (e_dx DX4_put_0 12 rfl) fX4_45 rfl (by decide) (Nat.le_of_ble_eq_true rfl) rfl (by decide),
  f_iload_n (n := 1) (e_dx DX4_put_0 13 rfl) rfl,
  f_lload (e_dx DX4_put_0 14 rfl),
  f_lload (e_dx DX4_put_0 15 rfl),
  f_ldiv (e_dx DX4_put_0 16 rfl),
  f_lastore (e_dx DX4_put_0 17 rfl),
  ⟨(e_dx DX4_put_0 18 rfl), rfl⟩, trivial⟩
def lX4_put (c_X11_commonDivisor : Int → Int → e_M → (Int → Prop) → Prop) : List (Nat × f_Wt) := [(0, f_wm [(2, 0, 0), (2, 0, 0)] (fun ar M R => c_X11_commonDivisor (f_vi (f_nth ar 0)) (f_vi (f_nth ar 1)) M (fun r => R (some (.inr (.inl r))) M)))]
set_option maxRecDepth 20000 in
theorem BX4_put {sh : Nat → Nat × Nat} {t : Nat} {rm : Nat × Nat × Nat} {cs : Nat × Nat} {R : f_Rt} {c_X11_commonDivisor : Int → Int → e_M → (Int → Prop) → Prop} {a0 : Nat} {x1 : Int} {x2 : Int} {x4 : Int} {M : e_M} (C : f_Hy sh t yX4_put rm cs 5 (lX4_put c_X11_commonDivisor) R) (h : VX4_put c_X11_commonDivisor (fun M => R none M) a0 x1 x2 x4 M) : f_E sh t YX4_put rm cs (f_Q sh t R) 0 [.inr (.inr (.inl (4, 9, a0))), .inl x1, .inr (.inl x2), .inr (.inr (.inr ())), .inr (.inl x4), .inr (.inr (.inr ())), .inr (.inr (.inr ())), .inr (.inr (.inr ()))] [] M :=
  f_go (KC := f_kc []) C qX4_putf f_kc_nil 21 0 h
def WX4_put (a0 : Nat) (x1 : Int) (x2 : Int) (x4 : Int) (M : e_M) (Q : e_M → Prop) : Prop :=
  VX4_put WX11_commonDivisor Q a0 x1 x2 x4 M
theorem PX4_put {sh : Nat → Nat × Nat} {t : Nat} {rm : Nat × Nat × Nat} {cs : Nat × Nat} {R : f_Rt} {a0 : Nat} {x1 : Int} {x2 : Int} {x4 : Int} {M : e_M} (C : f_Hy sh t yX4_put rm cs 5 (lX4_put WX11_commonDivisor) R) (h : WX4_put a0 x1 x2 x4 M (fun M => R none M)) : f_E sh t YX4_put rm cs (f_Q sh t R) 0 [.inr (.inr (.inl (4, 9, a0))), .inl x1, .inr (.inl x2), .inr (.inr (.inr ())), .inr (.inl x4), .inr (.inr (.inr ())), .inr (.inr (.inr ())), .inr (.inr (.inr ()))] [] M :=
  BX4_put C h
def wX4_put : f_Wt := f_wm [(3, 4, 9), (1, 0, 0), (2, 0, 0), (2, 0, 0)] (fun ar M R => WX4_put (f_va (f_nth ar 0)) (f_vi (f_nth ar 1)) (f_vi (f_nth ar 2)) (f_vi (f_nth ar 3)) M (fun M => R none M))
theorem TX4_put {sh : Nat → Nat × Nat} {t : Nat} : f_Mt sh t YX4_put 5 (wX4_put) :=
  f_Mt_of (k := 2) (Nat.le_of_ble_eq_true rfl) rfl rfl (fun ar M R rm cs h1 h2 h3 hX h => PX4_put ⟨Nat.le_of_ble_eq_true rfl, h1, h2, h3, ⟨(f_Mt.up (Nat.le_of_ble_eq_true rfl) TX11_commonDivisor), trivial⟩, hX⟩ h)
def VX4_takeOff_99 (c_X4_placeOf : Nat → Int → e_M → (Int → Prop) → Prop) (c_X4_put : Nat → Int → Int → Int → e_M → (e_M → Prop) → Prop) (k99 : Nat → Int → e_M → Prop) (Q : Int → e_M → Prop) (a0 : Nat) (x7 : Int) (M : e_M) : Prop :=
  (((M a0 8) ≤ x7 → (Q 1 M)) ∧ (x7 < (M a0 8) → ((0 ≤ (e_w32 (x7 + 1)) ∧ (e_w32 (x7 + 1)) < 14) ∧ ((0 ≤ x7 ∧ x7 < 14) ∧ (∀ M1 : e_M, M1 = e_up M (a0 + 6) (x7.toNat) (M (a0 + 6) ((e_w32 (x7 + 1)).toNat)) → ((0 ≤ (e_w32 (x7 + 1)) ∧ (e_w32 (x7 + 1)) < 14) ∧ ((0 ≤ x7 ∧ x7 < 14) ∧ (∀ M2 : e_M, M2 = e_up M1 (a0 + 7) (x7.toNat) (M1 (a0 + 7) ((e_w32 (x7 + 1)).toNat)) → ((0 ≤ (e_w32 (x7 + 1)) ∧ (e_w32 (x7 + 1)) < 14) ∧ ((0 ≤ x7 ∧ x7 < 14) ∧ (∀ M3 : e_M, M3 = e_up M2 (a0 + 8) (x7.toNat) (M2 (a0 + 8) ((e_w32 (x7 + 1)).toNat)) → (k99 a0 (e_w32 (x7 + 1)) M3))))))))))))
def VX4_takeOff (c_X4_placeOf : Nat → Int → e_M → (Int → Prop) → Prop) (c_X4_put : Nat → Int → Int → Int → e_M → (e_M → Prop) → Prop) (k99 : Nat → Int → e_M → Prop) (Q : Int → e_M → Prop) (a0 : Nat) (x1 : Int) (x2 : Int) (x4 : Int) (M : e_M) : Prop :=
  (c_X4_placeOf a0 x1 M (fun r1 => ((r1 < 0 → (Q 0 M)) ∧ (0 ≤ r1 → ((0 ≤ r1 ∧ r1 < 14) ∧ ((0 ≤ r1 ∧ r1 < 14) ∧ (((e_w64 (x2 * (M (a0 + 8) (r1.toNat)))) ≤ (e_w64 ((M (a0 + 7) (r1.toNat)) * x4)) → ((0 ≤ r1 ∧ r1 < 14) ∧ ((0 ≤ r1 ∧ r1 < 14) ∧ ((0 ≤ r1 ∧ r1 < 14) ∧ (c_X4_put a0 r1 (e_w64 ((e_w64 ((M (a0 + 7) (r1.toNat)) * x4)) - (e_w64 (x2 * (M (a0 + 8) (r1.toNat)))))) (e_w64 ((M (a0 + 8) (r1.toNat)) * x4)) M (fun M2 => ((0 ≤ r1 ∧ r1 < 14) ∧ ((¬ (M2 (a0 + 7) (r1.toNat)) = 0 → (Q 1 M2)) ∧ ((M2 (a0 + 7) (r1.toNat)) = 0 → (∀ M3 : e_M, M3 = e_up M2 a0 8 (e_w32 ((M2 a0 8) - 1)) → (k99 a0 r1 M3))))))))))) ∧ ((e_w64 ((M (a0 + 7) (r1.toNat)) * x4)) < (e_w64 (x2 * (M (a0 + 8) (r1.toNat)))) → (Q 0 M)))))))))
def yX4_takeOff (i : Nat) : e_Y := x_get YX4_takeOff [YX4_placeOf, YX4_put] i
def pX4_takeOfff : List x_I := [(0, 4, 1, 0, 0, 0, []), (1, 2, 1, 1, 0, 0, []), (2, 40, 0, 2, 6, 0, []), (5, 5, 2, 6, 0, 0, []), (7, 2, 2, 6, 0, 0, []), (9, 17, 35, 2, 20, 0, []), (12, 4, 1, 0, 0, 0, []), (13, 25, 4, 6, 4, 0, [(0, 23, 14), (0, 1, 7)]), (16, 2, 2, 6, 0, 0, []), (18, 27, 0, 1, 0, 0, []), (19, 3, 2, 4, 0, 0, []), (21, 10, 0, 2, 0, 0, []), (22, 3, 1, 2, 0, 0, []), (23, 4, 1, 0, 0, 0, []), (24, 25, 4, 7, 4, 0, [(0, 23, 14), (0, 1, 8)]), (27, 2, 2, 6, 0, 0, []), (29, 27, 0, 1, 0, 0, []), (30, 10, 0, 2, 0, 0, []), (31, 32, 37, 3, 22, 0, []), (35, 0, 1, 0, 0, 0, []), (36, 48, 0, 0, 0, 0, []), (37, 4, 1, 0, 0, 0, []), (38, 2, 2, 6, 0, 0, []), (40, 4, 1, 0, 0, 0, []), (41, 25, 4, 6, 4, 0, [(0, 23, 14), (0, 1, 7)]), (44, 2, 2, 6, 0, 0, []), (46, 27, 0, 1, 0, 0, []), (47, 3, 2, 4, 0, 0, []), (49, 10, 0, 2, 0, 0, []), (50, 3, 1, 2, 0, 0, []), (51, 4, 1, 0, 0, 0, []), (52, 25, 4, 7, 4, 0, [(0, 23, 14), (0, 1, 8)]), (55, 2, 2, 6, 0, 0, []), (57, 27, 0, 1, 0, 0, []), (58, 10, 0, 2, 0, 0, []), (59, 10, 0, 1, 0, 0, []), (60, 4, 1, 0, 0, 0, []), (61, 25, 4, 7, 4, 0, [(0, 23, 14), (0, 1, 8)]), (64, 2, 2, 6, 0, 0, []), (66, 27, 0, 1, 0, 0, []), (67, 3, 2, 4, 0, 0, []), (69, 10, 0, 2, 0, 0, []), (70, 40, 1, 4, 6, 0, []), (73, 4, 1, 0, 0, 0, []), (74, 25, 4, 6, 4, 0, [(0, 23, 14), (0, 1, 7)]), (77, 2, 2, 6, 0, 0, []), (79, 27, 0, 1, 0, 0, []), (80, 1, 1, 0, 0, 0, []), (81, 32, 162, 1, 95, 0, []), (85, 4, 1, 0, 0, 0, []), (86, 20, 0, 0, 0, 0, []), (87, 25, 4, 8, 0, 0, []), (90, 0, 1, 0, 0, 1, []), (91, 9, 0, 1, 0, 0, []), (92, 26, 4, 8, 0, 0, []), (95, 2, 2, 6, 0, 0, []), (97, 5, 2, 7, 0, 0, []), (99, 49, 0, 0, 0, 0, []), (99, 2, 2, 7, 0, 0, []), (101, 4, 1, 0, 0, 0, []), (102, 25, 4, 8, 0, 0, []), (105, 18, 162, 3, 95, 0, []), (108, 4, 1, 0, 0, 0, []), (109, 25, 4, 5, 4, 0, [(0, 20, 14), (0, 1, 6)]), (112, 2, 2, 7, 0, 0, []), (114, 4, 1, 0, 0, 0, []), (115, 25, 4, 5, 4, 0, [(0, 20, 14), (0, 1, 6)]), (118, 2, 2, 7, 0, 0, []), (120, 0, 1, 0, 0, 1, []), (121, 9, 0, 0, 0, 0, []), (122, 27, 0, 0, 0, 0, []), (123, 28, 0, 0, 0, 0, []), (124, 4, 1, 0, 0, 0, []), (125, 25, 4, 6, 4, 0, [(0, 23, 14), (0, 1, 7)]), (128, 2, 2, 7, 0, 0, []), (130, 4, 1, 0, 0, 0, []), (131, 25, 4, 6, 4, 0, [(0, 23, 14), (0, 1, 7)]), (134, 2, 2, 7, 0, 0, []), (136, 0, 1, 0, 0, 1, []), (137, 9, 0, 0, 0, 0, []), (138, 27, 0, 1, 0, 0, []), (139, 28, 0, 1, 0, 0, []), (140, 4, 1, 0, 0, 0, []), (141, 25, 4, 7, 4, 0, [(0, 23, 14), (0, 1, 8)]), (144, 2, 2, 7, 0, 0, []), (146, 4, 1, 0, 0, 0, []), (147, 25, 4, 7, 4, 0, [(0, 23, 14), (0, 1, 8)]), (150, 2, 2, 7, 0, 0, []), (152, 0, 1, 0, 0, 1, []), (153, 9, 0, 0, 0, 0, []), (154, 27, 0, 1, 0, 0, []), (155, 28, 0, 1, 0, 0, []), (156, 8, 0, 7, 0, 1, []), (159, 19, 99, 0, 58, 0, []), (162, 0, 1, 0, 0, 1, []), (163, 48, 0, 0, 0, 0, [])]
set_option maxRecDepth 20000 in
theorem qX4_takeOfff : f_all yX4_takeOff YX4_takeOff pX4_takeOfff :=
  ⟨f_aload_n (n := 0) (e_dx DX4_takeOff_0 0 rfl) rfl,
  f_iload_n (n := 1) (e_dx DX4_takeOff_0 1 rfl) rfl,
  x_callV (e_dx DX4_takeOff_0 2 rfl) mwX4_placeOf vwX4_placeOf cX4_59 rfl,
  f_istore (e_dx DX4_takeOff_0 3 rfl) (by decide),
  f_iload (e_dx DX4_takeOff_0 4 rfl),
  f_if_lt (e_dx DX4_takeOff_0 5 rfl) rfl,
  f_aload_n (n := 0) (e_dx DX4_takeOff_0 6 rfl) rfl,
  f_getA (e_dx DX4_takeOff_0 7 rfl) fX4_41 rfl (by decide) (Nat.le_of_ble_eq_true rfl) rfl (by decide),
  f_iload (e_dx DX4_takeOff_0 8 rfl),
  f_laload (e_dx DX4_takeOff_0 9 rfl),
  f_lload (e_dx DX4_takeOff_0 10 rfl),
  f_lmul (e_dx DX4_takeOff_0 11 rfl),
  f_lload_n (n := 2) (e_dx DX4_takeOff_0 12 rfl) rfl,
  f_aload_n (n := 0) (e_dx DX4_takeOff_0 13 rfl) rfl,
  f_getA (e_dx DX4_takeOff_0 14 rfl) fX4_45 rfl (by decide) (Nat.le_of_ble_eq_true rfl) rfl (by decide),
  f_iload (e_dx DX4_takeOff_0 15 rfl),
  f_laload (e_dx DX4_takeOff_0 16 rfl),
  f_lmul (e_dx DX4_takeOff_0 17 rfl),
  f_lif_ge (e_dx DX4_takeOff_0 18 rfl) (e_dx DX4_takeOff_0 19 rfl) rfl,
  f_iconst (e_dx DX4_takeOff_0 20 rfl) ⟨by decide, by decide⟩,
  ⟨(e_dx DX4_takeOff_0 21 rfl), rfl⟩,
  f_aload_n (n := 0) (e_dx DX4_takeOff_0 22 rfl) rfl,
  f_iload (e_dx DX4_takeOff_0 23 rfl),
  f_aload_n (n := 0) (e_dx DX4_takeOff_0 24 rfl) rfl,
  f_getA (e_dx DX4_takeOff_0 25 rfl) fX4_41 rfl (by decide) (Nat.le_of_ble_eq_true rfl) rfl (by decide),
  f_iload (e_dx DX4_takeOff_0 26 rfl),
  f_laload (e_dx DX4_takeOff_0 27 rfl),
  f_lload (e_dx DX4_takeOff_0 28 rfl),
  f_lmul (e_dx DX4_takeOff_0 29 rfl),
  f_lload_n (n := 2) (e_dx DX4_takeOff_0 30 rfl) rfl,
  f_aload_n (n := 0) (e_dx DX4_takeOff_0 31 rfl) rfl,
  f_getA (e_dx DX4_takeOff_0 32 rfl) fX4_45 rfl (by decide) (Nat.le_of_ble_eq_true rfl) rfl (by decide),
  f_iload (e_dx DX4_takeOff_0 33 rfl),
  f_laload (e_dx DX4_takeOff_0 34 rfl),
  f_lmul (e_dx DX4_takeOff_0 35 rfl),
  f_lsub (e_dx DX4_takeOff_0 36 rfl),
  f_aload_n (n := 0) (e_dx DX4_takeOff_0 37 rfl) rfl,
  f_getA (e_dx DX4_takeOff_0 38 rfl) fX4_45 rfl (by decide) (Nat.le_of_ble_eq_true rfl) rfl (by decide),
  f_iload (e_dx DX4_takeOff_0 39 rfl),
  f_laload (e_dx DX4_takeOff_1 0 rfl),
  f_lload (e_dx DX4_takeOff_1 1 rfl),
  f_lmul (e_dx DX4_takeOff_1 2 rfl),
  x_callV (e_dx DX4_takeOff_1 3 rfl) mwX4_put vwX4_put cX4_63 rfl,
  f_aload_n (n := 0) (e_dx DX4_takeOff_1 4 rfl) rfl,
  f_getA (e_dx DX4_takeOff_1 5 rfl) fX4_41 rfl (by decide) (Nat.le_of_ble_eq_true rfl) rfl (by decide),
  f_iload (e_dx DX4_takeOff_1 6 rfl),
  f_laload (e_dx DX4_takeOff_1 7 rfl),
  f_lconst (n := 0) (e_dx DX4_takeOff_1 8 rfl) rfl,
  f_lif_ne (e_dx DX4_takeOff_1 9 rfl) (e_dx DX4_takeOff_1 10 rfl) rfl,
  f_aload_n (n := 0) (e_dx DX4_takeOff_1 11 rfl) rfl,
  f_g20 (e_dx DX4_takeOff_1 12 rfl),
  f_getf (e_dx DX4_takeOff_1 13 rfl) fX4_48 rfl (by decide) (by decide) (by decide),
  f_iconst (e_dx DX4_takeOff_1 14 rfl) ⟨by decide, by decide⟩,
  f_isub (e_dx DX4_takeOff_1 15 rfl),
  f_putn (e_dx DX4_takeOff_1 16 rfl) fX4_48 (fun q hq => by cases hq; rfl) rfl (Or.inl rfl) (by decide),
  f_iload (e_dx DX4_takeOff_1 17 rfl),
  f_istore (e_dx DX4_takeOff_1 18 rfl) (by decide),
  trivial,
  f_iload (e_dx DX4_takeOff_1 19 rfl),
  f_aload_n (n := 0) (e_dx DX4_takeOff_1 20 rfl) rfl,
  f_getf (e_dx DX4_takeOff_1 21 rfl) fX4_48 rfl (by decide) (by decide) (by decide),
  f_icmp_ge (e_dx DX4_takeOff_1 22 rfl) rfl,
  f_aload_n (n := 0) (e_dx DX4_takeOff_1 23 rfl) rfl,
  f_getA (e_dx DX4_takeOff_1 24 rfl) fX4_37 rfl (by decide) (Nat.le_of_ble_eq_true rfl) rfl (by decide),
  f_iload (e_dx DX4_takeOff_1 25 rfl),
  f_aload_n (n := 0) (e_dx DX4_takeOff_1 26 rfl) rfl,
  f_getA (e_dx DX4_takeOff_1 27 rfl) fX4_37 rfl (by decide) (Nat.le_of_ble_eq_true rfl) rfl (by decide),
  f_iload (e_dx DX4_takeOff_1 28 rfl),
  f_iconst (e_dx DX4_takeOff_1 29 rfl) ⟨by decide, by decide⟩,
  f_iadd (e_dx DX4_takeOff_1 30 rfl),
  f_iaload (e_dx DX4_takeOff_1 31 rfl),
  f_iastore (e_dx DX4_takeOff_1 32 rfl),
  f_aload_n (n := 0) (e_dx DX4_takeOff_1 33 rfl) rfl,
  f_getA (e_dx DX4_takeOff_1 34 rfl) fX4_41 rfl (by decide) (Nat.le_of_ble_eq_true rfl) rfl (by decide),
  f_iload (e_dx DX4_takeOff_1 35 rfl),
  f_aload_n (n := 0) (e_dx DX4_takeOff_1 36 rfl) rfl,
  f_getA (e_dx DX4_takeOff_1 37 rfl) fX4_41 rfl (by decide) (Nat.le_of_ble_eq_true rfl) rfl (by decide),
  f_iload (e_dx DX4_takeOff_1 38 rfl),
  f_iconst (e_dx DX4_takeOff_1 39 rfl) ⟨by decide, by decide⟩,
  f_iadd (e_dx DX4_takeOff_2 0 rfl),
  f_laload (e_dx DX4_takeOff_2 1 rfl),
  f_lastore (e_dx DX4_takeOff_2 2 rfl),
  f_aload_n (n := 0) (e_dx DX4_takeOff_2 3 rfl) rfl,
  f_getA (e_dx DX4_takeOff_2 4 rfl) fX4_45 rfl (by decide) (Nat.le_of_ble_eq_true rfl) rfl (by decide),
  f_iload (e_dx DX4_takeOff_2 5 rfl),
  f_aload_n (n := 0) (e_dx DX4_takeOff_2 6 rfl) rfl,
  f_getA (e_dx DX4_takeOff_2 7 rfl) fX4_45 rfl (by decide) (Nat.le_of_ble_eq_true rfl) rfl (by decide),
  f_iload (e_dx DX4_takeOff_2 8 rfl),
  f_iconst (e_dx DX4_takeOff_2 9 rfl) ⟨by decide, by decide⟩,
  f_iadd (e_dx DX4_takeOff_2 10 rfl),
  f_laload (e_dx DX4_takeOff_2 11 rfl),
  f_lastore (e_dx DX4_takeOff_2 12 rfl),
  f_g8 (e_dx DX4_takeOff_2 13 rfl) ⟨by decide, by decide⟩,
  f_g19 (e_dx DX4_takeOff_2 14 rfl) rfl,
  f_iconst (e_dx DX4_takeOff_2 15 rfl) ⟨by decide, by decide⟩,
  ⟨(e_dx DX4_takeOff_2 16 rfl), rfl⟩, trivial⟩
def lX4_takeOff (c_X4_placeOf : Nat → Int → e_M → (Int → Prop) → Prop) (c_X4_put : Nat → Int → Int → Int → e_M → (e_M → Prop) → Prop) : List (Nat × f_Wt) := [(0, f_wm [(3, 4, 9), (1, 0, 0)] (fun ar M R => c_X4_placeOf (f_va (f_nth ar 0)) (f_vi (f_nth ar 1)) M (fun r => R (some (.inl r)) M))), (1, f_wm [(3, 4, 9), (1, 0, 0), (2, 0, 0), (2, 0, 0)] (fun ar M R => c_X4_put (f_va (f_nth ar 0)) (f_vi (f_nth ar 1)) (f_vi (f_nth ar 2)) (f_vi (f_nth ar 3)) M (fun M => R none M)))]
set_option maxRecDepth 20000 in
theorem BX4_takeOff_99 {sh : Nat → Nat × Nat} {t : Nat} {rm : Nat × Nat × Nat} {cs : Nat × Nat} {R : f_Rt} {c_X4_placeOf : Nat → Int → e_M → (Int → Prop) → Prop} {c_X4_put : Nat → Int → Int → Int → e_M → (e_M → Prop) → Prop} {k99 : Nat → Int → e_M → Prop} {a0 : Nat} {x7 : Int} {M : e_M} (C : f_Hy sh t yX4_takeOff rm cs 6 (lX4_takeOff c_X4_placeOf c_X4_put) R) (h99 : ∀ (a0 : Nat) (x7 : Int) (M : e_M), k99 a0 x7 M → f_E sh t YX4_takeOff rm cs (f_Q sh t R) 99 [.inr (.inr (.inl (4, 9, a0))), .inr (.inr (.inr ())), .inr (.inr (.inr ())), .inr (.inr (.inr ())), .inr (.inr (.inr ())), .inr (.inr (.inr ())), .inr (.inr (.inr ())), .inl x7] [] M) (h : VX4_takeOff_99 c_X4_placeOf c_X4_put k99 (fun r M => R (some (.inl r)) M) a0 x7 M) : f_E sh t YX4_takeOff rm cs (f_Q sh t R) 99 [.inr (.inr (.inl (4, 9, a0))), .inr (.inr (.inr ())), .inr (.inr (.inr ())), .inr (.inr (.inr ())), .inr (.inr (.inr ())), .inr (.inr (.inr ())), .inr (.inr (.inr ())), .inl x7] [] M :=
  f_go (KC := f_kc [(99, f_pl [(3, 4, 9), (0, 0, 0), (0, 0, 0), (0, 0, 0), (0, 0, 0), (0, 0, 0), (0, 0, 0), (1, 0, 0)] [] (fun ls st M => k99 (f_va (f_nth ls 0)) (f_vi (f_nth ls 7)) M))]) C qX4_takeOfff (f_kc_cons (f_pl_ok rfl (fun ls st M h => h99 _ _ M h)) f_kc_nil) 98 58 h
set_option maxRecDepth 20000 in
theorem BX4_takeOff {sh : Nat → Nat × Nat} {t : Nat} {rm : Nat × Nat × Nat} {cs : Nat × Nat} {R : f_Rt} {c_X4_placeOf : Nat → Int → e_M → (Int → Prop) → Prop} {c_X4_put : Nat → Int → Int → Int → e_M → (e_M → Prop) → Prop} {k99 : Nat → Int → e_M → Prop} {a0 : Nat} {x1 : Int} {x2 : Int} {x4 : Int} {M : e_M} (C : f_Hy sh t yX4_takeOff rm cs 6 (lX4_takeOff c_X4_placeOf c_X4_put) R) (h99 : ∀ (a0 : Nat) (x7 : Int) (M : e_M), k99 a0 x7 M → f_E sh t YX4_takeOff rm cs (f_Q sh t R) 99 [.inr (.inr (.inl (4, 9, a0))), .inr (.inr (.inr ())), .inr (.inr (.inr ())), .inr (.inr (.inr ())), .inr (.inr (.inr ())), .inr (.inr (.inr ())), .inr (.inr (.inr ())), .inl x7] [] M) (h : VX4_takeOff c_X4_placeOf c_X4_put k99 (fun r M => R (some (.inl r)) M) a0 x1 x2 x4 M) : f_E sh t YX4_takeOff rm cs (f_Q sh t R) 0 [.inr (.inr (.inl (4, 9, a0))), .inl x1, .inr (.inl x2), .inr (.inr (.inr ())), .inr (.inl x4), .inr (.inr (.inr ())), .inr (.inr (.inr ())), .inr (.inr (.inr ()))] [] M :=
  f_go (KC := f_kc [(99, f_pl [(3, 4, 9), (0, 0, 0), (0, 0, 0), (0, 0, 0), (0, 0, 0), (0, 0, 0), (0, 0, 0), (1, 0, 0)] [] (fun ls st M => k99 (f_va (f_nth ls 0)) (f_vi (f_nth ls 7)) M))]) C qX4_takeOfff (f_kc_cons (f_pl_ok rfl (fun ls st M h => h99 _ _ M h)) f_kc_nil) 98 0 h
def WX4_takeOff_99 (Q : Int → e_M → Prop) : Nat → Nat → Int → e_M → Prop
  | 0, _, _, _ => False
  | n + 1, a0, x7, M =>
    VX4_takeOff_99 WX4_placeOf WX4_put (WX4_takeOff_99 Q n) Q a0 x7 M
def WX4_takeOff (a0 : Nat) (x1 : Int) (x2 : Int) (x4 : Int) (M : e_M) (Q : Int → e_M → Prop) : Prop :=
  VX4_takeOff WX4_placeOf WX4_put (fun a0 x7 M => ∃ j, WX4_takeOff_99 Q j a0 x7 M) Q a0 x1 x2 x4 M
theorem PX4_takeOff_99 {sh : Nat → Nat × Nat} {t : Nat} {rm : Nat × Nat × Nat} {cs : Nat × Nat} {R : f_Rt} (C : f_Hy sh t yX4_takeOff rm cs 6 (lX4_takeOff WX4_placeOf WX4_put) R) : ∀ (n : Nat) (a0 : Nat) (x7 : Int) (M : e_M), WX4_takeOff_99 (fun r M => R (some (.inl r)) M) n a0 x7 M → f_E sh t YX4_takeOff rm cs (f_Q sh t R) 99 [.inr (.inr (.inl (4, 9, a0))), .inr (.inr (.inr ())), .inr (.inr (.inr ())), .inr (.inr (.inr ())), .inr (.inr (.inr ())), .inr (.inr (.inr ())), .inr (.inr (.inr ())), .inl x7] [] M := by
  intro n
  induction n with
  | zero => intro a0 x7 M h; exact h.elim
  | succ n ih => intro a0 x7 M h; exact BX4_takeOff_99 C ih h
theorem PX4_takeOff {sh : Nat → Nat × Nat} {t : Nat} {rm : Nat × Nat × Nat} {cs : Nat × Nat} {R : f_Rt} {a0 : Nat} {x1 : Int} {x2 : Int} {x4 : Int} {M : e_M} (C : f_Hy sh t yX4_takeOff rm cs 6 (lX4_takeOff WX4_placeOf WX4_put) R) (h : WX4_takeOff a0 x1 x2 x4 M (fun r M => R (some (.inl r)) M)) : f_E sh t YX4_takeOff rm cs (f_Q sh t R) 0 [.inr (.inr (.inl (4, 9, a0))), .inl x1, .inr (.inl x2), .inr (.inr (.inr ())), .inr (.inl x4), .inr (.inr (.inr ())), .inr (.inr (.inr ())), .inr (.inr (.inr ()))] [] M :=
  BX4_takeOff C (fun a0 x7 M ⟨j, h⟩ => PX4_takeOff_99 C j _ _ _ h) h
def wX4_takeOff : f_Wt := f_wm [(3, 4, 9), (1, 0, 0), (2, 0, 0), (2, 0, 0)] (fun ar M R => WX4_takeOff (f_va (f_nth ar 0)) (f_vi (f_nth ar 1)) (f_vi (f_nth ar 2)) (f_vi (f_nth ar 3)) M (fun r M => R (some (.inl r)) M))
theorem TX4_takeOff {sh : Nat → Nat × Nat} {t : Nat} : f_Mt sh t YX4_takeOff 6 (wX4_takeOff) :=
  f_Mt_of (k := 2) (Nat.le_of_ble_eq_true rfl) rfl rfl (fun ar M R rm cs h1 h2 h3 hX h => PX4_takeOff ⟨Nat.le_of_ble_eq_true rfl, h1, h2, h3, ⟨(f_Mt.up (Nat.le_of_ble_eq_true rfl) TX4_placeOf), (f_Mt.up (Nat.le_of_ble_eq_true rfl) TX4_put), trivial⟩, hX⟩ h)
def VX4_give_65 (c_X4_placeOf : Nat → Int → e_M → (Int → Prop) → Prop) (c_X4_put : Nat → Int → Int → Int → e_M → (e_M → Prop) → Prop) (Q : e_M → Prop) (a0 : Nat) (x2 : Int) (x4 : Int) (x6 : Int) (M : e_M) : Prop :=
  ((0 ≤ x6 ∧ x6 < 14) ∧ ((0 ≤ x6 ∧ x6 < 14) ∧ ((0 ≤ x6 ∧ x6 < 14) ∧ (c_X4_put a0 x6 (e_w64 ((e_w64 ((M (a0 + 7) (x6.toNat)) * x4)) + (e_w64 (x2 * (M (a0 + 8) (x6.toNat)))))) (e_w64 ((M (a0 + 8) (x6.toNat)) * x4)) M (fun M1 => (Q M1))))))
def VX4_give (c_X4_placeOf : Nat → Int → e_M → (Int → Prop) → Prop) (c_X4_put : Nat → Int → Int → Int → e_M → (e_M → Prop) → Prop) (k65 : Nat → Int → Int → Int → e_M → Prop) (Q : e_M → Prop) (a0 : Nat) (x1 : Int) (x2 : Int) (x4 : Int) (M : e_M) : Prop :=
  (c_X4_placeOf a0 x1 M (fun r1 => ((0 ≤ r1 → (k65 a0 x2 x4 r1 M)) ∧ (r1 < 0 → (((M a0 8) < 14 → (∀ M2 : e_M, M2 = e_up M a0 8 (e_w32 ((M a0 8) + 1)) → ((0 ≤ (M a0 8) ∧ (M a0 8) < 14) ∧ (∀ M3 : e_M, M3 = e_up M2 (a0 + 6) ((M a0 8).toNat) x1 → ((0 ≤ (M a0 8) ∧ (M a0 8) < 14) ∧ (∀ M4 : e_M, M4 = e_up M3 (a0 + 7) ((M a0 8).toNat) 0 → ((0 ≤ (M a0 8) ∧ (M a0 8) < 14) ∧ (∀ M5 : e_M, M5 = e_up M4 (a0 + 8) ((M a0 8).toNat) 1 → (k65 a0 x2 x4 (M a0 8) M5))))))))) ∧ (14 ≤ (M a0 8) → (Q M)))))))
def yX4_give (i : Nat) : e_Y := x_get YX4_give [YX4_placeOf, YX4_put] i
def pX4_givef : List x_I := [(0, 4, 1, 0, 0, 0, []), (1, 2, 1, 1, 0, 0, []), (2, 40, 0, 2, 6, 0, []), (5, 5, 2, 6, 0, 0, []), (7, 2, 2, 6, 0, 0, []), (9, 17, 65, 3, 38, 0, []), (12, 4, 1, 0, 0, 0, []), (13, 25, 4, 8, 0, 0, []), (16, 4, 1, 0, 0, 0, []), (17, 25, 4, 5, 4, 0, [(0, 20, 14), (0, 1, 6)]), (20, 31, 0, 0, 0, 0, []), (21, 18, 25, 2, 14, 0, []), (24, 44, 0, 0, 0, 0, []), (25, 4, 1, 0, 0, 0, []), (26, 25, 4, 8, 0, 0, []), (29, 5, 2, 6, 0, 0, []), (31, 4, 1, 0, 0, 0, []), (32, 20, 0, 0, 0, 0, []), (33, 25, 4, 8, 0, 0, []), (36, 0, 1, 0, 0, 1, []), (37, 9, 0, 0, 0, 0, []), (38, 26, 4, 8, 0, 0, []), (41, 4, 1, 0, 0, 0, []), (42, 25, 4, 5, 4, 0, [(0, 20, 14), (0, 1, 6)]), (45, 2, 2, 6, 0, 0, []), (47, 2, 1, 1, 0, 0, []), (48, 28, 0, 0, 0, 0, []), (49, 4, 1, 0, 0, 0, []), (50, 25, 4, 6, 4, 0, [(0, 23, 14), (0, 1, 7)]), (53, 2, 2, 6, 0, 0, []), (55, 1, 1, 0, 0, 0, []), (56, 28, 0, 1, 0, 0, []), (57, 4, 1, 0, 0, 0, []), (58, 25, 4, 7, 4, 0, [(0, 23, 14), (0, 1, 8)]), (61, 2, 2, 6, 0, 0, []), (63, 1, 1, 0, 0, 1, []), (64, 28, 0, 1, 0, 0, []), (65, 49, 0, 0, 0, 0, []), (65, 4, 1, 0, 0, 0, []), (66, 2, 2, 6, 0, 0, []), (68, 4, 1, 0, 0, 0, []), (69, 25, 4, 6, 4, 0, [(0, 23, 14), (0, 1, 7)]), (72, 2, 2, 6, 0, 0, []), (74, 27, 0, 1, 0, 0, []), (75, 3, 2, 4, 0, 0, []), (77, 10, 0, 2, 0, 0, []), (78, 3, 1, 2, 0, 0, []), (79, 4, 1, 0, 0, 0, []), (80, 25, 4, 7, 4, 0, [(0, 23, 14), (0, 1, 8)]), (83, 2, 2, 6, 0, 0, []), (85, 27, 0, 1, 0, 0, []), (86, 10, 0, 2, 0, 0, []), (87, 10, 0, 0, 0, 0, []), (88, 4, 1, 0, 0, 0, []), (89, 25, 4, 7, 4, 0, [(0, 23, 14), (0, 1, 8)]), (92, 2, 2, 6, 0, 0, []), (94, 27, 0, 1, 0, 0, []), (95, 3, 2, 4, 0, 0, []), (97, 10, 0, 2, 0, 0, []), (98, 40, 1, 4, 6, 0, []), (101, 44, 0, 0, 0, 0, [])]
set_option maxRecDepth 20000 in
theorem qX4_givef : f_all yX4_give YX4_give pX4_givef :=
  ⟨f_aload_n (n := 0) (e_dx DX4_give_0 0 rfl) rfl,
  f_iload_n (n := 1) (e_dx DX4_give_0 1 rfl) rfl,
  x_callV (e_dx DX4_give_0 2 rfl) mwX4_placeOf vwX4_placeOf cX4_59 rfl,
  f_istore (e_dx DX4_give_0 3 rfl) (by decide),
  f_iload (e_dx DX4_give_0 4 rfl),
  f_if_ge (e_dx DX4_give_0 5 rfl) rfl,
  f_aload_n (n := 0) (e_dx DX4_give_0 6 rfl) rfl,
  f_getf (e_dx DX4_give_0 7 rfl) fX4_48 rfl (by decide) (by decide) (by decide),
  f_aload_n (n := 0) (e_dx DX4_give_0 8 rfl) rfl,
  f_getA (e_dx DX4_give_0 9 rfl) fX4_37 rfl (by decide) (Nat.le_of_ble_eq_true rfl) rfl (by decide),
  f_g31 (e_dx DX4_give_0 10 rfl),
  f_icmp_lt (e_dx DX4_give_0 11 rfl) rfl,
  ⟨(e_dx DX4_give_0 12 rfl), rfl⟩,
  f_aload_n (n := 0) (e_dx DX4_give_0 13 rfl) rfl,
  f_getf (e_dx DX4_give_0 14 rfl) fX4_48 rfl (by decide) (by decide) (by decide),
  f_istore (e_dx DX4_give_0 15 rfl) (by decide),
  f_aload_n (n := 0) (e_dx DX4_give_0 16 rfl) rfl,
  f_g20 (e_dx DX4_give_0 17 rfl),
  f_getf (e_dx DX4_give_0 18 rfl) fX4_48 rfl (by decide) (by decide) (by decide),
  f_iconst (e_dx DX4_give_0 19 rfl) ⟨by decide, by decide⟩,
  f_iadd (e_dx DX4_give_0 20 rfl),
  f_putn (e_dx DX4_give_0 21 rfl) fX4_48 (fun q hq => by cases hq; rfl) rfl (Or.inl rfl) (by decide),
  f_aload_n (n := 0) (e_dx DX4_give_0 22 rfl) rfl,
  f_getA (e_dx DX4_give_0 23 rfl) fX4_37 rfl (by decide) (Nat.le_of_ble_eq_true rfl) rfl (by decide),
  f_iload (e_dx DX4_give_0 24 rfl),
  f_iload_n (n := 1) (e_dx DX4_give_0 25 rfl) rfl,
  f_iastore (e_dx DX4_give_0 26 rfl),
  f_aload_n (n := 0) (e_dx DX4_give_0 27 rfl) rfl,
  f_getA (e_dx DX4_give_0 28 rfl) fX4_41 rfl (by decide) (Nat.le_of_ble_eq_true rfl) rfl (by decide),
  f_iload (e_dx DX4_give_0 29 rfl),
  f_lconst (n := 0) (e_dx DX4_give_0 30 rfl) rfl,
  f_lastore (e_dx DX4_give_0 31 rfl),
  f_aload_n (n := 0) (e_dx DX4_give_0 32 rfl) rfl,
  f_getA (e_dx DX4_give_0 33 rfl) fX4_45 rfl (by decide) (Nat.le_of_ble_eq_true rfl) rfl (by decide),
  f_iload (e_dx DX4_give_0 34 rfl),
  f_lconst (n := 1) (e_dx DX4_give_0 35 rfl) rfl,
  f_lastore (e_dx DX4_give_0 36 rfl),
  trivial,
  f_aload_n (n := 0) (e_dx DX4_give_0 37 rfl) rfl,
  f_iload (e_dx DX4_give_0 38 rfl),
  f_aload_n (n := 0) (e_dx DX4_give_0 39 rfl) rfl,
  f_getA (e_dx DX4_give_1 0 rfl) fX4_41 rfl (by decide) (Nat.le_of_ble_eq_true rfl) rfl (by decide),
  f_iload (e_dx DX4_give_1 1 rfl),
  f_laload (e_dx DX4_give_1 2 rfl),
  f_lload (e_dx DX4_give_1 3 rfl),
  f_lmul (e_dx DX4_give_1 4 rfl),
  f_lload_n (n := 2) (e_dx DX4_give_1 5 rfl) rfl,
  f_aload_n (n := 0) (e_dx DX4_give_1 6 rfl) rfl,
  f_getA (e_dx DX4_give_1 7 rfl) fX4_45 rfl (by decide) (Nat.le_of_ble_eq_true rfl) rfl (by decide),
  f_iload (e_dx DX4_give_1 8 rfl),
  f_laload (e_dx DX4_give_1 9 rfl),
  f_lmul (e_dx DX4_give_1 10 rfl),
  f_ladd (e_dx DX4_give_1 11 rfl),
  f_aload_n (n := 0) (e_dx DX4_give_1 12 rfl) rfl,
  f_getA (e_dx DX4_give_1 13 rfl) fX4_45 rfl (by decide) (Nat.le_of_ble_eq_true rfl) rfl (by decide),
  f_iload (e_dx DX4_give_1 14 rfl),
  f_laload (e_dx DX4_give_1 15 rfl),
  f_lload (e_dx DX4_give_1 16 rfl),
  f_lmul (e_dx DX4_give_1 17 rfl),
  x_callV (e_dx DX4_give_1 18 rfl) mwX4_put vwX4_put cX4_63 rfl,
  ⟨(e_dx DX4_give_1 19 rfl), rfl⟩, trivial⟩
def lX4_give (c_X4_placeOf : Nat → Int → e_M → (Int → Prop) → Prop) (c_X4_put : Nat → Int → Int → Int → e_M → (e_M → Prop) → Prop) : List (Nat × f_Wt) := [(0, f_wm [(3, 4, 9), (1, 0, 0)] (fun ar M R => c_X4_placeOf (f_va (f_nth ar 0)) (f_vi (f_nth ar 1)) M (fun r => R (some (.inl r)) M))), (1, f_wm [(3, 4, 9), (1, 0, 0), (2, 0, 0), (2, 0, 0)] (fun ar M R => c_X4_put (f_va (f_nth ar 0)) (f_vi (f_nth ar 1)) (f_vi (f_nth ar 2)) (f_vi (f_nth ar 3)) M (fun M => R none M)))]
set_option maxRecDepth 20000 in
theorem BX4_give_65 {sh : Nat → Nat × Nat} {t : Nat} {rm : Nat × Nat × Nat} {cs : Nat × Nat} {R : f_Rt} {c_X4_placeOf : Nat → Int → e_M → (Int → Prop) → Prop} {c_X4_put : Nat → Int → Int → Int → e_M → (e_M → Prop) → Prop} {a0 : Nat} {x2 : Int} {x4 : Int} {x6 : Int} {M : e_M} (C : f_Hy sh t yX4_give rm cs 6 (lX4_give c_X4_placeOf c_X4_put) R) (h : VX4_give_65 c_X4_placeOf c_X4_put (fun M => R none M) a0 x2 x4 x6 M) : f_E sh t YX4_give rm cs (f_Q sh t R) 65 [.inr (.inr (.inl (4, 9, a0))), .inr (.inr (.inr ())), .inr (.inl x2), .inr (.inr (.inr ())), .inr (.inl x4), .inr (.inr (.inr ())), .inl x6] [] M :=
  f_go (KC := f_kc []) C qX4_givef f_kc_nil 63 38 h
set_option maxRecDepth 20000 in
theorem BX4_give {sh : Nat → Nat × Nat} {t : Nat} {rm : Nat × Nat × Nat} {cs : Nat × Nat} {R : f_Rt} {c_X4_placeOf : Nat → Int → e_M → (Int → Prop) → Prop} {c_X4_put : Nat → Int → Int → Int → e_M → (e_M → Prop) → Prop} {k65 : Nat → Int → Int → Int → e_M → Prop} {a0 : Nat} {x1 : Int} {x2 : Int} {x4 : Int} {M : e_M} (C : f_Hy sh t yX4_give rm cs 6 (lX4_give c_X4_placeOf c_X4_put) R) (h65 : ∀ (a0 : Nat) (x2 : Int) (x4 : Int) (x6 : Int) (M : e_M), k65 a0 x2 x4 x6 M → f_E sh t YX4_give rm cs (f_Q sh t R) 65 [.inr (.inr (.inl (4, 9, a0))), .inr (.inr (.inr ())), .inr (.inl x2), .inr (.inr (.inr ())), .inr (.inl x4), .inr (.inr (.inr ())), .inl x6] [] M) (h : VX4_give c_X4_placeOf c_X4_put k65 (fun M => R none M) a0 x1 x2 x4 M) : f_E sh t YX4_give rm cs (f_Q sh t R) 0 [.inr (.inr (.inl (4, 9, a0))), .inl x1, .inr (.inl x2), .inr (.inr (.inr ())), .inr (.inl x4), .inr (.inr (.inr ())), .inr (.inr (.inr ()))] [] M :=
  f_go (KC := f_kc [(65, f_pl [(3, 4, 9), (0, 0, 0), (2, 0, 0), (0, 0, 0), (2, 0, 0), (0, 0, 0), (1, 0, 0)] [] (fun ls st M => k65 (f_va (f_nth ls 0)) (f_vi (f_nth ls 2)) (f_vi (f_nth ls 4)) (f_vi (f_nth ls 6)) M))]) C qX4_givef (f_kc_cons (f_pl_ok rfl (fun ls st M h => h65 _ _ _ _ M h)) f_kc_nil) 63 0 h
def WX4_give_65 (Q : e_M → Prop) (a0 : Nat) (x2 : Int) (x4 : Int) (x6 : Int) (M : e_M) : Prop :=
  VX4_give_65 WX4_placeOf WX4_put Q a0 x2 x4 x6 M
def WX4_give (a0 : Nat) (x1 : Int) (x2 : Int) (x4 : Int) (M : e_M) (Q : e_M → Prop) : Prop :=
  VX4_give WX4_placeOf WX4_put (WX4_give_65 Q) Q a0 x1 x2 x4 M
theorem PX4_give_65 {sh : Nat → Nat × Nat} {t : Nat} {rm : Nat × Nat × Nat} {cs : Nat × Nat} {R : f_Rt} {a0 : Nat} {x2 : Int} {x4 : Int} {x6 : Int} {M : e_M} (C : f_Hy sh t yX4_give rm cs 6 (lX4_give WX4_placeOf WX4_put) R) (h : WX4_give_65 (fun M => R none M) a0 x2 x4 x6 M) : f_E sh t YX4_give rm cs (f_Q sh t R) 65 [.inr (.inr (.inl (4, 9, a0))), .inr (.inr (.inr ())), .inr (.inl x2), .inr (.inr (.inr ())), .inr (.inl x4), .inr (.inr (.inr ())), .inl x6] [] M :=
  BX4_give_65 C h
theorem PX4_give {sh : Nat → Nat × Nat} {t : Nat} {rm : Nat × Nat × Nat} {cs : Nat × Nat} {R : f_Rt} {a0 : Nat} {x1 : Int} {x2 : Int} {x4 : Int} {M : e_M} (C : f_Hy sh t yX4_give rm cs 6 (lX4_give WX4_placeOf WX4_put) R) (h : WX4_give a0 x1 x2 x4 M (fun M => R none M)) : f_E sh t YX4_give rm cs (f_Q sh t R) 0 [.inr (.inr (.inl (4, 9, a0))), .inl x1, .inr (.inl x2), .inr (.inr (.inr ())), .inr (.inl x4), .inr (.inr (.inr ())), .inr (.inr (.inr ()))] [] M :=
  BX4_give C (fun a0 x2 x4 x6 M h => PX4_give_65 C h) h
def wX4_give : f_Wt := f_wm [(3, 4, 9), (1, 0, 0), (2, 0, 0), (2, 0, 0)] (fun ar M R => WX4_give (f_va (f_nth ar 0)) (f_vi (f_nth ar 1)) (f_vi (f_nth ar 2)) (f_vi (f_nth ar 3)) M (fun M => R none M))
theorem TX4_give {sh : Nat → Nat × Nat} {t : Nat} : f_Mt sh t YX4_give 6 (wX4_give) :=
  f_Mt_of (k := 1) (Nat.le_of_ble_eq_true rfl) rfl rfl (fun ar M R rm cs h1 h2 h3 hX h => PX4_give ⟨Nat.le_of_ble_eq_true rfl, h1, h2, h3, ⟨(f_Mt.up (Nat.le_of_ble_eq_true rfl) TX4_placeOf), (f_Mt.up (Nat.le_of_ble_eq_true rfl) TX4_put), trivial⟩, hX⟩ h)
def VX0_draftHeirs_93 (c_X10_lot : Nat → Int → e_M → (Nat → Prop) → Prop) (c_X4_placeOf : Nat → Int → e_M → (Int → Prop) → Prop) (c_X4_copyOwners : Nat → Nat → e_M → (e_M → Prop) → Prop) (c_X4_takeOff : Nat → Int → Int → Int → e_M → (Int → e_M → Prop) → Prop) (c_X4_give : Nat → Int → Int → Int → e_M → (e_M → Prop) → Prop) (k96 : Nat → Int → Int → e_M → Prop) (Q : Int → e_M → Prop) (a3 : Nat) (x4 : Int) (M : e_M) : Prop :=
  (k96 a3 x4 0 M)
def VX0_draftHeirs_96 (c_X10_lot : Nat → Int → e_M → (Nat → Prop) → Prop) (c_X4_placeOf : Nat → Int → e_M → (Int → Prop) → Prop) (c_X4_copyOwners : Nat → Nat → e_M → (e_M → Prop) → Prop) (c_X4_takeOff : Nat → Int → Int → Int → e_M → (Int → e_M → Prop) → Prop) (c_X4_give : Nat → Int → Int → Int → e_M → (e_M → Prop) → Prop) (k96 : Nat → Int → Int → e_M → Prop) (Q : Int → e_M → Prop) (a3 : Nat) (x4 : Int) (x5 : Int) (M : e_M) : Prop :=
  (((M ((M 4423 1).toNat) 15) ≤ x5 → (Q 1 M)) ∧ (x5 < (M ((M 4423 1).toNat) 15) → ((0 ≤ (e_w32 (x5 + 1)) ∧ (e_w32 (x5 + 1)) < 8) ∧ ((0 ≤ x4 ∧ x4 < 14) ∧ ((0 ≤ x5 ∧ x5 < 6) ∧ ((0 ≤ x4 ∧ x4 < 14) ∧ ((0 ≤ x5 ∧ x5 < 6) ∧ (c_X4_give 4443 (M 4425 ((e_w32 (x5 + 1)).toNat)) (e_w64 ((M (a3 + 7) (x4.toNat)) * (M ((M 4423 1).toNat + 3) (x5.toNat)))) (e_w64 ((M (a3 + 8) (x4.toNat)) * (M ((M 4423 1).toNat + 4) (x5.toNat)))) M (fun M1 => (k96 a3 x4 (e_w32 (x5 + 1)) M1))))))))))
def VX0_draftHeirs (c_X10_lot : Nat → Int → e_M → (Nat → Prop) → Prop) (c_X4_placeOf : Nat → Int → e_M → (Int → Prop) → Prop) (c_X4_copyOwners : Nat → Nat → e_M → (e_M → Prop) → Prop) (c_X4_takeOff : Nat → Int → Int → Int → e_M → (Int → e_M → Prop) → Prop) (c_X4_give : Nat → Int → Int → Int → e_M → (e_M → Prop) → Prop) (k93 : Nat → Int → e_M → Prop) (Q : Int → e_M → Prop) (x1 : Int) (x2 : Int) (M : e_M) : Prop :=
  (c_X10_lot ((M 4423 0).toNat) x1 M (fun r1 => (c_X4_placeOf r1 x2 M (fun r2 => ((¬ (M r1 1) = 0 → (Q 0 M)) ∧ ((M r1 1) = 0 → ((0 ≤ r2 → (c_X4_copyOwners 4443 r1 M (fun M3 => ((0 ≤ r2 ∧ r2 < 14) ∧ ((0 ≤ r2 ∧ r2 < 14) ∧ (c_X4_takeOff 4443 x2 (M3 (r1 + 7) (r2.toNat)) (M3 (r1 + 8) (r2.toNat)) M3 (fun r4 M5 => ((¬ (M5 ((M5 4423 1).toNat) 15) = 0 → (k93 r1 r2 M5)) ∧ ((M5 ((M5 4423 1).toNat) 15) = 0 → ((0 ≤ r2 ∧ r2 < 14) ∧ ((0 ≤ r2 ∧ r2 < 14) ∧ (c_X4_give 4443 0 (M5 (r1 + 7) (r2.toNat)) (M5 (r1 + 8) (r2.toNat)) M5 (fun M6 => (k93 r1 r2 M6)))))))))))))) ∧ (r2 < 0 → (Q 0 M)))))))))
def yX0_draftHeirs (i : Nat) : e_Y := x_get YX0_draftHeirs [YX10_lot, YX4_placeOf, YX4_copyOwners, YX4_takeOff, YX4_give] i
def pX0_draftHeirsf : List x_I := [(0, 4, 1, 0, 0, 0, []), (1, 25, 0, 0, 4, 0, [(0, 10, 15), (0, 0, 0)]), (4, 2, 1, 1, 0, 0, []), (5, 40, 0, 2, 12, 0, []), (8, 7, 1, 3, 0, 0, []), (9, 4, 1, 3, 0, 0, []), (10, 2, 1, 2, 0, 0, []), (11, 40, 1, 2, 6, 0, []), (14, 5, 2, 4, 0, 0, []), (16, 4, 1, 3, 0, 0, []), (17, 25, 4, 1, 1, 0, []), (20, 17, 28, 1, 15, 0, []), (23, 2, 2, 4, 0, 0, []), (25, 17, 30, 3, 17, 0, []), (28, 0, 1, 0, 0, 0, []), (29, 48, 0, 0, 0, 0, []), (30, 4, 1, 0, 0, 0, []), (31, 25, 0, 6, 4, 0, [(0, 4, 9), (0, 1, 20)]), (34, 4, 1, 3, 0, 0, []), (35, 40, 2, 2, 6, 0, []), (38, 4, 1, 0, 0, 0, []), (39, 25, 0, 6, 4, 0, [(0, 4, 9), (0, 1, 20)]), (42, 2, 1, 2, 0, 0, []), (43, 4, 1, 3, 0, 0, []), (44, 25, 4, 6, 4, 0, [(0, 23, 14), (0, 1, 7)]), (47, 2, 2, 4, 0, 0, []), (49, 27, 0, 1, 0, 0, []), (50, 4, 1, 3, 0, 0, []), (51, 25, 4, 7, 4, 0, [(0, 23, 14), (0, 1, 8)]), (54, 2, 2, 4, 0, 0, []), (56, 27, 0, 1, 0, 0, []), (57, 40, 3, 4, 6, 0, []), (60, 21, 0, 0, 0, 0, []), (61, 4, 1, 0, 0, 0, []), (62, 25, 0, 1, 4, 0, [(0, 2, 19), (0, 0, 0)]), (65, 25, 2, 15, 0, 0, []), (68, 17, 93, 1, 50, 0, []), (71, 4, 1, 0, 0, 0, []), (72, 25, 0, 6, 4, 0, [(0, 4, 9), (0, 1, 20)]), (75, 0, 1, 0, 0, 0, []), (76, 4, 1, 3, 0, 0, []), (77, 25, 4, 6, 4, 0, [(0, 23, 14), (0, 1, 7)]), (80, 2, 2, 4, 0, 0, []), (82, 27, 0, 1, 0, 0, []), (83, 4, 1, 3, 0, 0, []), (84, 25, 4, 7, 4, 0, [(0, 23, 14), (0, 1, 8)]), (87, 2, 2, 4, 0, 0, []), (89, 27, 0, 1, 0, 0, []), (90, 40, 4, 4, 6, 0, []), (93, 49, 0, 0, 0, 0, []), (93, 0, 1, 0, 0, 0, []), (94, 5, 2, 5, 0, 0, []), (96, 49, 0, 0, 0, 0, []), (96, 2, 2, 5, 0, 0, []), (98, 4, 1, 0, 0, 0, []), (99, 25, 0, 1, 4, 0, [(0, 2, 19), (0, 0, 0)]), (102, 25, 2, 15, 0, 0, []), (105, 18, 166, 3, 90, 0, []), (108, 4, 1, 0, 0, 0, []), (109, 25, 0, 6, 4, 0, [(0, 4, 9), (0, 1, 20)]), (112, 4, 1, 0, 0, 0, []), (113, 25, 0, 4, 4, 0, [(0, 20, 8), (0, 1, 2)]), (116, 2, 2, 5, 0, 0, []), (118, 0, 1, 0, 0, 1, []), (119, 9, 0, 0, 0, 0, []), (120, 27, 0, 0, 0, 0, []), (121, 4, 1, 3, 0, 0, []), (122, 25, 4, 6, 4, 0, [(0, 23, 14), (0, 1, 7)]), (125, 2, 2, 4, 0, 0, []), (127, 27, 0, 1, 0, 0, []), (128, 4, 1, 0, 0, 0, []), (129, 25, 0, 1, 4, 0, [(0, 2, 19), (0, 0, 0)]), (132, 25, 2, 13, 4, 0, [(0, 23, 6), (0, 1, 3)]), (135, 2, 2, 5, 0, 0, []), (137, 27, 0, 1, 0, 0, []), (138, 10, 0, 2, 0, 0, []), (139, 4, 1, 3, 0, 0, []), (140, 25, 4, 7, 4, 0, [(0, 23, 14), (0, 1, 8)]), (143, 2, 2, 4, 0, 0, []), (145, 27, 0, 1, 0, 0, []), (146, 4, 1, 0, 0, 0, []), (147, 25, 0, 1, 4, 0, [(0, 2, 19), (0, 0, 0)]), (150, 25, 2, 14, 4, 0, [(0, 23, 6), (0, 1, 4)]), (153, 2, 2, 5, 0, 0, []), (155, 27, 0, 1, 0, 0, []), (156, 10, 0, 2, 0, 0, []), (157, 40, 4, 4, 6, 0, []), (160, 8, 0, 5, 0, 1, []), (163, 19, 96, 0, 53, 0, []), (166, 0, 1, 0, 0, 1, []), (167, 48, 0, 0, 0, 0, [])]
set_option maxRecDepth 20000 in
theorem qX0_draftHeirsf : f_all yX0_draftHeirs YX0_draftHeirs pX0_draftHeirsf :=
  ⟨f_aload_n (n := 0) (e_dx DX0_draftHeirs_0 0 rfl) rfl,
  f_getA (e_dx DX0_draftHeirs_0 1 rfl) fX0_36 rfl (by decide) (Nat.le_of_ble_eq_true rfl) rfl (by decide),
  f_iload_n (n := 1) (e_dx DX0_draftHeirs_0 2 rfl) rfl,
  x_callV (e_dx DX0_draftHeirs_0 3 rfl) mwX10_lot vwX10_lot cX0_161 rfl,
  f_astore_n (n := 3) (e_dx DX0_draftHeirs_0 4 rfl) rfl (by decide),
  f_aload_n (n := 3) (e_dx DX0_draftHeirs_0 5 rfl) rfl,
  f_iload_n (n := 2) (e_dx DX0_draftHeirs_0 6 rfl) rfl,
  x_callV (e_dx DX0_draftHeirs_0 7 rfl) mwX4_placeOf vwX4_placeOf cX0_244 rfl,
  f_istore (e_dx DX0_draftHeirs_0 8 rfl) (by decide),
  f_aload_n (n := 3) (e_dx DX0_draftHeirs_0 9 rfl) rfl,
  f_getf (e_dx DX0_draftHeirs_0 10 rfl) fX0_247 rfl (by decide) (by decide) (by decide),
  f_if_ne (e_dx DX0_draftHeirs_0 11 rfl) rfl,
  f_iload (e_dx DX0_draftHeirs_0 12 rfl),
  f_if_ge (e_dx DX0_draftHeirs_0 13 rfl) rfl,
  f_iconst (e_dx DX0_draftHeirs_0 14 rfl) ⟨by decide, by decide⟩,
  ⟨(e_dx DX0_draftHeirs_0 15 rfl), rfl⟩,
  f_aload_n (n := 0) (e_dx DX0_draftHeirs_0 16 rfl) rfl,
  f_getA (e_dx DX0_draftHeirs_0 17 rfl) fX0_32 rfl (by decide) (Nat.le_of_ble_eq_true rfl) rfl (by decide),
  f_aload_n (n := 3) (e_dx DX0_draftHeirs_0 18 rfl) rfl,
  x_callV (e_dx DX0_draftHeirs_0 19 rfl) mwX4_copyOwners vwX4_copyOwners cX0_232 rfl,
  f_aload_n (n := 0) (e_dx DX0_draftHeirs_0 20 rfl) rfl,
  f_getA (e_dx DX0_draftHeirs_0 21 rfl) fX0_32 rfl (by decide) (Nat.le_of_ble_eq_true rfl) rfl (by decide),
  f_iload_n (n := 2) (e_dx DX0_draftHeirs_0 22 rfl) rfl,
  f_aload_n (n := 3) (e_dx DX0_draftHeirs_0 23 rfl) rfl,
  f_getA (e_dx DX0_draftHeirs_0 24 rfl) fX0_248 rfl (by decide) (Nat.le_of_ble_eq_true rfl) rfl (by decide),
  f_iload (e_dx DX0_draftHeirs_0 25 rfl),
  f_laload (e_dx DX0_draftHeirs_0 26 rfl),
  f_aload_n (n := 3) (e_dx DX0_draftHeirs_0 27 rfl) rfl,
  f_getA (e_dx DX0_draftHeirs_0 28 rfl) fX0_251 rfl (by decide) (Nat.le_of_ble_eq_true rfl) rfl (by decide),
  f_iload (e_dx DX0_draftHeirs_0 29 rfl),
  f_laload (e_dx DX0_draftHeirs_0 30 rfl),
  x_callV (e_dx DX0_draftHeirs_0 31 rfl) mwX4_takeOff vwX4_takeOff cX0_254 rfl,
  f_g21 (e_dx DX0_draftHeirs_0 32 rfl),
  f_aload_n (n := 0) (e_dx DX0_draftHeirs_0 33 rfl) rfl,
  f_getA (e_dx DX0_draftHeirs_0 34 rfl) fX0_40 rfl (by decide) (Nat.le_of_ble_eq_true rfl) rfl (by decide),
  f_getf (e_dx DX0_draftHeirs_0 35 rfl) fX0_217 rfl (by decide) (by decide) (by decide),
  f_if_ne (e_dx DX0_draftHeirs_0 36 rfl) rfl,
  f_aload_n (n := 0) (e_dx DX0_draftHeirs_0 37 rfl) rfl,
  f_getA (e_dx DX0_draftHeirs_0 38 rfl) fX0_32 rfl (by decide) (Nat.le_of_ble_eq_true rfl) rfl (by decide),
  f_iconst (e_dx DX0_draftHeirs_0 39 rfl) ⟨by decide, by decide⟩,
  f_aload_n (n := 3) (e_dx DX0_draftHeirs_1 0 rfl) rfl,
  f_getA (e_dx DX0_draftHeirs_1 1 rfl) fX0_248 rfl (by decide) (Nat.le_of_ble_eq_true rfl) rfl (by decide),
  f_iload (e_dx DX0_draftHeirs_1 2 rfl),
  f_laload (e_dx DX0_draftHeirs_1 3 rfl),
  f_aload_n (n := 3) (e_dx DX0_draftHeirs_1 4 rfl) rfl,
  f_getA (e_dx DX0_draftHeirs_1 5 rfl) fX0_251 rfl (by decide) (Nat.le_of_ble_eq_true rfl) rfl (by decide),
  f_iload (e_dx DX0_draftHeirs_1 6 rfl),
  f_laload (e_dx DX0_draftHeirs_1 7 rfl),
  x_callV (e_dx DX0_draftHeirs_1 8 rfl) mwX4_give vwX4_give cX0_258 rfl,
  trivial,
  f_iconst (e_dx DX0_draftHeirs_1 9 rfl) ⟨by decide, by decide⟩,
  f_istore (e_dx DX0_draftHeirs_1 10 rfl) (by decide),
  trivial,
  f_iload (e_dx DX0_draftHeirs_1 11 rfl),
  f_aload_n (n := 0) (e_dx DX0_draftHeirs_1 12 rfl) rfl,
  f_getA (e_dx DX0_draftHeirs_1 13 rfl) fX0_40 rfl (by decide) (Nat.le_of_ble_eq_true rfl) rfl (by decide),
  f_getf (e_dx DX0_draftHeirs_1 14 rfl) fX0_217 rfl (by decide) (by decide) (by decide),
  f_icmp_ge (e_dx DX0_draftHeirs_1 15 rfl) rfl,
  f_aload_n (n := 0) (e_dx DX0_draftHeirs_1 16 rfl) rfl,
  f_getA (e_dx DX0_draftHeirs_1 17 rfl) fX0_32 rfl (by decide) (Nat.le_of_ble_eq_true rfl) rfl (by decide),
  f_aload_n (n := 0) (e_dx DX0_draftHeirs_1 18 rfl) rfl,
  f_getA (e_dx DX0_draftHeirs_1 19 rfl) fX0_19 rfl (by decide) (Nat.le_of_ble_eq_true rfl) rfl (by decide),
  f_iload (e_dx DX0_draftHeirs_1 20 rfl),
  f_iconst (e_dx DX0_draftHeirs_1 21 rfl) ⟨by decide, by decide⟩,
  f_iadd (e_dx DX0_draftHeirs_1 22 rfl),
  f_iaload (e_dx DX0_draftHeirs_1 23 rfl),
  f_aload_n (n := 3) (e_dx DX0_draftHeirs_1 24 rfl) rfl,
  f_getA (e_dx DX0_draftHeirs_1 25 rfl) fX0_248 rfl (by decide) (Nat.le_of_ble_eq_true rfl) rfl (by decide),
  f_iload (e_dx DX0_draftHeirs_1 26 rfl),
  f_laload (e_dx DX0_draftHeirs_1 27 rfl),
  f_aload_n (n := 0) (e_dx DX0_draftHeirs_1 28 rfl) rfl,
  f_getA (e_dx DX0_draftHeirs_1 29 rfl) fX0_40 rfl (by decide) (Nat.le_of_ble_eq_true rfl) rfl (by decide),
  f_getA (e_dx DX0_draftHeirs_1 30 rfl) fX0_262 rfl (by decide) (Nat.le_of_ble_eq_true rfl) rfl (by decide),
  f_iload (e_dx DX0_draftHeirs_1 31 rfl),
  f_laload (e_dx DX0_draftHeirs_1 32 rfl),
  f_lmul (e_dx DX0_draftHeirs_1 33 rfl),
  f_aload_n (n := 3) (e_dx DX0_draftHeirs_1 34 rfl) rfl,
  f_getA (e_dx DX0_draftHeirs_1 35 rfl) fX0_251 rfl (by decide) (Nat.le_of_ble_eq_true rfl) rfl (by decide),
  f_iload (e_dx DX0_draftHeirs_1 36 rfl),
  f_laload (e_dx DX0_draftHeirs_1 37 rfl),
  f_aload_n (n := 0) (e_dx DX0_draftHeirs_1 38 rfl) rfl,
  f_getA (e_dx DX0_draftHeirs_1 39 rfl) fX0_40 rfl (by decide) (Nat.le_of_ble_eq_true rfl) rfl (by decide),
  f_getA (e_dx DX0_draftHeirs_2 0 rfl) fX0_265 rfl (by decide) (Nat.le_of_ble_eq_true rfl) rfl (by decide),
  f_iload (e_dx DX0_draftHeirs_2 1 rfl),
  f_laload (e_dx DX0_draftHeirs_2 2 rfl),
  f_lmul (e_dx DX0_draftHeirs_2 3 rfl),
  x_callV (e_dx DX0_draftHeirs_2 4 rfl) mwX4_give vwX4_give cX0_258 rfl,
  f_g8 (e_dx DX0_draftHeirs_2 5 rfl) ⟨by decide, by decide⟩,
  f_g19 (e_dx DX0_draftHeirs_2 6 rfl) rfl,
  f_iconst (e_dx DX0_draftHeirs_2 7 rfl) ⟨by decide, by decide⟩,
  ⟨(e_dx DX0_draftHeirs_2 8 rfl), rfl⟩, trivial⟩
def lX0_draftHeirs (c_X10_lot : Nat → Int → e_M → (Nat → Prop) → Prop) (c_X4_placeOf : Nat → Int → e_M → (Int → Prop) → Prop) (c_X4_copyOwners : Nat → Nat → e_M → (e_M → Prop) → Prop) (c_X4_takeOff : Nat → Int → Int → Int → e_M → (Int → e_M → Prop) → Prop) (c_X4_give : Nat → Int → Int → Int → e_M → (e_M → Prop) → Prop) : List (Nat × f_Wt) := [(0, f_wm [(3, 10, 15), (1, 0, 0)] (fun ar M R => c_X10_lot (f_va (f_nth ar 0)) (f_vi (f_nth ar 1)) M (fun r => R (some (.inr (.inr (.inl (4, 9, r))))) M))), (1, f_wm [(3, 4, 9), (1, 0, 0)] (fun ar M R => c_X4_placeOf (f_va (f_nth ar 0)) (f_vi (f_nth ar 1)) M (fun r => R (some (.inl r)) M))), (2, f_wm [(3, 4, 9), (3, 4, 9)] (fun ar M R => c_X4_copyOwners (f_va (f_nth ar 0)) (f_va (f_nth ar 1)) M (fun M => R none M))), (3, f_wm [(3, 4, 9), (1, 0, 0), (2, 0, 0), (2, 0, 0)] (fun ar M R => c_X4_takeOff (f_va (f_nth ar 0)) (f_vi (f_nth ar 1)) (f_vi (f_nth ar 2)) (f_vi (f_nth ar 3)) M (fun r M => R (some (.inl r)) M))), (4, f_wm [(3, 4, 9), (1, 0, 0), (2, 0, 0), (2, 0, 0)] (fun ar M R => c_X4_give (f_va (f_nth ar 0)) (f_vi (f_nth ar 1)) (f_vi (f_nth ar 2)) (f_vi (f_nth ar 3)) M (fun M => R none M)))]
set_option maxRecDepth 20000 in
theorem BX0_draftHeirs_93 {sh : Nat → Nat × Nat} {t : Nat} {rm : Nat × Nat × Nat} {cs : Nat × Nat} {R : f_Rt} {c_X10_lot : Nat → Int → e_M → (Nat → Prop) → Prop} {c_X4_placeOf : Nat → Int → e_M → (Int → Prop) → Prop} {c_X4_copyOwners : Nat → Nat → e_M → (e_M → Prop) → Prop} {c_X4_takeOff : Nat → Int → Int → Int → e_M → (Int → e_M → Prop) → Prop} {c_X4_give : Nat → Int → Int → Int → e_M → (e_M → Prop) → Prop} {k96 : Nat → Int → Int → e_M → Prop} {a3 : Nat} {x4 : Int} {M : e_M} (C : f_Hy sh t yX0_draftHeirs rm cs 7 (lX0_draftHeirs c_X10_lot c_X4_placeOf c_X4_copyOwners c_X4_takeOff c_X4_give) R) (h96 : ∀ (a3 : Nat) (x4 : Int) (x5 : Int) (M : e_M), k96 a3 x4 x5 M → f_E sh t YX0_draftHeirs rm cs (f_Q sh t R) 96 [.inr (.inr (.inl (0, 7, 4423))), .inr (.inr (.inr ())), .inr (.inr (.inr ())), .inr (.inr (.inl (4, 9, a3))), .inl x4, .inl x5] [] M) (h : VX0_draftHeirs_93 c_X10_lot c_X4_placeOf c_X4_copyOwners c_X4_takeOff c_X4_give k96 (fun r M => R (some (.inl r)) M) a3 x4 M) : f_E sh t YX0_draftHeirs rm cs (f_Q sh t R) 93 [.inr (.inr (.inl (0, 7, 4423))), .inr (.inr (.inr ())), .inr (.inr (.inr ())), .inr (.inr (.inl (4, 9, a3))), .inl x4, .inr (.inr (.inr ()))] [] M :=
  f_go (KC := f_kc [(96, f_pl [(4433, 0, 7), (0, 0, 0), (0, 0, 0), (3, 4, 9), (1, 0, 0), (1, 0, 0)] [] (fun ls st M => k96 (f_va (f_nth ls 3)) (f_vi (f_nth ls 4)) (f_vi (f_nth ls 5)) M))]) C qX0_draftHeirsf (f_kc_cons (f_pl_ok rfl (fun ls st M h => h96 _ _ _ M h)) f_kc_nil) 93 50 h
set_option maxRecDepth 20000 in
theorem BX0_draftHeirs_96 {sh : Nat → Nat × Nat} {t : Nat} {rm : Nat × Nat × Nat} {cs : Nat × Nat} {R : f_Rt} {c_X10_lot : Nat → Int → e_M → (Nat → Prop) → Prop} {c_X4_placeOf : Nat → Int → e_M → (Int → Prop) → Prop} {c_X4_copyOwners : Nat → Nat → e_M → (e_M → Prop) → Prop} {c_X4_takeOff : Nat → Int → Int → Int → e_M → (Int → e_M → Prop) → Prop} {c_X4_give : Nat → Int → Int → Int → e_M → (e_M → Prop) → Prop} {k96 : Nat → Int → Int → e_M → Prop} {a3 : Nat} {x4 : Int} {x5 : Int} {M : e_M} (C : f_Hy sh t yX0_draftHeirs rm cs 7 (lX0_draftHeirs c_X10_lot c_X4_placeOf c_X4_copyOwners c_X4_takeOff c_X4_give) R) (h96 : ∀ (a3 : Nat) (x4 : Int) (x5 : Int) (M : e_M), k96 a3 x4 x5 M → f_E sh t YX0_draftHeirs rm cs (f_Q sh t R) 96 [.inr (.inr (.inl (0, 7, 4423))), .inr (.inr (.inr ())), .inr (.inr (.inr ())), .inr (.inr (.inl (4, 9, a3))), .inl x4, .inl x5] [] M) (h : VX0_draftHeirs_96 c_X10_lot c_X4_placeOf c_X4_copyOwners c_X4_takeOff c_X4_give k96 (fun r M => R (some (.inl r)) M) a3 x4 x5 M) : f_E sh t YX0_draftHeirs rm cs (f_Q sh t R) 96 [.inr (.inr (.inl (0, 7, 4423))), .inr (.inr (.inr ())), .inr (.inr (.inr ())), .inr (.inr (.inl (4, 9, a3))), .inl x4, .inl x5] [] M :=
  f_go (KC := f_kc [(96, f_pl [(4433, 0, 7), (0, 0, 0), (0, 0, 0), (3, 4, 9), (1, 0, 0), (1, 0, 0)] [] (fun ls st M => k96 (f_va (f_nth ls 3)) (f_vi (f_nth ls 4)) (f_vi (f_nth ls 5)) M))]) C qX0_draftHeirsf (f_kc_cons (f_pl_ok rfl (fun ls st M h => h96 _ _ _ M h)) f_kc_nil) 93 53 h
set_option maxRecDepth 20000 in
theorem BX0_draftHeirs {sh : Nat → Nat × Nat} {t : Nat} {rm : Nat × Nat × Nat} {cs : Nat × Nat} {R : f_Rt} {c_X10_lot : Nat → Int → e_M → (Nat → Prop) → Prop} {c_X4_placeOf : Nat → Int → e_M → (Int → Prop) → Prop} {c_X4_copyOwners : Nat → Nat → e_M → (e_M → Prop) → Prop} {c_X4_takeOff : Nat → Int → Int → Int → e_M → (Int → e_M → Prop) → Prop} {c_X4_give : Nat → Int → Int → Int → e_M → (e_M → Prop) → Prop} {k93 : Nat → Int → e_M → Prop} {x1 : Int} {x2 : Int} {M : e_M} (C : f_Hy sh t yX0_draftHeirs rm cs 7 (lX0_draftHeirs c_X10_lot c_X4_placeOf c_X4_copyOwners c_X4_takeOff c_X4_give) R) (h93 : ∀ (a3 : Nat) (x4 : Int) (M : e_M), k93 a3 x4 M → f_E sh t YX0_draftHeirs rm cs (f_Q sh t R) 93 [.inr (.inr (.inl (0, 7, 4423))), .inr (.inr (.inr ())), .inr (.inr (.inr ())), .inr (.inr (.inl (4, 9, a3))), .inl x4, .inr (.inr (.inr ()))] [] M) (h : VX0_draftHeirs c_X10_lot c_X4_placeOf c_X4_copyOwners c_X4_takeOff c_X4_give k93 (fun r M => R (some (.inl r)) M) x1 x2 M) : f_E sh t YX0_draftHeirs rm cs (f_Q sh t R) 0 [.inr (.inr (.inl (0, 7, 4423))), .inl x1, .inl x2, .inr (.inr (.inr ())), .inr (.inr (.inr ())), .inr (.inr (.inr ()))] [] M :=
  f_go (KC := f_kc [(93, f_pl [(4433, 0, 7), (0, 0, 0), (0, 0, 0), (3, 4, 9), (1, 0, 0), (0, 0, 0)] [] (fun ls st M => k93 (f_va (f_nth ls 3)) (f_vi (f_nth ls 4)) M))]) C qX0_draftHeirsf (f_kc_cons (f_pl_ok rfl (fun ls st M h => h93 _ _ M h)) f_kc_nil) 93 0 h
def WX0_draftHeirs_96 (Q : Int → e_M → Prop) : Nat → Nat → Int → Int → e_M → Prop
  | 0, _, _, _, _ => False
  | n + 1, a3, x4, x5, M =>
    VX0_draftHeirs_96 WX10_lot WX4_placeOf WX4_copyOwners WX4_takeOff WX4_give (WX0_draftHeirs_96 Q n) Q a3 x4 x5 M
def WX0_draftHeirs_93 (Q : Int → e_M → Prop) (a3 : Nat) (x4 : Int) (M : e_M) : Prop :=
  VX0_draftHeirs_93 WX10_lot WX4_placeOf WX4_copyOwners WX4_takeOff WX4_give (fun a3 x4 x5 M => ∃ j, WX0_draftHeirs_96 Q j a3 x4 x5 M) Q a3 x4 M
def WX0_draftHeirs (x1 : Int) (x2 : Int) (M : e_M) (Q : Int → e_M → Prop) : Prop :=
  VX0_draftHeirs WX10_lot WX4_placeOf WX4_copyOwners WX4_takeOff WX4_give (WX0_draftHeirs_93 Q) Q x1 x2 M
theorem PX0_draftHeirs_96 {sh : Nat → Nat × Nat} {t : Nat} {rm : Nat × Nat × Nat} {cs : Nat × Nat} {R : f_Rt} (C : f_Hy sh t yX0_draftHeirs rm cs 7 (lX0_draftHeirs WX10_lot WX4_placeOf WX4_copyOwners WX4_takeOff WX4_give) R) : ∀ (n : Nat) (a3 : Nat) (x4 : Int) (x5 : Int) (M : e_M), WX0_draftHeirs_96 (fun r M => R (some (.inl r)) M) n a3 x4 x5 M → f_E sh t YX0_draftHeirs rm cs (f_Q sh t R) 96 [.inr (.inr (.inl (0, 7, 4423))), .inr (.inr (.inr ())), .inr (.inr (.inr ())), .inr (.inr (.inl (4, 9, a3))), .inl x4, .inl x5] [] M := by
  intro n
  induction n with
  | zero => intro a3 x4 x5 M h; exact h.elim
  | succ n ih => intro a3 x4 x5 M h; exact BX0_draftHeirs_96 C ih h
theorem PX0_draftHeirs_93 {sh : Nat → Nat × Nat} {t : Nat} {rm : Nat × Nat × Nat} {cs : Nat × Nat} {R : f_Rt} {a3 : Nat} {x4 : Int} {M : e_M} (C : f_Hy sh t yX0_draftHeirs rm cs 7 (lX0_draftHeirs WX10_lot WX4_placeOf WX4_copyOwners WX4_takeOff WX4_give) R) (h : WX0_draftHeirs_93 (fun r M => R (some (.inl r)) M) a3 x4 M) : f_E sh t YX0_draftHeirs rm cs (f_Q sh t R) 93 [.inr (.inr (.inl (0, 7, 4423))), .inr (.inr (.inr ())), .inr (.inr (.inr ())), .inr (.inr (.inl (4, 9, a3))), .inl x4, .inr (.inr (.inr ()))] [] M :=
  BX0_draftHeirs_93 C (fun a3 x4 x5 M ⟨j, h⟩ => PX0_draftHeirs_96 C j _ _ _ _ h) h
theorem PX0_draftHeirs {sh : Nat → Nat × Nat} {t : Nat} {rm : Nat × Nat × Nat} {cs : Nat × Nat} {R : f_Rt} {x1 : Int} {x2 : Int} {M : e_M} (C : f_Hy sh t yX0_draftHeirs rm cs 7 (lX0_draftHeirs WX10_lot WX4_placeOf WX4_copyOwners WX4_takeOff WX4_give) R) (h : WX0_draftHeirs x1 x2 M (fun r M => R (some (.inl r)) M)) : f_E sh t YX0_draftHeirs rm cs (f_Q sh t R) 0 [.inr (.inr (.inl (0, 7, 4423))), .inl x1, .inl x2, .inr (.inr (.inr ())), .inr (.inr (.inr ())), .inr (.inr (.inr ()))] [] M :=
  BX0_draftHeirs C (fun a3 x4 M h => PX0_draftHeirs_93 C h) h
def wX0_draftHeirs : f_Wt := f_wm [(4433, 0, 7), (1, 0, 0), (1, 0, 0)] (fun ar M R => WX0_draftHeirs (f_vi (f_nth ar 1)) (f_vi (f_nth ar 2)) M (fun r M => R (some (.inl r)) M))
theorem TX0_draftHeirs {sh : Nat → Nat × Nat} {t : Nat} : f_Mt sh t YX0_draftHeirs 7 (wX0_draftHeirs) :=
  f_Mt_of (k := 3) (Nat.le_of_ble_eq_true rfl) rfl rfl (fun ar M R rm cs h1 h2 h3 hX h => PX0_draftHeirs ⟨Nat.le_of_ble_eq_true rfl, h1, h2, h3, ⟨(f_Mt.up (Nat.le_of_ble_eq_true rfl) TX10_lot), (f_Mt.up (Nat.le_of_ble_eq_true rfl) TX4_placeOf), (f_Mt.up (Nat.le_of_ble_eq_true rfl) TX4_copyOwners), (f_Mt.up (Nat.le_of_ble_eq_true rfl) TX4_takeOff), (f_Mt.up (Nat.le_of_ble_eq_true rfl) TX4_give), trivial⟩, hX⟩ h)
def VX4_isTooFine_2 (k2 : Nat → Int → Prop) (Q : Int → Prop) (a0 : Nat) (x1 : Int) (M : e_M) : Prop :=
  (((M a0 8) ≤ x1 → (Q 0)) ∧ (x1 < (M a0 8) → ((0 ≤ x1 ∧ x1 < 14) ∧ (((M (a0 + 8) (x1.toNat)) ≤ 1000000 → (k2 a0 (e_w32 (x1 + 1)))) ∧ (1000000 < (M (a0 + 8) (x1.toNat)) → (Q 1))))))
def VX4_isTooFine (k2 : Nat → Int → Prop) (Q : Int → Prop) (a0 : Nat) (M : e_M) : Prop :=
  (k2 a0 0)
def yX4_isTooFine (i : Nat) : e_Y := x_get YX4_isTooFine [] i
def pX4_isTooFinef : List x_I := [(0, 0, 1, 0, 0, 0, []), (1, 5, 1, 1, 0, 0, []), (2, 49, 0, 0, 0, 0, []), (2, 2, 1, 1, 0, 0, []), (3, 4, 1, 0, 0, 0, []), (4, 25, 4, 8, 0, 0, []), (7, 18, 31, 3, 18, 0, []), (10, 4, 1, 0, 0, 0, []), (11, 25, 4, 7, 4, 0, [(0, 23, 14), (0, 1, 8)]), (14, 2, 1, 1, 0, 0, []), (15, 27, 0, 1, 0, 0, []), (16, 1, 3, 0, 0, 1000000, []), (19, 32, 25, 5, 16, 0, []), (23, 0, 1, 0, 0, 1, []), (24, 48, 0, 0, 0, 0, []), (25, 8, 0, 1, 0, 1, []), (28, 19, 2, 0, 3, 0, []), (31, 0, 1, 0, 0, 0, []), (32, 48, 0, 0, 0, 0, [])]
set_option maxRecDepth 20000 in
theorem qX4_isTooFinef : f_all yX4_isTooFine YX4_isTooFine pX4_isTooFinef :=
  ⟨f_iconst (e_dx DX4_isTooFine_0 0 rfl) ⟨by decide, by decide⟩,
  f_istore_n (n := 1) (e_dx DX4_isTooFine_0 1 rfl) rfl (by decide),
  trivial,
  f_iload_n (n := 1) (e_dx DX4_isTooFine_0 2 rfl) rfl,
  f_aload_n (n := 0) (e_dx DX4_isTooFine_0 3 rfl) rfl,
  f_getf (e_dx DX4_isTooFine_0 4 rfl) fX4_48 rfl (by decide) (by decide) (by decide),
  f_icmp_ge (e_dx DX4_isTooFine_0 5 rfl) rfl,
  f_aload_n (n := 0) (e_dx DX4_isTooFine_0 6 rfl) rfl,
  f_getA (e_dx DX4_isTooFine_0 7 rfl) fX4_45 rfl (by decide) (Nat.le_of_ble_eq_true rfl) rfl (by decide),
  f_iload_n (n := 1) (e_dx DX4_isTooFine_0 8 rfl) rfl,
  f_laload (e_dx DX4_isTooFine_0 9 rfl),
  f_ldc2 (e_dx DX4_isTooFine_0 10 rfl) hX4_70 rfl ⟨by decide, by decide⟩,
  f_lif_le (e_dx DX4_isTooFine_0 11 rfl) (e_dx DX4_isTooFine_0 12 rfl) rfl,
  f_iconst (e_dx DX4_isTooFine_0 13 rfl) ⟨by decide, by decide⟩,
  ⟨(e_dx DX4_isTooFine_0 14 rfl), rfl⟩,
  f_g8 (e_dx DX4_isTooFine_0 15 rfl) ⟨by decide, by decide⟩,
  f_g19 (e_dx DX4_isTooFine_0 16 rfl) rfl,
  f_iconst (e_dx DX4_isTooFine_0 17 rfl) ⟨by decide, by decide⟩,
  ⟨(e_dx DX4_isTooFine_0 18 rfl), rfl⟩, trivial⟩
def lX4_isTooFine : List (Nat × f_Wt) := []
set_option maxRecDepth 20000 in
theorem BX4_isTooFine_2 {sh : Nat → Nat × Nat} {t : Nat} {rm : Nat × Nat × Nat} {cs : Nat × Nat} {R : f_Rt} {k2 : Nat → Int → Prop} {a0 : Nat} {x1 : Int} {M : e_M} (C : f_Hy sh t yX4_isTooFine rm cs 4 (lX4_isTooFine) R) (h2 : ∀ (a0 : Nat) (x1 : Int), k2 a0 x1 → f_E sh t YX4_isTooFine rm cs (f_Q sh t R) 2 [.inr (.inr (.inl (4, 9, a0))), .inl x1] [] M) (h : VX4_isTooFine_2 k2 (fun r => R (some (.inl r)) M) a0 x1 M) : f_E sh t YX4_isTooFine rm cs (f_Q sh t R) 2 [.inr (.inr (.inl (4, 9, a0))), .inl x1] [] M := by
  rw [f_kk2 M k2] at h
  exact f_go (KC := f_kc [(2, f_pl [(3, 4, 9), (1, 0, 0)] [] (fun ls st M2 => M2 = M ∧ (k2 (f_va (f_nth ls 0)) (f_vi (f_nth ls 1)))))]) C qX4_isTooFinef (f_kc_cons (f_pl_ok rfl (fun ls st M2 ⟨e, hh⟩ => by subst e; exact h2 _ _ hh)) f_kc_nil) 21 3 h
set_option maxRecDepth 20000 in
theorem BX4_isTooFine {sh : Nat → Nat × Nat} {t : Nat} {rm : Nat × Nat × Nat} {cs : Nat × Nat} {R : f_Rt} {k2 : Nat → Int → Prop} {a0 : Nat} {M : e_M} (C : f_Hy sh t yX4_isTooFine rm cs 4 (lX4_isTooFine) R) (h2 : ∀ (a0 : Nat) (x1 : Int), k2 a0 x1 → f_E sh t YX4_isTooFine rm cs (f_Q sh t R) 2 [.inr (.inr (.inl (4, 9, a0))), .inl x1] [] M) (h : VX4_isTooFine k2 (fun r => R (some (.inl r)) M) a0 M) : f_E sh t YX4_isTooFine rm cs (f_Q sh t R) 0 [.inr (.inr (.inl (4, 9, a0))), .inr (.inr (.inr ()))] [] M := by
  rw [f_kk2 M k2] at h
  exact f_go (KC := f_kc [(2, f_pl [(3, 4, 9), (1, 0, 0)] [] (fun ls st M2 => M2 = M ∧ (k2 (f_va (f_nth ls 0)) (f_vi (f_nth ls 1)))))]) C qX4_isTooFinef (f_kc_cons (f_pl_ok rfl (fun ls st M2 ⟨e, hh⟩ => by subst e; exact h2 _ _ hh)) f_kc_nil) 21 0 h
def WX4_isTooFine_2 (M : e_M) (Q : Int → Prop) : Nat → Nat → Int → Prop
  | 0, _, _ => False
  | n + 1, a0, x1 =>
    VX4_isTooFine_2 (WX4_isTooFine_2 M Q n) Q a0 x1 M
def WX4_isTooFine (a0 : Nat) (M : e_M) (Q : Int → Prop) : Prop :=
  VX4_isTooFine (fun a0 x1 => ∃ j, WX4_isTooFine_2 M Q j a0 x1) Q a0 M
theorem PX4_isTooFine_2 {sh : Nat → Nat × Nat} {t : Nat} {rm : Nat × Nat × Nat} {cs : Nat × Nat} {R : f_Rt} {M : e_M} (C : f_Hy sh t yX4_isTooFine rm cs 4 (lX4_isTooFine) R) : ∀ (n : Nat) (a0 : Nat) (x1 : Int), WX4_isTooFine_2 M (fun r => R (some (.inl r)) M) n a0 x1 → f_E sh t YX4_isTooFine rm cs (f_Q sh t R) 2 [.inr (.inr (.inl (4, 9, a0))), .inl x1] [] M := by
  intro n
  induction n with
  | zero => intro a0 x1 h; exact h.elim
  | succ n ih => intro a0 x1 h; exact BX4_isTooFine_2 C ih h
theorem PX4_isTooFine {sh : Nat → Nat × Nat} {t : Nat} {rm : Nat × Nat × Nat} {cs : Nat × Nat} {R : f_Rt} {a0 : Nat} {M : e_M} (C : f_Hy sh t yX4_isTooFine rm cs 4 (lX4_isTooFine) R) (h : WX4_isTooFine a0 M (fun r => R (some (.inl r)) M)) : f_E sh t YX4_isTooFine rm cs (f_Q sh t R) 0 [.inr (.inr (.inl (4, 9, a0))), .inr (.inr (.inr ()))] [] M :=
  BX4_isTooFine C (fun a0 x1 ⟨j, h⟩ => PX4_isTooFine_2 C j _ _ h) h
def wX4_isTooFine : f_Wt := f_wm [(3, 4, 9)] (fun ar M R => WX4_isTooFine (f_va (f_nth ar 0)) M (fun r => R (some (.inl r)) M))
theorem TX4_isTooFine {sh : Nat → Nat × Nat} {t : Nat} : f_Mt sh t YX4_isTooFine 4 (wX4_isTooFine) :=
  f_Mt_of (k := 1) (Nat.le_of_ble_eq_true rfl) rfl rfl (fun ar M R rm cs h1 h2 h3 hX h => PX4_isTooFine ⟨Nat.le_of_ble_eq_true rfl, h1, h2, h3, trivial, hX⟩ h)
def VX0_endRightsOf_2 (c_X10_at : Nat → Int → Int → e_M → (Nat → Prop) → Prop) (k11 : Int → Int → Int → Int → e_M → Prop) (Q : e_M → Prop) (x1 : Int) (x2 : Int) (x3 : Int) (M : e_M) : Prop :=
  ((6 < x3 → (Q M)) ∧ (x3 ≤ 6 → (k11 x1 x2 x3 0 M)))
def VX0_endRightsOf_11 (c_X10_at : Nat → Int → Int → e_M → (Nat → Prop) → Prop) (k2 : Int → Int → Int → e_M → Prop) (k60 : Int → Int → Int → Int → Nat → e_M → Prop) (k75 : Int → Int → Int → Int → e_M → Prop) (Q : e_M → Prop) (x1 : Int) (x2 : Int) (x3 : Int) (x4 : Int) (M : e_M) : Prop :=
  ((0 ≤ x3 ∧ x3 < 8) ∧ (((M ((M 4423 0).toNat + 24) (x3.toNat)) ≤ x4 → (k2 x1 x2 (e_w32 (x3 + 1)) M)) ∧ (x4 < (M ((M 4423 0).toNat + 24) (x3.toNat)) → (c_X10_at ((M 4423 0).toNat) x3 x4 M (fun r1 => ((¬ (M r1 5) = x1 → (k60 x1 x2 x3 x4 r1 M)) ∧ ((M r1 5) = x1 → ((¬ x3 = 2 → (k60 x1 x2 x3 x4 r1 M)) ∧ (x3 = 2 → (∀ M2 : e_M, M2 = e_up M r1 5 x2 → (k75 x1 x2 x3 x4 M2)))))))))))
def VX0_endRightsOf_60 (c_X10_at : Nat → Int → Int → e_M → (Nat → Prop) → Prop) (k75 : Int → Int → Int → Int → e_M → Prop) (Q : e_M → Prop) (x1 : Int) (x2 : Int) (x3 : Int) (x4 : Int) (a5 : Nat) (M : e_M) : Prop :=
  ((¬ (M a5 5) = x1 → (k75 x1 x2 x3 x4 M)) ∧ ((M a5 5) = x1 → (((1 : Int) = 0 ∨ (1 : Int) = 1) ∧ (∀ M1 : e_M, M1 = e_up M a5 2 1 → (k75 x1 x2 x3 x4 M1)))))
def VX0_endRightsOf_75 (c_X10_at : Nat → Int → Int → e_M → (Nat → Prop) → Prop) (k11 : Int → Int → Int → Int → e_M → Prop) (Q : e_M → Prop) (x1 : Int) (x2 : Int) (x3 : Int) (x4 : Int) (M : e_M) : Prop :=
  (k11 x1 x2 x3 (e_w32 (x4 + 1)) M)
def VX0_endRightsOf (c_X10_at : Nat → Int → Int → e_M → (Nat → Prop) → Prop) (k2 : Int → Int → Int → e_M → Prop) (Q : e_M → Prop) (x1 : Int) (x2 : Int) (M : e_M) : Prop :=
  (k2 x1 x2 2 M)
def yX0_endRightsOf (i : Nat) : e_Y := x_get YX0_endRightsOf [YX10_at] i
def pX0_endRightsOff : List x_I := [(0, 0, 1, 0, 0, 2, []), (1, 5, 1, 3, 0, 0, []), (2, 49, 0, 0, 0, 0, []), (2, 2, 1, 3, 0, 0, []), (3, 0, 2, 0, 0, 6, []), (5, 18, 87, 4, 47, 0, []), (8, 0, 1, 0, 0, 0, []), (9, 5, 2, 4, 0, 0, []), (11, 49, 0, 0, 0, 0, []), (11, 2, 2, 4, 0, 0, []), (13, 4, 1, 0, 0, 0, []), (14, 25, 0, 0, 4, 0, [(0, 10, 15), (0, 0, 0)]), (17, 25, 10, 4, 4, 0, [(0, 20, 8), (0, 1, 24)]), (20, 2, 1, 3, 0, 0, []), (21, 27, 0, 0, 0, 0, []), (22, 18, 81, 3, 45, 0, []), (25, 4, 1, 0, 0, 0, []), (26, 25, 0, 0, 4, 0, [(0, 10, 15), (0, 0, 0)]), (29, 2, 1, 3, 0, 0, []), (30, 2, 2, 4, 0, 0, []), (32, 40, 0, 3, 12, 0, []), (35, 7, 2, 5, 0, 0, []), (37, 4, 2, 5, 0, 0, []), (39, 25, 9, 5, 0, 0, []), (42, 2, 1, 1, 0, 0, []), (43, 18, 60, 1, 34, 0, []), (46, 2, 1, 3, 0, 0, []), (47, 0, 1, 0, 0, 2, []), (48, 18, 60, 1, 34, 0, []), (51, 4, 2, 5, 0, 0, []), (53, 2, 1, 2, 0, 0, []), (54, 26, 9, 5, 0, 0, []), (57, 19, 75, 0, 42, 0, []), (60, 49, 0, 0, 0, 0, []), (60, 4, 2, 5, 0, 0, []), (62, 25, 9, 5, 0, 0, []), (65, 2, 1, 1, 0, 0, []), (66, 18, 75, 1, 42, 0, []), (69, 4, 2, 5, 0, 0, []), (71, 0, 1, 0, 0, 1, []), (72, 26, 9, 2, 1, 0, []), (75, 49, 0, 0, 0, 0, []), (75, 8, 0, 4, 0, 1, []), (78, 19, 11, 0, 9, 0, []), (81, 8, 0, 3, 0, 1, []), (84, 19, 2, 0, 3, 0, []), (87, 44, 0, 0, 0, 0, [])]
set_option maxRecDepth 20000 in
theorem qX0_endRightsOff : f_all yX0_endRightsOf YX0_endRightsOf pX0_endRightsOff :=
  ⟨f_iconst (e_dx DX0_endRightsOf_0 0 rfl) ⟨by decide, by decide⟩,
  f_istore_n (n := 3) (e_dx DX0_endRightsOf_0 1 rfl) rfl (by decide),
  trivial,
  f_iload_n (n := 3) (e_dx DX0_endRightsOf_0 2 rfl) rfl,
  f_bipush (e_dx DX0_endRightsOf_0 3 rfl) ⟨by decide, by decide⟩,
  f_icmp_gt (e_dx DX0_endRightsOf_0 4 rfl) rfl,
  f_iconst (e_dx DX0_endRightsOf_0 5 rfl) ⟨by decide, by decide⟩,
  f_istore (e_dx DX0_endRightsOf_0 6 rfl) (by decide),
  trivial,
  f_iload (e_dx DX0_endRightsOf_0 7 rfl),
  f_aload_n (n := 0) (e_dx DX0_endRightsOf_0 8 rfl) rfl,
  f_getA (e_dx DX0_endRightsOf_0 9 rfl) fX0_36 rfl (by decide) (Nat.le_of_ble_eq_true rfl) rfl (by decide),
  f_getA (e_dx DX0_endRightsOf_0 10 rfl) fX0_174 rfl (by decide) (Nat.le_of_ble_eq_true rfl) rfl (by decide),
  f_iload_n (n := 3) (e_dx DX0_endRightsOf_0 11 rfl) rfl,
  f_iaload (e_dx DX0_endRightsOf_0 12 rfl),
  f_icmp_ge (e_dx DX0_endRightsOf_0 13 rfl) rfl,
  f_aload_n (n := 0) (e_dx DX0_endRightsOf_0 14 rfl) rfl,
  f_getA (e_dx DX0_endRightsOf_0 15 rfl) fX0_36 rfl (by decide) (Nat.le_of_ble_eq_true rfl) rfl (by decide),
  f_iload_n (n := 3) (e_dx DX0_endRightsOf_0 16 rfl) rfl,
  f_iload (e_dx DX0_endRightsOf_0 17 rfl),
  x_callV (e_dx DX0_endRightsOf_0 18 rfl) mwX10_at vwX10_at cX0_152 rfl,
  f_astore (e_dx DX0_endRightsOf_0 19 rfl) (by decide),
  f_aload (e_dx DX0_endRightsOf_0 20 rfl),
  f_getf (e_dx DX0_endRightsOf_0 21 rfl) fX0_188 rfl (by decide) (by decide) (by decide),
  f_iload_n (n := 1) (e_dx DX0_endRightsOf_0 22 rfl) rfl,
  f_icmp_ne (e_dx DX0_endRightsOf_0 23 rfl) rfl,
  f_iload_n (n := 3) (e_dx DX0_endRightsOf_0 24 rfl) rfl,
  f_iconst (e_dx DX0_endRightsOf_0 25 rfl) ⟨by decide, by decide⟩,
  f_icmp_ne (e_dx DX0_endRightsOf_0 26 rfl) rfl,
  f_aload (e_dx DX0_endRightsOf_0 27 rfl),
  f_iload_n (n := 2) (e_dx DX0_endRightsOf_0 28 rfl) rfl,
  f_putn (e_dx DX0_endRightsOf_0 29 rfl) fX0_188 (fun q hq => by cases hq; rfl) rfl (Or.inl rfl) (by decide),
  f_g19 (e_dx DX0_endRightsOf_0 30 rfl) rfl,
  trivial,
  f_aload (e_dx DX0_endRightsOf_0 31 rfl),
  f_getf (e_dx DX0_endRightsOf_0 32 rfl) fX0_188 rfl (by decide) (by decide) (by decide),
  f_iload_n (n := 1) (e_dx DX0_endRightsOf_0 33 rfl) rfl,
  f_icmp_ne (e_dx DX0_endRightsOf_0 34 rfl) rfl,
  f_aload (e_dx DX0_endRightsOf_0 35 rfl),
  f_iconst (e_dx DX0_endRightsOf_0 36 rfl) ⟨by decide, by decide⟩,
  f_putn (e_dx DX0_endRightsOf_0 37 rfl) fX0_240 (fun q hq => by cases hq; rfl) rfl (Or.inr (Or.inl rfl)) (by decide),
  trivial,
  f_g8 (e_dx DX0_endRightsOf_0 38 rfl) ⟨by decide, by decide⟩,
  f_g19 (e_dx DX0_endRightsOf_0 39 rfl) rfl,
  f_g8 (e_dx DX0_endRightsOf_1 0 rfl) ⟨by decide, by decide⟩,
  f_g19 (e_dx DX0_endRightsOf_1 1 rfl) rfl,
  ⟨(e_dx DX0_endRightsOf_1 2 rfl), rfl⟩, trivial⟩
def lX0_endRightsOf (c_X10_at : Nat → Int → Int → e_M → (Nat → Prop) → Prop) : List (Nat × f_Wt) := [(0, f_wm [(3, 10, 15), (1, 0, 0), (1, 0, 0)] (fun ar M R => c_X10_at (f_va (f_nth ar 0)) (f_vi (f_nth ar 1)) (f_vi (f_nth ar 2)) M (fun r => R (some (.inr (.inr (.inl (9, 14, r))))) M)))]
set_option maxRecDepth 20000 in
theorem BX0_endRightsOf_2 {sh : Nat → Nat × Nat} {t : Nat} {rm : Nat × Nat × Nat} {cs : Nat × Nat} {R : f_Rt} {c_X10_at : Nat → Int → Int → e_M → (Nat → Prop) → Prop} {k11 : Int → Int → Int → Int → e_M → Prop} {x1 : Int} {x2 : Int} {x3 : Int} {M : e_M} (C : f_Hy sh t yX0_endRightsOf rm cs 5 (lX0_endRightsOf c_X10_at) R) (h11 : ∀ (x1 : Int) (x2 : Int) (x3 : Int) (x4 : Int) (M : e_M), k11 x1 x2 x3 x4 M → f_E sh t YX0_endRightsOf rm cs (f_Q sh t R) 11 [.inr (.inr (.inl (0, 7, 4423))), .inl x1, .inl x2, .inl x3, .inl x4, .inr (.inr (.inr ()))] [] M) (h : VX0_endRightsOf_2 c_X10_at k11 (fun M => R none M) x1 x2 x3 M) : f_E sh t YX0_endRightsOf rm cs (f_Q sh t R) 2 [.inr (.inr (.inl (0, 7, 4423))), .inl x1, .inl x2, .inl x3, .inr (.inr (.inr ())), .inr (.inr (.inr ()))] [] M :=
  f_go (KC := f_kc [(11, f_pl [(4433, 0, 7), (1, 0, 0), (1, 0, 0), (1, 0, 0), (1, 0, 0), (0, 0, 0)] [] (fun ls st M => k11 (f_vi (f_nth ls 1)) (f_vi (f_nth ls 2)) (f_vi (f_nth ls 3)) (f_vi (f_nth ls 4)) M))]) C qX0_endRightsOff (f_kc_cons (f_pl_ok rfl (fun ls st M h => h11 _ _ _ _ M h)) f_kc_nil) 49 3 h
set_option maxRecDepth 20000 in
theorem BX0_endRightsOf_11 {sh : Nat → Nat × Nat} {t : Nat} {rm : Nat × Nat × Nat} {cs : Nat × Nat} {R : f_Rt} {c_X10_at : Nat → Int → Int → e_M → (Nat → Prop) → Prop} {k2 : Int → Int → Int → e_M → Prop} {k60 : Int → Int → Int → Int → Nat → e_M → Prop} {k75 : Int → Int → Int → Int → e_M → Prop} {x1 : Int} {x2 : Int} {x3 : Int} {x4 : Int} {M : e_M} (C : f_Hy sh t yX0_endRightsOf rm cs 5 (lX0_endRightsOf c_X10_at) R) (h2 : ∀ (x1 : Int) (x2 : Int) (x3 : Int) (M : e_M), k2 x1 x2 x3 M → f_E sh t YX0_endRightsOf rm cs (f_Q sh t R) 2 [.inr (.inr (.inl (0, 7, 4423))), .inl x1, .inl x2, .inl x3, .inr (.inr (.inr ())), .inr (.inr (.inr ()))] [] M) (h60 : ∀ (x1 : Int) (x2 : Int) (x3 : Int) (x4 : Int) (a5 : Nat) (M : e_M), k60 x1 x2 x3 x4 a5 M → f_E sh t YX0_endRightsOf rm cs (f_Q sh t R) 60 [.inr (.inr (.inl (0, 7, 4423))), .inl x1, .inl x2, .inl x3, .inl x4, .inr (.inr (.inl (9, 14, a5)))] [] M) (h75 : ∀ (x1 : Int) (x2 : Int) (x3 : Int) (x4 : Int) (M : e_M), k75 x1 x2 x3 x4 M → f_E sh t YX0_endRightsOf rm cs (f_Q sh t R) 75 [.inr (.inr (.inl (0, 7, 4423))), .inl x1, .inl x2, .inl x3, .inl x4, .inr (.inr (.inr ()))] [] M) (h : VX0_endRightsOf_11 c_X10_at k2 k60 k75 (fun M => R none M) x1 x2 x3 x4 M) : f_E sh t YX0_endRightsOf rm cs (f_Q sh t R) 11 [.inr (.inr (.inl (0, 7, 4423))), .inl x1, .inl x2, .inl x3, .inl x4, .inr (.inr (.inr ()))] [] M :=
  f_go (KC := f_kc [(2, f_pl [(4433, 0, 7), (1, 0, 0), (1, 0, 0), (1, 0, 0), (0, 0, 0), (0, 0, 0)] [] (fun ls st M => k2 (f_vi (f_nth ls 1)) (f_vi (f_nth ls 2)) (f_vi (f_nth ls 3)) M)), (60, f_pl [(4433, 0, 7), (1, 0, 0), (1, 0, 0), (1, 0, 0), (1, 0, 0), (3, 9, 14)] [] (fun ls st M => k60 (f_vi (f_nth ls 1)) (f_vi (f_nth ls 2)) (f_vi (f_nth ls 3)) (f_vi (f_nth ls 4)) (f_va (f_nth ls 5)) M)), (75, f_pl [(4433, 0, 7), (1, 0, 0), (1, 0, 0), (1, 0, 0), (1, 0, 0), (0, 0, 0)] [] (fun ls st M => k75 (f_vi (f_nth ls 1)) (f_vi (f_nth ls 2)) (f_vi (f_nth ls 3)) (f_vi (f_nth ls 4)) M))]) C qX0_endRightsOff (f_kc_cons (f_pl_ok rfl (fun ls st M h => h2 _ _ _ M h)) (f_kc_cons (f_pl_ok rfl (fun ls st M h => h60 _ _ _ _ _ M h)) (f_kc_cons (f_pl_ok rfl (fun ls st M h => h75 _ _ _ _ M h)) f_kc_nil))) 49 9 h
set_option maxRecDepth 20000 in
theorem BX0_endRightsOf_60 {sh : Nat → Nat × Nat} {t : Nat} {rm : Nat × Nat × Nat} {cs : Nat × Nat} {R : f_Rt} {c_X10_at : Nat → Int → Int → e_M → (Nat → Prop) → Prop} {k75 : Int → Int → Int → Int → e_M → Prop} {x1 : Int} {x2 : Int} {x3 : Int} {x4 : Int} {a5 : Nat} {M : e_M} (C : f_Hy sh t yX0_endRightsOf rm cs 5 (lX0_endRightsOf c_X10_at) R) (h75 : ∀ (x1 : Int) (x2 : Int) (x3 : Int) (x4 : Int) (M : e_M), k75 x1 x2 x3 x4 M → f_E sh t YX0_endRightsOf rm cs (f_Q sh t R) 75 [.inr (.inr (.inl (0, 7, 4423))), .inl x1, .inl x2, .inl x3, .inl x4, .inr (.inr (.inr ()))] [] M) (h : VX0_endRightsOf_60 c_X10_at k75 (fun M => R none M) x1 x2 x3 x4 a5 M) : f_E sh t YX0_endRightsOf rm cs (f_Q sh t R) 60 [.inr (.inr (.inl (0, 7, 4423))), .inl x1, .inl x2, .inl x3, .inl x4, .inr (.inr (.inl (9, 14, a5)))] [] M :=
  f_go (KC := f_kc [(75, f_pl [(4433, 0, 7), (1, 0, 0), (1, 0, 0), (1, 0, 0), (1, 0, 0), (0, 0, 0)] [] (fun ls st M => k75 (f_vi (f_nth ls 1)) (f_vi (f_nth ls 2)) (f_vi (f_nth ls 3)) (f_vi (f_nth ls 4)) M))]) C qX0_endRightsOff (f_kc_cons (f_pl_ok rfl (fun ls st M h => h75 _ _ _ _ M h)) f_kc_nil) 49 34 h
set_option maxRecDepth 20000 in
theorem BX0_endRightsOf_75 {sh : Nat → Nat × Nat} {t : Nat} {rm : Nat × Nat × Nat} {cs : Nat × Nat} {R : f_Rt} {c_X10_at : Nat → Int → Int → e_M → (Nat → Prop) → Prop} {k11 : Int → Int → Int → Int → e_M → Prop} {x1 : Int} {x2 : Int} {x3 : Int} {x4 : Int} {M : e_M} (C : f_Hy sh t yX0_endRightsOf rm cs 5 (lX0_endRightsOf c_X10_at) R) (h11 : ∀ (x1 : Int) (x2 : Int) (x3 : Int) (x4 : Int) (M : e_M), k11 x1 x2 x3 x4 M → f_E sh t YX0_endRightsOf rm cs (f_Q sh t R) 11 [.inr (.inr (.inl (0, 7, 4423))), .inl x1, .inl x2, .inl x3, .inl x4, .inr (.inr (.inr ()))] [] M) (h : VX0_endRightsOf_75 c_X10_at k11 (fun M => R none M) x1 x2 x3 x4 M) : f_E sh t YX0_endRightsOf rm cs (f_Q sh t R) 75 [.inr (.inr (.inl (0, 7, 4423))), .inl x1, .inl x2, .inl x3, .inl x4, .inr (.inr (.inr ()))] [] M :=
  f_go (KC := f_kc [(11, f_pl [(4433, 0, 7), (1, 0, 0), (1, 0, 0), (1, 0, 0), (1, 0, 0), (0, 0, 0)] [] (fun ls st M => k11 (f_vi (f_nth ls 1)) (f_vi (f_nth ls 2)) (f_vi (f_nth ls 3)) (f_vi (f_nth ls 4)) M))]) C qX0_endRightsOff (f_kc_cons (f_pl_ok rfl (fun ls st M h => h11 _ _ _ _ M h)) f_kc_nil) 49 42 h
set_option maxRecDepth 20000 in
theorem BX0_endRightsOf {sh : Nat → Nat × Nat} {t : Nat} {rm : Nat × Nat × Nat} {cs : Nat × Nat} {R : f_Rt} {c_X10_at : Nat → Int → Int → e_M → (Nat → Prop) → Prop} {k2 : Int → Int → Int → e_M → Prop} {x1 : Int} {x2 : Int} {M : e_M} (C : f_Hy sh t yX0_endRightsOf rm cs 5 (lX0_endRightsOf c_X10_at) R) (h2 : ∀ (x1 : Int) (x2 : Int) (x3 : Int) (M : e_M), k2 x1 x2 x3 M → f_E sh t YX0_endRightsOf rm cs (f_Q sh t R) 2 [.inr (.inr (.inl (0, 7, 4423))), .inl x1, .inl x2, .inl x3, .inr (.inr (.inr ())), .inr (.inr (.inr ()))] [] M) (h : VX0_endRightsOf c_X10_at k2 (fun M => R none M) x1 x2 M) : f_E sh t YX0_endRightsOf rm cs (f_Q sh t R) 0 [.inr (.inr (.inl (0, 7, 4423))), .inl x1, .inl x2, .inr (.inr (.inr ())), .inr (.inr (.inr ())), .inr (.inr (.inr ()))] [] M :=
  f_go (KC := f_kc [(2, f_pl [(4433, 0, 7), (1, 0, 0), (1, 0, 0), (1, 0, 0), (0, 0, 0), (0, 0, 0)] [] (fun ls st M => k2 (f_vi (f_nth ls 1)) (f_vi (f_nth ls 2)) (f_vi (f_nth ls 3)) M))]) C qX0_endRightsOff (f_kc_cons (f_pl_ok rfl (fun ls st M h => h2 _ _ _ M h)) f_kc_nil) 49 0 h
def WX0_endRightsOf_75 (H2 : Int → Int → Int → e_M → Prop) (H11 : Int → Int → Int → Int → e_M → Prop) (Q : e_M → Prop) (x1 : Int) (x2 : Int) (x3 : Int) (x4 : Int) (M : e_M) : Prop :=
  VX0_endRightsOf_75 WX10_at H11 Q x1 x2 x3 x4 M
def WX0_endRightsOf_60 (H2 : Int → Int → Int → e_M → Prop) (H11 : Int → Int → Int → Int → e_M → Prop) (Q : e_M → Prop) (x1 : Int) (x2 : Int) (x3 : Int) (x4 : Int) (a5 : Nat) (M : e_M) : Prop :=
  VX0_endRightsOf_60 WX10_at (WX0_endRightsOf_75 H2 H11 Q) Q x1 x2 x3 x4 a5 M
def WX0_endRightsOf_11 (H2 : Int → Int → Int → e_M → Prop) (Q : e_M → Prop) : Nat → Int → Int → Int → Int → e_M → Prop
  | 0, _, _, _, _, _ => False
  | n + 1, x1, x2, x3, x4, M =>
    VX0_endRightsOf_11 WX10_at H2 (WX0_endRightsOf_60 H2 (WX0_endRightsOf_11 H2 Q n) Q) (WX0_endRightsOf_75 H2 (WX0_endRightsOf_11 H2 Q n) Q) Q x1 x2 x3 x4 M
def WX0_endRightsOf_2 (Q : e_M → Prop) : Nat → Int → Int → Int → e_M → Prop
  | 0, _, _, _, _ => False
  | n + 1, x1, x2, x3, M =>
    VX0_endRightsOf_2 WX10_at (fun x1 x2 x3 x4 M => ∃ j, WX0_endRightsOf_11 (WX0_endRightsOf_2 Q n) Q j x1 x2 x3 x4 M) Q x1 x2 x3 M
def WX0_endRightsOf (x1 : Int) (x2 : Int) (M : e_M) (Q : e_M → Prop) : Prop :=
  VX0_endRightsOf WX10_at (fun x1 x2 x3 M => ∃ j, WX0_endRightsOf_2 Q j x1 x2 x3 M) Q x1 x2 M
theorem PX0_endRightsOf_75 {sh : Nat → Nat × Nat} {t : Nat} {rm : Nat × Nat × Nat} {cs : Nat × Nat} {R : f_Rt} {H2 : Int → Int → Int → e_M → Prop} {H11 : Int → Int → Int → Int → e_M → Prop} {x1 : Int} {x2 : Int} {x3 : Int} {x4 : Int} {M : e_M} (C : f_Hy sh t yX0_endRightsOf rm cs 5 (lX0_endRightsOf WX10_at) R) (g2 : ∀ (x1 : Int) (x2 : Int) (x3 : Int) (M : e_M), H2 x1 x2 x3 M → f_E sh t YX0_endRightsOf rm cs (f_Q sh t R) 2 [.inr (.inr (.inl (0, 7, 4423))), .inl x1, .inl x2, .inl x3, .inr (.inr (.inr ())), .inr (.inr (.inr ()))] [] M) (g11 : ∀ (x1 : Int) (x2 : Int) (x3 : Int) (x4 : Int) (M : e_M), H11 x1 x2 x3 x4 M → f_E sh t YX0_endRightsOf rm cs (f_Q sh t R) 11 [.inr (.inr (.inl (0, 7, 4423))), .inl x1, .inl x2, .inl x3, .inl x4, .inr (.inr (.inr ()))] [] M) (h : WX0_endRightsOf_75 H2 H11 (fun M => R none M) x1 x2 x3 x4 M) : f_E sh t YX0_endRightsOf rm cs (f_Q sh t R) 75 [.inr (.inr (.inl (0, 7, 4423))), .inl x1, .inl x2, .inl x3, .inl x4, .inr (.inr (.inr ()))] [] M :=
  BX0_endRightsOf_75 C g11 h
theorem PX0_endRightsOf_60 {sh : Nat → Nat × Nat} {t : Nat} {rm : Nat × Nat × Nat} {cs : Nat × Nat} {R : f_Rt} {H2 : Int → Int → Int → e_M → Prop} {H11 : Int → Int → Int → Int → e_M → Prop} {x1 : Int} {x2 : Int} {x3 : Int} {x4 : Int} {a5 : Nat} {M : e_M} (C : f_Hy sh t yX0_endRightsOf rm cs 5 (lX0_endRightsOf WX10_at) R) (g2 : ∀ (x1 : Int) (x2 : Int) (x3 : Int) (M : e_M), H2 x1 x2 x3 M → f_E sh t YX0_endRightsOf rm cs (f_Q sh t R) 2 [.inr (.inr (.inl (0, 7, 4423))), .inl x1, .inl x2, .inl x3, .inr (.inr (.inr ())), .inr (.inr (.inr ()))] [] M) (g11 : ∀ (x1 : Int) (x2 : Int) (x3 : Int) (x4 : Int) (M : e_M), H11 x1 x2 x3 x4 M → f_E sh t YX0_endRightsOf rm cs (f_Q sh t R) 11 [.inr (.inr (.inl (0, 7, 4423))), .inl x1, .inl x2, .inl x3, .inl x4, .inr (.inr (.inr ()))] [] M) (h : WX0_endRightsOf_60 H2 H11 (fun M => R none M) x1 x2 x3 x4 a5 M) : f_E sh t YX0_endRightsOf rm cs (f_Q sh t R) 60 [.inr (.inr (.inl (0, 7, 4423))), .inl x1, .inl x2, .inl x3, .inl x4, .inr (.inr (.inl (9, 14, a5)))] [] M :=
  BX0_endRightsOf_60 C (fun x1 x2 x3 x4 M h => PX0_endRightsOf_75 C g2 g11 h) h
theorem PX0_endRightsOf_11 {sh : Nat → Nat × Nat} {t : Nat} {rm : Nat × Nat × Nat} {cs : Nat × Nat} {R : f_Rt} {H2 : Int → Int → Int → e_M → Prop} (C : f_Hy sh t yX0_endRightsOf rm cs 5 (lX0_endRightsOf WX10_at) R) (g2 : ∀ (x1 : Int) (x2 : Int) (x3 : Int) (M : e_M), H2 x1 x2 x3 M → f_E sh t YX0_endRightsOf rm cs (f_Q sh t R) 2 [.inr (.inr (.inl (0, 7, 4423))), .inl x1, .inl x2, .inl x3, .inr (.inr (.inr ())), .inr (.inr (.inr ()))] [] M) : ∀ (n : Nat) (x1 : Int) (x2 : Int) (x3 : Int) (x4 : Int) (M : e_M), WX0_endRightsOf_11 H2 (fun M => R none M) n x1 x2 x3 x4 M → f_E sh t YX0_endRightsOf rm cs (f_Q sh t R) 11 [.inr (.inr (.inl (0, 7, 4423))), .inl x1, .inl x2, .inl x3, .inl x4, .inr (.inr (.inr ()))] [] M := by
  intro n
  induction n with
  | zero => intro x1 x2 x3 x4 M h; exact h.elim
  | succ n ih => intro x1 x2 x3 x4 M h; exact BX0_endRightsOf_11 C g2 (fun x1 x2 x3 x4 a5 M h => PX0_endRightsOf_60 C g2 ih h) (fun x1 x2 x3 x4 M h => PX0_endRightsOf_75 C g2 ih h) h
theorem PX0_endRightsOf_2 {sh : Nat → Nat × Nat} {t : Nat} {rm : Nat × Nat × Nat} {cs : Nat × Nat} {R : f_Rt} (C : f_Hy sh t yX0_endRightsOf rm cs 5 (lX0_endRightsOf WX10_at) R) : ∀ (n : Nat) (x1 : Int) (x2 : Int) (x3 : Int) (M : e_M), WX0_endRightsOf_2 (fun M => R none M) n x1 x2 x3 M → f_E sh t YX0_endRightsOf rm cs (f_Q sh t R) 2 [.inr (.inr (.inl (0, 7, 4423))), .inl x1, .inl x2, .inl x3, .inr (.inr (.inr ())), .inr (.inr (.inr ()))] [] M := by
  intro n
  induction n with
  | zero => intro x1 x2 x3 M h; exact h.elim
  | succ n ih => intro x1 x2 x3 M h; exact BX0_endRightsOf_2 C (fun x1 x2 x3 x4 M ⟨j, h⟩ => PX0_endRightsOf_11 C ih j _ _ _ _ _ h) h
theorem PX0_endRightsOf {sh : Nat → Nat × Nat} {t : Nat} {rm : Nat × Nat × Nat} {cs : Nat × Nat} {R : f_Rt} {x1 : Int} {x2 : Int} {M : e_M} (C : f_Hy sh t yX0_endRightsOf rm cs 5 (lX0_endRightsOf WX10_at) R) (h : WX0_endRightsOf x1 x2 M (fun M => R none M)) : f_E sh t YX0_endRightsOf rm cs (f_Q sh t R) 0 [.inr (.inr (.inl (0, 7, 4423))), .inl x1, .inl x2, .inr (.inr (.inr ())), .inr (.inr (.inr ())), .inr (.inr (.inr ()))] [] M :=
  BX0_endRightsOf C (fun x1 x2 x3 M ⟨j, h⟩ => PX0_endRightsOf_2 C j _ _ _ _ h) h
def wX0_endRightsOf : f_Wt := f_wm [(4433, 0, 7), (1, 0, 0), (1, 0, 0)] (fun ar M R => WX0_endRightsOf (f_vi (f_nth ar 1)) (f_vi (f_nth ar 2)) M (fun M => R none M))
theorem TX0_endRightsOf {sh : Nat → Nat × Nat} {t : Nat} : f_Mt sh t YX0_endRightsOf 5 (wX0_endRightsOf) :=
  f_Mt_of (k := 3) (Nat.le_of_ble_eq_true rfl) rfl rfl (fun ar M R rm cs h1 h2 h3 hX h => PX0_endRightsOf ⟨Nat.le_of_ble_eq_true rfl, h1, h2, h3, ⟨(f_Mt.up (Nat.le_of_ble_eq_true rfl) TX10_at), trivial⟩, hX⟩ h)
def VX0_die_39 (c_X0_arePartsMixed : Int → Int → e_M → (Int → Prop) → Prop) (c_X2_isWhole : Nat → e_M → (Int → Prop) → Prop) (c_X0_draftHeirs : Int → Int → e_M → (Int → e_M → Prop) → Prop) (c_X4_isTooFine : Nat → e_M → (Int → Prop) → Prop) (c_X10_lot : Nat → Int → e_M → (Nat → Prop) → Prop) (c_X4_copyOwners : Nat → Nat → e_M → (e_M → Prop) → Prop) (c_X0_endRightsOf : Int → Int → e_M → (e_M → Prop) → Prop) (c_X10_at : Nat → Int → Int → e_M → (Nat → Prop) → Prop) (k43 : Int → Int → Int → e_M → Prop) (Q : Int → e_M → Prop) (x1 : Int) (M : e_M) : Prop :=
  (k43 x1 0 0 M)
def VX0_die_43 (c_X0_arePartsMixed : Int → Int → e_M → (Int → Prop) → Prop) (c_X2_isWhole : Nat → e_M → (Int → Prop) → Prop) (c_X0_draftHeirs : Int → Int → e_M → (Int → e_M → Prop) → Prop) (c_X4_isTooFine : Nat → e_M → (Int → Prop) → Prop) (c_X10_lot : Nat → Int → e_M → (Nat → Prop) → Prop) (c_X4_copyOwners : Nat → Nat → e_M → (e_M → Prop) → Prop) (c_X0_endRightsOf : Int → Int → e_M → (e_M → Prop) → Prop) (c_X10_at : Nat → Int → Int → e_M → (Nat → Prop) → Prop) (k115 : Int → Int → e_M → Prop) (k100 : Int → Int → Int → e_M → Prop) (k94 : Int → Int → e_M → Prop) (k99 : Int → Int → Int → e_M → Prop) (Q : Int → e_M → Prop) (x1 : Int) (x2 : Int) (x3 : Int) (M : e_M) : Prop :=
  ((0 ≤ (0 : Int) ∧ (0 : Int) < 8) ∧ (((M ((M 4423 0).toNat + 24) ((0 : Int).toNat)) ≤ x3 → ((x2 = 0 → (k115 x1 0 M)) ∧ (¬ x2 = 0 → (Q 7 M)))) ∧ (x3 < (M ((M 4423 0).toNat + 24) ((0 : Int).toNat)) → (c_X0_draftHeirs x3 x1 M (fun r1 M2 => ((r1 = 0 → (k100 x1 x2 x3 M2)) ∧ (¬ r1 = 0 → (c_X4_isTooFine 4443 M2 (fun r3 => ((r3 = 0 → ((¬ x2 = 0 → (k94 x1 x3 M2)) ∧ (x2 = 0 → (((M2 4443 8) ≤ 8 → (k99 x1 x3 0 M2)) ∧ (8 < (M2 4443 8) → (k94 x1 x3 M2)))))) ∧ (¬ r3 = 0 → (Q 6 M2))))))))))))
def VX0_die_94 (c_X0_arePartsMixed : Int → Int → e_M → (Int → Prop) → Prop) (c_X2_isWhole : Nat → e_M → (Int → Prop) → Prop) (c_X0_draftHeirs : Int → Int → e_M → (Int → e_M → Prop) → Prop) (c_X4_isTooFine : Nat → e_M → (Int → Prop) → Prop) (c_X10_lot : Nat → Int → e_M → (Nat → Prop) → Prop) (c_X4_copyOwners : Nat → Nat → e_M → (e_M → Prop) → Prop) (c_X0_endRightsOf : Int → Int → e_M → (e_M → Prop) → Prop) (c_X10_at : Nat → Int → Int → e_M → (Nat → Prop) → Prop) (k99 : Int → Int → Int → e_M → Prop) (Q : Int → e_M → Prop) (x1 : Int) (x3 : Int) (M : e_M) : Prop :=
  (k99 x1 x3 1 M)
def VX0_die_99 (c_X0_arePartsMixed : Int → Int → e_M → (Int → Prop) → Prop) (c_X2_isWhole : Nat → e_M → (Int → Prop) → Prop) (c_X0_draftHeirs : Int → Int → e_M → (Int → e_M → Prop) → Prop) (c_X4_isTooFine : Nat → e_M → (Int → Prop) → Prop) (c_X10_lot : Nat → Int → e_M → (Nat → Prop) → Prop) (c_X4_copyOwners : Nat → Nat → e_M → (e_M → Prop) → Prop) (c_X0_endRightsOf : Int → Int → e_M → (e_M → Prop) → Prop) (c_X10_at : Nat → Int → Int → e_M → (Nat → Prop) → Prop) (k100 : Int → Int → Int → e_M → Prop) (Q : Int → e_M → Prop) (x1 : Int) (x3 : Int) (xs0 : Int) (M : e_M) : Prop :=
  (k100 x1 xs0 x3 M)
def VX0_die_100 (c_X0_arePartsMixed : Int → Int → e_M → (Int → Prop) → Prop) (c_X2_isWhole : Nat → e_M → (Int → Prop) → Prop) (c_X0_draftHeirs : Int → Int → e_M → (Int → e_M → Prop) → Prop) (c_X4_isTooFine : Nat → e_M → (Int → Prop) → Prop) (c_X10_lot : Nat → Int → e_M → (Nat → Prop) → Prop) (c_X4_copyOwners : Nat → Nat → e_M → (e_M → Prop) → Prop) (c_X0_endRightsOf : Int → Int → e_M → (e_M → Prop) → Prop) (c_X10_at : Nat → Int → Int → e_M → (Nat → Prop) → Prop) (k43 : Int → Int → Int → e_M → Prop) (Q : Int → e_M → Prop) (x1 : Int) (x2 : Int) (x3 : Int) (M : e_M) : Prop :=
  (k43 x1 x2 (e_w32 (x3 + 1)) M)
def VX0_die_115 (c_X0_arePartsMixed : Int → Int → e_M → (Int → Prop) → Prop) (c_X2_isWhole : Nat → e_M → (Int → Prop) → Prop) (c_X0_draftHeirs : Int → Int → e_M → (Int → e_M → Prop) → Prop) (c_X4_isTooFine : Nat → e_M → (Int → Prop) → Prop) (c_X10_lot : Nat → Int → e_M → (Nat → Prop) → Prop) (c_X4_copyOwners : Nat → Nat → e_M → (e_M → Prop) → Prop) (c_X0_endRightsOf : Int → Int → e_M → (e_M → Prop) → Prop) (c_X10_at : Nat → Int → Int → e_M → (Nat → Prop) → Prop) (k180 : Int → Int → Int → e_M → Prop) (k152 : Int → Int → e_M → Prop) (Q : Int → e_M → Prop) (x1 : Int) (x3 : Int) (M : e_M) : Prop :=
  ((0 ≤ (0 : Int) ∧ (0 : Int) < 8) ∧ (((M ((M 4423 0).toNat + 24) ((0 : Int).toNat)) ≤ x3 → (((M ((M 4423 1).toNat) 15) ≤ 0 → (k180 x1 0 x1 M)) ∧ (0 < (M ((M 4423 1).toNat) 15) → ((0 ≤ (1 : Int) ∧ (1 : Int) < 8) ∧ (k180 x1 (M 4425 ((1 : Int).toNat)) x1 M))))) ∧ (x3 < (M ((M 4423 0).toNat + 24) ((0 : Int).toNat)) → (c_X0_draftHeirs x3 x1 M (fun r1 M2 => ((r1 = 0 → (k152 x1 x3 M2)) ∧ (¬ r1 = 0 → (c_X10_lot ((M2 4423 0).toNat) x3 M2 (fun r3 => (c_X4_copyOwners r3 4443 M2 (fun M4 => (k152 x1 x3 M4))))))))))))
def VX0_die_152 (c_X0_arePartsMixed : Int → Int → e_M → (Int → Prop) → Prop) (c_X2_isWhole : Nat → e_M → (Int → Prop) → Prop) (c_X0_draftHeirs : Int → Int → e_M → (Int → e_M → Prop) → Prop) (c_X4_isTooFine : Nat → e_M → (Int → Prop) → Prop) (c_X10_lot : Nat → Int → e_M → (Nat → Prop) → Prop) (c_X4_copyOwners : Nat → Nat → e_M → (e_M → Prop) → Prop) (c_X0_endRightsOf : Int → Int → e_M → (e_M → Prop) → Prop) (c_X10_at : Nat → Int → Int → e_M → (Nat → Prop) → Prop) (k115 : Int → Int → e_M → Prop) (Q : Int → e_M → Prop) (x1 : Int) (x3 : Int) (M : e_M) : Prop :=
  (k115 x1 (e_w32 (x3 + 1)) M)
def VX0_die_180 (c_X0_arePartsMixed : Int → Int → e_M → (Int → Prop) → Prop) (c_X2_isWhole : Nat → e_M → (Int → Prop) → Prop) (c_X0_draftHeirs : Int → Int → e_M → (Int → e_M → Prop) → Prop) (c_X4_isTooFine : Nat → e_M → (Int → Prop) → Prop) (c_X10_lot : Nat → Int → e_M → (Nat → Prop) → Prop) (c_X4_copyOwners : Nat → Nat → e_M → (e_M → Prop) → Prop) (c_X0_endRightsOf : Int → Int → e_M → (e_M → Prop) → Prop) (c_X10_at : Nat → Int → Int → e_M → (Nat → Prop) → Prop) (Q : Int → e_M → Prop) (x1 : Int) (xs2 : Int) (xs1 : Int) (M : e_M) : Prop :=
  (c_X0_endRightsOf xs1 xs2 M (fun M1 => (c_X10_at ((M1 4423 0).toNat) 1 x1 M1 (fun r2 => (((1 : Int) = 0 ∨ (1 : Int) = 1) ∧ (∀ M3 : e_M, M3 = e_up M1 r2 2 1 → (Q 0 M3)))))))
def VX0_die (c_X0_arePartsMixed : Int → Int → e_M → (Int → Prop) → Prop) (c_X2_isWhole : Nat → e_M → (Int → Prop) → Prop) (c_X0_draftHeirs : Int → Int → e_M → (Int → e_M → Prop) → Prop) (c_X4_isTooFine : Nat → e_M → (Int → Prop) → Prop) (c_X10_lot : Nat → Int → e_M → (Nat → Prop) → Prop) (c_X4_copyOwners : Nat → Nat → e_M → (e_M → Prop) → Prop) (c_X0_endRightsOf : Int → Int → e_M → (e_M → Prop) → Prop) (c_X10_at : Nat → Int → Int → e_M → (Nat → Prop) → Prop) (k39 : Int → e_M → Prop) (Q : Int → e_M → Prop) (M : e_M) : Prop :=
  ((0 ≤ (0 : Int) ∧ (0 : Int) < 8) ∧ (((M ((M 4423 1).toNat) 15) ≤ 0 → (k39 (M 4425 ((0 : Int).toNat)) M)) ∧ (0 < (M ((M 4423 1).toNat) 15) → (c_X0_arePartsMixed 1 (M 4425 ((0 : Int).toNat)) M (fun r1 => ((¬ r1 = 0 → (Q 6 M)) ∧ (r1 = 0 → (c_X2_isWhole ((M 4423 1).toNat) M (fun r2 => ((¬ r2 = 0 → (k39 (M 4425 ((0 : Int).toNat)) M)) ∧ (r2 = 0 → (Q 6 M))))))))))))
def yX0_die (i : Nat) : e_Y := x_get YX0_die [YX0_arePartsMixed, YX2_isWhole, YX0_draftHeirs, YX4_isTooFine, YX10_lot, YX4_copyOwners, YX0_endRightsOf, YX10_at] i
def pX0_dief : List x_I := [(0, 4, 1, 0, 0, 0, []), (1, 25, 0, 4, 4, 0, [(0, 20, 8), (0, 1, 2)]), (4, 0, 1, 0, 0, 0, []), (5, 27, 0, 0, 0, 0, []), (6, 5, 1, 1, 0, 0, []), (7, 4, 1, 0, 0, 0, []), (8, 25, 0, 1, 4, 0, [(0, 2, 19), (0, 0, 0)]), (11, 25, 2, 15, 0, 0, []), (14, 17, 39, 5, 21, 0, []), (17, 4, 1, 0, 0, 0, []), (18, 0, 1, 0, 0, 1, []), (19, 2, 1, 1, 0, 0, []), (20, 40, 0, 3, 2, 0, []), (23, 17, 36, 1, 19, 0, []), (26, 4, 1, 0, 0, 0, []), (27, 25, 0, 1, 4, 0, [(0, 2, 19), (0, 0, 0)]), (30, 40, 1, 1, 4, 0, []), (33, 17, 39, 1, 21, 0, []), (36, 0, 2, 0, 0, 6, []), (38, 41, 0, 0, 0, 0, []), (39, 49, 0, 0, 0, 0, []), (39, 0, 1, 0, 0, 0, []), (40, 5, 1, 2, 0, 0, []), (41, 0, 1, 0, 0, 0, []), (42, 5, 1, 3, 0, 0, []), (43, 49, 0, 0, 0, 0, []), (43, 2, 1, 3, 0, 0, []), (44, 4, 1, 0, 0, 0, []), (45, 25, 0, 0, 4, 0, [(0, 10, 15), (0, 0, 0)]), (48, 25, 10, 4, 4, 0, [(0, 20, 8), (0, 1, 24)]), (51, 0, 1, 0, 0, 0, []), (52, 27, 0, 0, 0, 0, []), (53, 18, 106, 3, 61, 0, []), (56, 4, 1, 0, 0, 0, []), (57, 2, 1, 3, 0, 0, []), (58, 2, 1, 1, 0, 0, []), (59, 40, 2, 3, 2, 0, []), (62, 17, 100, 0, 58, 0, []), (65, 4, 1, 0, 0, 0, []), (66, 25, 0, 6, 4, 0, [(0, 4, 9), (0, 1, 20)]), (69, 40, 3, 1, 6, 0, []), (72, 17, 78, 0, 45, 0, []), (75, 0, 2, 0, 0, 6, []), (77, 41, 0, 0, 0, 0, []), (78, 2, 1, 2, 0, 0, []), (79, 17, 94, 1, 52, 0, []), (82, 4, 1, 0, 0, 0, []), (83, 25, 0, 6, 4, 0, [(0, 4, 9), (0, 1, 20)]), (86, 25, 4, 8, 0, 0, []), (89, 0, 2, 0, 0, 8, []), (91, 18, 98, 5, 55, 0, []), (94, 49, 0, 0, 0, 0, []), (94, 0, 1, 0, 0, 1, []), (95, 19, 99, 0, 56, 0, []), (98, 0, 1, 0, 0, 0, []), (99, 49, 0, 0, 0, 0, []), (99, 5, 1, 2, 0, 0, []), (100, 49, 0, 0, 0, 0, []), (100, 8, 0, 3, 0, 1, []), (103, 19, 43, 0, 26, 0, []), (106, 2, 1, 2, 0, 0, []), (107, 17, 113, 0, 65, 0, []), (110, 0, 2, 0, 0, 7, []), (112, 41, 0, 0, 0, 0, []), (113, 0, 1, 0, 0, 0, []), (114, 5, 1, 3, 0, 0, []), (115, 49, 0, 0, 0, 0, []), (115, 2, 1, 3, 0, 0, []), (116, 4, 1, 0, 0, 0, []), (117, 25, 0, 0, 4, 0, [(0, 10, 15), (0, 0, 0)]), (120, 25, 10, 4, 4, 0, [(0, 20, 8), (0, 1, 24)]), (123, 0, 1, 0, 0, 0, []), (124, 27, 0, 0, 0, 0, []), (125, 18, 158, 3, 90, 0, []), (128, 4, 1, 0, 0, 0, []), (129, 2, 1, 3, 0, 0, []), (130, 2, 1, 1, 0, 0, []), (131, 40, 2, 3, 2, 0, []), (134, 17, 152, 0, 87, 0, []), (137, 4, 1, 0, 0, 0, []), (138, 25, 0, 0, 4, 0, [(0, 10, 15), (0, 0, 0)]), (141, 2, 1, 3, 0, 0, []), (142, 40, 4, 2, 12, 0, []), (145, 4, 1, 0, 0, 0, []), (146, 25, 0, 6, 4, 0, [(0, 4, 9), (0, 1, 20)]), (149, 40, 5, 2, 6, 0, []), (152, 49, 0, 0, 0, 0, []), (152, 8, 0, 3, 0, 1, []), (155, 19, 115, 0, 67, 0, []), (158, 4, 1, 0, 0, 0, []), (159, 2, 1, 1, 0, 0, []), (160, 4, 1, 0, 0, 0, []), (161, 25, 0, 1, 4, 0, [(0, 2, 19), (0, 0, 0)]), (164, 25, 2, 15, 0, 0, []), (167, 17, 179, 5, 101, 0, []), (170, 4, 1, 0, 0, 0, []), (171, 25, 0, 4, 4, 0, [(0, 20, 8), (0, 1, 2)]), (174, 0, 1, 0, 0, 1, []), (175, 27, 0, 0, 0, 0, []), (176, 19, 180, 0, 102, 0, []), (179, 0, 1, 0, 0, 0, []), (180, 49, 0, 0, 0, 0, []), (180, 40, 6, 3, 2, 0, []), (183, 4, 1, 0, 0, 0, []), (184, 25, 0, 0, 4, 0, [(0, 10, 15), (0, 0, 0)]), (187, 0, 1, 0, 0, 1, []), (188, 2, 1, 1, 0, 0, []), (189, 40, 7, 3, 12, 0, []), (192, 0, 1, 0, 0, 1, []), (193, 26, 9, 2, 1, 0, []), (196, 0, 1, 0, 0, 0, []), (197, 41, 0, 0, 0, 0, [])]
set_option maxRecDepth 20000 in
theorem qX0_dief : f_all yX0_die YX0_die pX0_dief :=
  ⟨f_aload_n (n := 0) (e_dx DX0_die_0 0 rfl) rfl,
  f_getA (e_dx DX0_die_0 1 rfl) fX0_19 rfl (by decide) (Nat.le_of_ble_eq_true rfl) rfl (by decide),
  f_iconst (e_dx DX0_die_0 2 rfl) ⟨by decide, by decide⟩,
  f_iaload (e_dx DX0_die_0 3 rfl),
  f_istore_n (n := 1) (e_dx DX0_die_0 4 rfl) rfl (by decide),
  f_aload_n (n := 0) (e_dx DX0_die_0 5 rfl) rfl,
  f_getA (e_dx DX0_die_0 6 rfl) fX0_40 rfl (by decide) (Nat.le_of_ble_eq_true rfl) rfl (by decide),
  f_getf (e_dx DX0_die_0 7 rfl) fX0_217 rfl (by decide) (by decide) (by decide),
  f_if_le (e_dx DX0_die_0 8 rfl) rfl,
  f_aload_n (n := 0) (e_dx DX0_die_0 9 rfl) rfl,
  f_iconst (e_dx DX0_die_0 10 rfl) ⟨by decide, by decide⟩,
  f_iload_n (n := 1) (e_dx DX0_die_0 11 rfl) rfl,
  x_callV (e_dx DX0_die_0 12 rfl) mwX0_arePartsMixed vwX0_arePartsMixed cX0_220 rfl,
  f_if_ne (e_dx DX0_die_0 13 rfl) rfl,
  f_aload_n (n := 0) (e_dx DX0_die_0 14 rfl) rfl,
  f_getA (e_dx DX0_die_0 15 rfl) fX0_40 rfl (by decide) (Nat.le_of_ble_eq_true rfl) rfl (by decide),
  x_callV (e_dx DX0_die_0 16 rfl) mwX2_isWhole vwX2_isWhole cX0_223 rfl,
  f_if_ne (e_dx DX0_die_0 17 rfl) rfl,
  f_bipush (e_dx DX0_die_0 18 rfl) ⟨by decide, by decide⟩,
  ⟨(e_dx DX0_die_0 19 rfl), rfl⟩,
  trivial,
  f_iconst (e_dx DX0_die_0 20 rfl) ⟨by decide, by decide⟩,
  f_istore_n (n := 2) (e_dx DX0_die_0 21 rfl) rfl (by decide),
  f_iconst (e_dx DX0_die_0 22 rfl) ⟨by decide, by decide⟩,
  f_istore_n (n := 3) (e_dx DX0_die_0 23 rfl) rfl (by decide),
  trivial,
  f_iload_n (n := 3) (e_dx DX0_die_0 24 rfl) rfl,
  f_aload_n (n := 0) (e_dx DX0_die_0 25 rfl) rfl,
  f_getA (e_dx DX0_die_0 26 rfl) fX0_36 rfl (by decide) (Nat.le_of_ble_eq_true rfl) rfl (by decide),
  f_getA (e_dx DX0_die_0 27 rfl) fX0_174 rfl (by decide) (Nat.le_of_ble_eq_true rfl) rfl (by decide),
  f_iconst (e_dx DX0_die_0 28 rfl) ⟨by decide, by decide⟩,
  f_iaload (e_dx DX0_die_0 29 rfl),
  f_icmp_ge (e_dx DX0_die_0 30 rfl) rfl,
  f_aload_n (n := 0) (e_dx DX0_die_0 31 rfl) rfl,
  f_iload_n (n := 3) (e_dx DX0_die_0 32 rfl) rfl,
  f_iload_n (n := 1) (e_dx DX0_die_0 33 rfl) rfl,
  x_callV (e_dx DX0_die_0 34 rfl) mwX0_draftHeirs vwX0_draftHeirs cX0_226 rfl,
  f_if_eq (e_dx DX0_die_0 35 rfl) rfl,
  f_aload_n (n := 0) (e_dx DX0_die_0 36 rfl) rfl,
  f_getA (e_dx DX0_die_0 37 rfl) fX0_32 rfl (by decide) (Nat.le_of_ble_eq_true rfl) rfl (by decide),
  x_callV (e_dx DX0_die_0 38 rfl) mwX4_isTooFine vwX4_isTooFine cX0_229 rfl,
  f_if_eq (e_dx DX0_die_0 39 rfl) rfl,
  f_bipush (e_dx DX0_die_1 0 rfl) ⟨by decide, by decide⟩,
  ⟨(e_dx DX0_die_1 1 rfl), rfl⟩,
  f_iload_n (n := 2) (e_dx DX0_die_1 2 rfl) rfl,
  f_if_ne (e_dx DX0_die_1 3 rfl) rfl,
  f_aload_n (n := 0) (e_dx DX0_die_1 4 rfl) rfl,
  f_getA (e_dx DX0_die_1 5 rfl) fX0_32 rfl (by decide) (Nat.le_of_ble_eq_true rfl) rfl (by decide),
  f_getf (e_dx DX0_die_1 6 rfl) fX0_165 rfl (by decide) (by decide) (by decide),
  f_bipush (e_dx DX0_die_1 7 rfl) ⟨by decide, by decide⟩,
  f_icmp_le (e_dx DX0_die_1 8 rfl) rfl,
  trivial,
  f_iconst (e_dx DX0_die_1 9 rfl) ⟨by decide, by decide⟩,
  f_g19 (e_dx DX0_die_1 10 rfl) rfl,
  f_iconst (e_dx DX0_die_1 11 rfl) ⟨by decide, by decide⟩,
  trivial,
  f_istore_n (n := 2) (e_dx DX0_die_1 12 rfl) rfl (by decide),
  trivial,
  f_g8 (e_dx DX0_die_1 13 rfl) ⟨by decide, by decide⟩,
  f_g19 (e_dx DX0_die_1 14 rfl) rfl,
  f_iload_n (n := 2) (e_dx DX0_die_1 15 rfl) rfl,
  f_if_eq (e_dx DX0_die_1 16 rfl) rfl,
  f_bipush (e_dx DX0_die_1 17 rfl) ⟨by decide, by decide⟩,
  ⟨(e_dx DX0_die_1 18 rfl), rfl⟩,
  f_iconst (e_dx DX0_die_1 19 rfl) ⟨by decide, by decide⟩,
  f_istore_n (n := 3) (e_dx DX0_die_1 20 rfl) rfl (by decide),
  trivial,
  f_iload_n (n := 3) (e_dx DX0_die_1 21 rfl) rfl,
  f_aload_n (n := 0) (e_dx DX0_die_1 22 rfl) rfl,
  f_getA (e_dx DX0_die_1 23 rfl) fX0_36 rfl (by decide) (Nat.le_of_ble_eq_true rfl) rfl (by decide),
  f_getA (e_dx DX0_die_1 24 rfl) fX0_174 rfl (by decide) (Nat.le_of_ble_eq_true rfl) rfl (by decide),
  f_iconst (e_dx DX0_die_1 25 rfl) ⟨by decide, by decide⟩,
  f_iaload (e_dx DX0_die_1 26 rfl),
  f_icmp_ge (e_dx DX0_die_1 27 rfl) rfl,
  f_aload_n (n := 0) (e_dx DX0_die_1 28 rfl) rfl,
  f_iload_n (n := 3) (e_dx DX0_die_1 29 rfl) rfl,
  f_iload_n (n := 1) (e_dx DX0_die_1 30 rfl) rfl,
  x_callV (e_dx DX0_die_1 31 rfl) mwX0_draftHeirs vwX0_draftHeirs cX0_226 rfl,
  f_if_eq (e_dx DX0_die_1 32 rfl) rfl,
  f_aload_n (n := 0) (e_dx DX0_die_1 33 rfl) rfl,
  f_getA (e_dx DX0_die_1 34 rfl) fX0_36 rfl (by decide) (Nat.le_of_ble_eq_true rfl) rfl (by decide),
  f_iload_n (n := 3) (e_dx DX0_die_1 35 rfl) rfl,
  x_callV (e_dx DX0_die_1 36 rfl) mwX10_lot vwX10_lot cX0_161 rfl,
  f_aload_n (n := 0) (e_dx DX0_die_1 37 rfl) rfl,
  f_getA (e_dx DX0_die_1 38 rfl) fX0_32 rfl (by decide) (Nat.le_of_ble_eq_true rfl) rfl (by decide),
  x_callV (e_dx DX0_die_1 39 rfl) mwX4_copyOwners vwX4_copyOwners cX0_232 rfl,
  trivial,
  f_g8 (e_dx DX0_die_2 0 rfl) ⟨by decide, by decide⟩,
  f_g19 (e_dx DX0_die_2 1 rfl) rfl,
  f_aload_n (n := 0) (e_dx DX0_die_2 2 rfl) rfl,
  f_iload_n (n := 1) (e_dx DX0_die_2 3 rfl) rfl,
  f_aload_n (n := 0) (e_dx DX0_die_2 4 rfl) rfl,
  f_getA (e_dx DX0_die_2 5 rfl) fX0_40 rfl (by decide) (Nat.le_of_ble_eq_true rfl) rfl (by decide),
  f_getf (e_dx DX0_die_2 6 rfl) fX0_217 rfl (by decide) (by decide) (by decide),
  f_if_le (e_dx DX0_die_2 7 rfl) rfl,
  f_aload_n (n := 0) (e_dx DX0_die_2 8 rfl) rfl,
  f_getA (e_dx DX0_die_2 9 rfl) fX0_19 rfl (by decide) (Nat.le_of_ble_eq_true rfl) rfl (by decide),
  f_iconst (e_dx DX0_die_2 10 rfl) ⟨by decide, by decide⟩,
  f_iaload (e_dx DX0_die_2 11 rfl),
  f_g19 (e_dx DX0_die_2 12 rfl) rfl,
  f_iconst (e_dx DX0_die_2 13 rfl) ⟨by decide, by decide⟩,
  trivial,
  x_callV (e_dx DX0_die_2 14 rfl) mwX0_endRightsOf vwX0_endRightsOf cX0_236 rfl,
  f_aload_n (n := 0) (e_dx DX0_die_2 15 rfl) rfl,
  f_getA (e_dx DX0_die_2 16 rfl) fX0_36 rfl (by decide) (Nat.le_of_ble_eq_true rfl) rfl (by decide),
  f_iconst (e_dx DX0_die_2 17 rfl) ⟨by decide, by decide⟩,
  f_iload_n (n := 1) (e_dx DX0_die_2 18 rfl) rfl,
  x_callV (e_dx DX0_die_2 19 rfl) mwX10_at vwX10_at cX0_152 rfl,
  f_iconst (e_dx DX0_die_2 20 rfl) ⟨by decide, by decide⟩,
  f_putn (e_dx DX0_die_2 21 rfl) fX0_240 (fun q hq => by cases hq; rfl) rfl (Or.inr (Or.inl rfl)) (by decide),
  f_iconst (e_dx DX0_die_2 22 rfl) ⟨by decide, by decide⟩,
  ⟨(e_dx DX0_die_2 23 rfl), rfl⟩, trivial⟩
def lX0_die (c_X0_arePartsMixed : Int → Int → e_M → (Int → Prop) → Prop) (c_X2_isWhole : Nat → e_M → (Int → Prop) → Prop) (c_X0_draftHeirs : Int → Int → e_M → (Int → e_M → Prop) → Prop) (c_X4_isTooFine : Nat → e_M → (Int → Prop) → Prop) (c_X10_lot : Nat → Int → e_M → (Nat → Prop) → Prop) (c_X4_copyOwners : Nat → Nat → e_M → (e_M → Prop) → Prop) (c_X0_endRightsOf : Int → Int → e_M → (e_M → Prop) → Prop) (c_X10_at : Nat → Int → Int → e_M → (Nat → Prop) → Prop) : List (Nat × f_Wt) := [(0, f_wm [(4433, 0, 7), (1, 0, 0), (1, 0, 0)] (fun ar M R => c_X0_arePartsMixed (f_vi (f_nth ar 1)) (f_vi (f_nth ar 2)) M (fun r => R (some (.inl r)) M))), (1, f_wm [(3, 2, 19)] (fun ar M R => c_X2_isWhole (f_va (f_nth ar 0)) M (fun r => R (some (.inl r)) M))), (2, f_wm [(4433, 0, 7), (1, 0, 0), (1, 0, 0)] (fun ar M R => c_X0_draftHeirs (f_vi (f_nth ar 1)) (f_vi (f_nth ar 2)) M (fun r M => R (some (.inl r)) M))), (3, f_wm [(3, 4, 9)] (fun ar M R => c_X4_isTooFine (f_va (f_nth ar 0)) M (fun r => R (some (.inl r)) M))), (4, f_wm [(3, 10, 15), (1, 0, 0)] (fun ar M R => c_X10_lot (f_va (f_nth ar 0)) (f_vi (f_nth ar 1)) M (fun r => R (some (.inr (.inr (.inl (4, 9, r))))) M))), (5, f_wm [(3, 4, 9), (3, 4, 9)] (fun ar M R => c_X4_copyOwners (f_va (f_nth ar 0)) (f_va (f_nth ar 1)) M (fun M => R none M))), (6, f_wm [(4433, 0, 7), (1, 0, 0), (1, 0, 0)] (fun ar M R => c_X0_endRightsOf (f_vi (f_nth ar 1)) (f_vi (f_nth ar 2)) M (fun M => R none M))), (7, f_wm [(3, 10, 15), (1, 0, 0), (1, 0, 0)] (fun ar M R => c_X10_at (f_va (f_nth ar 0)) (f_vi (f_nth ar 1)) (f_vi (f_nth ar 2)) M (fun r => R (some (.inr (.inr (.inl (9, 14, r))))) M)))]
set_option maxRecDepth 20000 in
theorem BX0_die_39 {sh : Nat → Nat × Nat} {t : Nat} {rm : Nat × Nat × Nat} {cs : Nat × Nat} {R : f_Rt} {c_X0_arePartsMixed : Int → Int → e_M → (Int → Prop) → Prop} {c_X2_isWhole : Nat → e_M → (Int → Prop) → Prop} {c_X0_draftHeirs : Int → Int → e_M → (Int → e_M → Prop) → Prop} {c_X4_isTooFine : Nat → e_M → (Int → Prop) → Prop} {c_X10_lot : Nat → Int → e_M → (Nat → Prop) → Prop} {c_X4_copyOwners : Nat → Nat → e_M → (e_M → Prop) → Prop} {c_X0_endRightsOf : Int → Int → e_M → (e_M → Prop) → Prop} {c_X10_at : Nat → Int → Int → e_M → (Nat → Prop) → Prop} {k43 : Int → Int → Int → e_M → Prop} {x1 : Int} {M : e_M} (C : f_Hy sh t yX0_die rm cs 8 (lX0_die c_X0_arePartsMixed c_X2_isWhole c_X0_draftHeirs c_X4_isTooFine c_X10_lot c_X4_copyOwners c_X0_endRightsOf c_X10_at) R) (h43 : ∀ (x1 : Int) (x2 : Int) (x3 : Int) (M : e_M), k43 x1 x2 x3 M → f_E sh t YX0_die rm cs (f_Q sh t R) 43 [.inr (.inr (.inl (0, 7, 4423))), .inl x1, .inl x2, .inl x3] [] M) (h : VX0_die_39 c_X0_arePartsMixed c_X2_isWhole c_X0_draftHeirs c_X4_isTooFine c_X10_lot c_X4_copyOwners c_X0_endRightsOf c_X10_at k43 (fun r M => R (some (.inl r)) M) x1 M) : f_E sh t YX0_die rm cs (f_Q sh t R) 39 [.inr (.inr (.inl (0, 7, 4423))), .inl x1, .inr (.inr (.inr ())), .inr (.inr (.inr ()))] [] M :=
  f_go (KC := f_kc [(43, f_pl [(4433, 0, 7), (1, 0, 0), (1, 0, 0), (1, 0, 0)] [] (fun ls st M => k43 (f_vi (f_nth ls 1)) (f_vi (f_nth ls 2)) (f_vi (f_nth ls 3)) M))]) C qX0_dief (f_kc_cons (f_pl_ok rfl (fun ls st M h => h43 _ _ _ M h)) f_kc_nil) 114 21 h
set_option maxRecDepth 20000 in
theorem BX0_die_43 {sh : Nat → Nat × Nat} {t : Nat} {rm : Nat × Nat × Nat} {cs : Nat × Nat} {R : f_Rt} {c_X0_arePartsMixed : Int → Int → e_M → (Int → Prop) → Prop} {c_X2_isWhole : Nat → e_M → (Int → Prop) → Prop} {c_X0_draftHeirs : Int → Int → e_M → (Int → e_M → Prop) → Prop} {c_X4_isTooFine : Nat → e_M → (Int → Prop) → Prop} {c_X10_lot : Nat → Int → e_M → (Nat → Prop) → Prop} {c_X4_copyOwners : Nat → Nat → e_M → (e_M → Prop) → Prop} {c_X0_endRightsOf : Int → Int → e_M → (e_M → Prop) → Prop} {c_X10_at : Nat → Int → Int → e_M → (Nat → Prop) → Prop} {k115 : Int → Int → e_M → Prop} {k100 : Int → Int → Int → e_M → Prop} {k94 : Int → Int → e_M → Prop} {k99 : Int → Int → Int → e_M → Prop} {x1 : Int} {x2 : Int} {x3 : Int} {M : e_M} (C : f_Hy sh t yX0_die rm cs 8 (lX0_die c_X0_arePartsMixed c_X2_isWhole c_X0_draftHeirs c_X4_isTooFine c_X10_lot c_X4_copyOwners c_X0_endRightsOf c_X10_at) R) (h115 : ∀ (x1 : Int) (x3 : Int) (M : e_M), k115 x1 x3 M → f_E sh t YX0_die rm cs (f_Q sh t R) 115 [.inr (.inr (.inl (0, 7, 4423))), .inl x1, .inr (.inr (.inr ())), .inl x3] [] M) (h100 : ∀ (x1 : Int) (x2 : Int) (x3 : Int) (M : e_M), k100 x1 x2 x3 M → f_E sh t YX0_die rm cs (f_Q sh t R) 100 [.inr (.inr (.inl (0, 7, 4423))), .inl x1, .inl x2, .inl x3] [] M) (h94 : ∀ (x1 : Int) (x3 : Int) (M : e_M), k94 x1 x3 M → f_E sh t YX0_die rm cs (f_Q sh t R) 94 [.inr (.inr (.inl (0, 7, 4423))), .inl x1, .inr (.inr (.inr ())), .inl x3] [] M) (h99 : ∀ (x1 : Int) (x3 : Int) (xs0 : Int) (M : e_M), k99 x1 x3 xs0 M → f_E sh t YX0_die rm cs (f_Q sh t R) 99 [.inr (.inr (.inl (0, 7, 4423))), .inl x1, .inr (.inr (.inr ())), .inl x3] [.inl xs0] M) (h : VX0_die_43 c_X0_arePartsMixed c_X2_isWhole c_X0_draftHeirs c_X4_isTooFine c_X10_lot c_X4_copyOwners c_X0_endRightsOf c_X10_at k115 k100 k94 k99 (fun r M => R (some (.inl r)) M) x1 x2 x3 M) : f_E sh t YX0_die rm cs (f_Q sh t R) 43 [.inr (.inr (.inl (0, 7, 4423))), .inl x1, .inl x2, .inl x3] [] M :=
  f_go (KC := f_kc [(115, f_pl [(4433, 0, 7), (1, 0, 0), (0, 0, 0), (1, 0, 0)] [] (fun ls st M => k115 (f_vi (f_nth ls 1)) (f_vi (f_nth ls 3)) M)), (100, f_pl [(4433, 0, 7), (1, 0, 0), (1, 0, 0), (1, 0, 0)] [] (fun ls st M => k100 (f_vi (f_nth ls 1)) (f_vi (f_nth ls 2)) (f_vi (f_nth ls 3)) M)), (94, f_pl [(4433, 0, 7), (1, 0, 0), (0, 0, 0), (1, 0, 0)] [] (fun ls st M => k94 (f_vi (f_nth ls 1)) (f_vi (f_nth ls 3)) M)), (99, f_pl [(4433, 0, 7), (1, 0, 0), (0, 0, 0), (1, 0, 0)] [(1, 0, 0)] (fun ls st M => k99 (f_vi (f_nth ls 1)) (f_vi (f_nth ls 3)) (f_vi (f_nth st 0)) M))]) C qX0_dief (f_kc_cons (f_pl_ok rfl (fun ls st M h => h115 _ _ M h)) (f_kc_cons (f_pl_ok rfl (fun ls st M h => h100 _ _ _ M h)) (f_kc_cons (f_pl_ok rfl (fun ls st M h => h94 _ _ M h)) (f_kc_cons (f_pl_ok rfl (fun ls st M h => h99 _ _ _ M h)) f_kc_nil)))) 114 26 h
set_option maxRecDepth 20000 in
theorem BX0_die_94 {sh : Nat → Nat × Nat} {t : Nat} {rm : Nat × Nat × Nat} {cs : Nat × Nat} {R : f_Rt} {c_X0_arePartsMixed : Int → Int → e_M → (Int → Prop) → Prop} {c_X2_isWhole : Nat → e_M → (Int → Prop) → Prop} {c_X0_draftHeirs : Int → Int → e_M → (Int → e_M → Prop) → Prop} {c_X4_isTooFine : Nat → e_M → (Int → Prop) → Prop} {c_X10_lot : Nat → Int → e_M → (Nat → Prop) → Prop} {c_X4_copyOwners : Nat → Nat → e_M → (e_M → Prop) → Prop} {c_X0_endRightsOf : Int → Int → e_M → (e_M → Prop) → Prop} {c_X10_at : Nat → Int → Int → e_M → (Nat → Prop) → Prop} {k99 : Int → Int → Int → e_M → Prop} {x1 : Int} {x3 : Int} {M : e_M} (C : f_Hy sh t yX0_die rm cs 8 (lX0_die c_X0_arePartsMixed c_X2_isWhole c_X0_draftHeirs c_X4_isTooFine c_X10_lot c_X4_copyOwners c_X0_endRightsOf c_X10_at) R) (h99 : ∀ (x1 : Int) (x3 : Int) (xs0 : Int) (M : e_M), k99 x1 x3 xs0 M → f_E sh t YX0_die rm cs (f_Q sh t R) 99 [.inr (.inr (.inl (0, 7, 4423))), .inl x1, .inr (.inr (.inr ())), .inl x3] [.inl xs0] M) (h : VX0_die_94 c_X0_arePartsMixed c_X2_isWhole c_X0_draftHeirs c_X4_isTooFine c_X10_lot c_X4_copyOwners c_X0_endRightsOf c_X10_at k99 (fun r M => R (some (.inl r)) M) x1 x3 M) : f_E sh t YX0_die rm cs (f_Q sh t R) 94 [.inr (.inr (.inl (0, 7, 4423))), .inl x1, .inr (.inr (.inr ())), .inl x3] [] M :=
  f_go (KC := f_kc [(99, f_pl [(4433, 0, 7), (1, 0, 0), (0, 0, 0), (1, 0, 0)] [(1, 0, 0)] (fun ls st M => k99 (f_vi (f_nth ls 1)) (f_vi (f_nth ls 3)) (f_vi (f_nth st 0)) M))]) C qX0_dief (f_kc_cons (f_pl_ok rfl (fun ls st M h => h99 _ _ _ M h)) f_kc_nil) 114 52 h
set_option maxRecDepth 20000 in
theorem BX0_die_99 {sh : Nat → Nat × Nat} {t : Nat} {rm : Nat × Nat × Nat} {cs : Nat × Nat} {R : f_Rt} {c_X0_arePartsMixed : Int → Int → e_M → (Int → Prop) → Prop} {c_X2_isWhole : Nat → e_M → (Int → Prop) → Prop} {c_X0_draftHeirs : Int → Int → e_M → (Int → e_M → Prop) → Prop} {c_X4_isTooFine : Nat → e_M → (Int → Prop) → Prop} {c_X10_lot : Nat → Int → e_M → (Nat → Prop) → Prop} {c_X4_copyOwners : Nat → Nat → e_M → (e_M → Prop) → Prop} {c_X0_endRightsOf : Int → Int → e_M → (e_M → Prop) → Prop} {c_X10_at : Nat → Int → Int → e_M → (Nat → Prop) → Prop} {k100 : Int → Int → Int → e_M → Prop} {x1 : Int} {x3 : Int} {xs0 : Int} {M : e_M} (C : f_Hy sh t yX0_die rm cs 8 (lX0_die c_X0_arePartsMixed c_X2_isWhole c_X0_draftHeirs c_X4_isTooFine c_X10_lot c_X4_copyOwners c_X0_endRightsOf c_X10_at) R) (h100 : ∀ (x1 : Int) (x2 : Int) (x3 : Int) (M : e_M), k100 x1 x2 x3 M → f_E sh t YX0_die rm cs (f_Q sh t R) 100 [.inr (.inr (.inl (0, 7, 4423))), .inl x1, .inl x2, .inl x3] [] M) (h : VX0_die_99 c_X0_arePartsMixed c_X2_isWhole c_X0_draftHeirs c_X4_isTooFine c_X10_lot c_X4_copyOwners c_X0_endRightsOf c_X10_at k100 (fun r M => R (some (.inl r)) M) x1 x3 xs0 M) : f_E sh t YX0_die rm cs (f_Q sh t R) 99 [.inr (.inr (.inl (0, 7, 4423))), .inl x1, .inr (.inr (.inr ())), .inl x3] [.inl xs0] M :=
  f_go (KC := f_kc [(100, f_pl [(4433, 0, 7), (1, 0, 0), (1, 0, 0), (1, 0, 0)] [] (fun ls st M => k100 (f_vi (f_nth ls 1)) (f_vi (f_nth ls 2)) (f_vi (f_nth ls 3)) M))]) C qX0_dief (f_kc_cons (f_pl_ok rfl (fun ls st M h => h100 _ _ _ M h)) f_kc_nil) 114 56 h
set_option maxRecDepth 20000 in
theorem BX0_die_100 {sh : Nat → Nat × Nat} {t : Nat} {rm : Nat × Nat × Nat} {cs : Nat × Nat} {R : f_Rt} {c_X0_arePartsMixed : Int → Int → e_M → (Int → Prop) → Prop} {c_X2_isWhole : Nat → e_M → (Int → Prop) → Prop} {c_X0_draftHeirs : Int → Int → e_M → (Int → e_M → Prop) → Prop} {c_X4_isTooFine : Nat → e_M → (Int → Prop) → Prop} {c_X10_lot : Nat → Int → e_M → (Nat → Prop) → Prop} {c_X4_copyOwners : Nat → Nat → e_M → (e_M → Prop) → Prop} {c_X0_endRightsOf : Int → Int → e_M → (e_M → Prop) → Prop} {c_X10_at : Nat → Int → Int → e_M → (Nat → Prop) → Prop} {k43 : Int → Int → Int → e_M → Prop} {x1 : Int} {x2 : Int} {x3 : Int} {M : e_M} (C : f_Hy sh t yX0_die rm cs 8 (lX0_die c_X0_arePartsMixed c_X2_isWhole c_X0_draftHeirs c_X4_isTooFine c_X10_lot c_X4_copyOwners c_X0_endRightsOf c_X10_at) R) (h43 : ∀ (x1 : Int) (x2 : Int) (x3 : Int) (M : e_M), k43 x1 x2 x3 M → f_E sh t YX0_die rm cs (f_Q sh t R) 43 [.inr (.inr (.inl (0, 7, 4423))), .inl x1, .inl x2, .inl x3] [] M) (h : VX0_die_100 c_X0_arePartsMixed c_X2_isWhole c_X0_draftHeirs c_X4_isTooFine c_X10_lot c_X4_copyOwners c_X0_endRightsOf c_X10_at k43 (fun r M => R (some (.inl r)) M) x1 x2 x3 M) : f_E sh t YX0_die rm cs (f_Q sh t R) 100 [.inr (.inr (.inl (0, 7, 4423))), .inl x1, .inl x2, .inl x3] [] M :=
  f_go (KC := f_kc [(43, f_pl [(4433, 0, 7), (1, 0, 0), (1, 0, 0), (1, 0, 0)] [] (fun ls st M => k43 (f_vi (f_nth ls 1)) (f_vi (f_nth ls 2)) (f_vi (f_nth ls 3)) M))]) C qX0_dief (f_kc_cons (f_pl_ok rfl (fun ls st M h => h43 _ _ _ M h)) f_kc_nil) 114 58 h
set_option maxRecDepth 20000 in
theorem BX0_die_115 {sh : Nat → Nat × Nat} {t : Nat} {rm : Nat × Nat × Nat} {cs : Nat × Nat} {R : f_Rt} {c_X0_arePartsMixed : Int → Int → e_M → (Int → Prop) → Prop} {c_X2_isWhole : Nat → e_M → (Int → Prop) → Prop} {c_X0_draftHeirs : Int → Int → e_M → (Int → e_M → Prop) → Prop} {c_X4_isTooFine : Nat → e_M → (Int → Prop) → Prop} {c_X10_lot : Nat → Int → e_M → (Nat → Prop) → Prop} {c_X4_copyOwners : Nat → Nat → e_M → (e_M → Prop) → Prop} {c_X0_endRightsOf : Int → Int → e_M → (e_M → Prop) → Prop} {c_X10_at : Nat → Int → Int → e_M → (Nat → Prop) → Prop} {k180 : Int → Int → Int → e_M → Prop} {k152 : Int → Int → e_M → Prop} {x1 : Int} {x3 : Int} {M : e_M} (C : f_Hy sh t yX0_die rm cs 8 (lX0_die c_X0_arePartsMixed c_X2_isWhole c_X0_draftHeirs c_X4_isTooFine c_X10_lot c_X4_copyOwners c_X0_endRightsOf c_X10_at) R) (h180 : ∀ (x1 : Int) (xs2 : Int) (xs1 : Int) (M : e_M), k180 x1 xs2 xs1 M → f_E sh t YX0_die rm cs (f_Q sh t R) 180 [.inr (.inr (.inl (0, 7, 4423))), .inl x1, .inr (.inr (.inr ())), .inr (.inr (.inr ()))] [.inl xs2, .inl xs1, .inr (.inr (.inl (0, 7, 4423)))] M) (h152 : ∀ (x1 : Int) (x3 : Int) (M : e_M), k152 x1 x3 M → f_E sh t YX0_die rm cs (f_Q sh t R) 152 [.inr (.inr (.inl (0, 7, 4423))), .inl x1, .inr (.inr (.inr ())), .inl x3] [] M) (h : VX0_die_115 c_X0_arePartsMixed c_X2_isWhole c_X0_draftHeirs c_X4_isTooFine c_X10_lot c_X4_copyOwners c_X0_endRightsOf c_X10_at k180 k152 (fun r M => R (some (.inl r)) M) x1 x3 M) : f_E sh t YX0_die rm cs (f_Q sh t R) 115 [.inr (.inr (.inl (0, 7, 4423))), .inl x1, .inr (.inr (.inr ())), .inl x3] [] M :=
  f_go (KC := f_kc [(180, f_pl [(4433, 0, 7), (1, 0, 0), (0, 0, 0), (0, 0, 0)] [(1, 0, 0), (1, 0, 0), (4433, 0, 7)] (fun ls st M => k180 (f_vi (f_nth ls 1)) (f_vi (f_nth st 0)) (f_vi (f_nth st 1)) M)), (152, f_pl [(4433, 0, 7), (1, 0, 0), (0, 0, 0), (1, 0, 0)] [] (fun ls st M => k152 (f_vi (f_nth ls 1)) (f_vi (f_nth ls 3)) M))]) C qX0_dief (f_kc_cons (f_pl_ok rfl (fun ls st M h => h180 _ _ _ M h)) (f_kc_cons (f_pl_ok rfl (fun ls st M h => h152 _ _ M h)) f_kc_nil)) 114 67 h
set_option maxRecDepth 20000 in
theorem BX0_die_152 {sh : Nat → Nat × Nat} {t : Nat} {rm : Nat × Nat × Nat} {cs : Nat × Nat} {R : f_Rt} {c_X0_arePartsMixed : Int → Int → e_M → (Int → Prop) → Prop} {c_X2_isWhole : Nat → e_M → (Int → Prop) → Prop} {c_X0_draftHeirs : Int → Int → e_M → (Int → e_M → Prop) → Prop} {c_X4_isTooFine : Nat → e_M → (Int → Prop) → Prop} {c_X10_lot : Nat → Int → e_M → (Nat → Prop) → Prop} {c_X4_copyOwners : Nat → Nat → e_M → (e_M → Prop) → Prop} {c_X0_endRightsOf : Int → Int → e_M → (e_M → Prop) → Prop} {c_X10_at : Nat → Int → Int → e_M → (Nat → Prop) → Prop} {k115 : Int → Int → e_M → Prop} {x1 : Int} {x3 : Int} {M : e_M} (C : f_Hy sh t yX0_die rm cs 8 (lX0_die c_X0_arePartsMixed c_X2_isWhole c_X0_draftHeirs c_X4_isTooFine c_X10_lot c_X4_copyOwners c_X0_endRightsOf c_X10_at) R) (h115 : ∀ (x1 : Int) (x3 : Int) (M : e_M), k115 x1 x3 M → f_E sh t YX0_die rm cs (f_Q sh t R) 115 [.inr (.inr (.inl (0, 7, 4423))), .inl x1, .inr (.inr (.inr ())), .inl x3] [] M) (h : VX0_die_152 c_X0_arePartsMixed c_X2_isWhole c_X0_draftHeirs c_X4_isTooFine c_X10_lot c_X4_copyOwners c_X0_endRightsOf c_X10_at k115 (fun r M => R (some (.inl r)) M) x1 x3 M) : f_E sh t YX0_die rm cs (f_Q sh t R) 152 [.inr (.inr (.inl (0, 7, 4423))), .inl x1, .inr (.inr (.inr ())), .inl x3] [] M :=
  f_go (KC := f_kc [(115, f_pl [(4433, 0, 7), (1, 0, 0), (0, 0, 0), (1, 0, 0)] [] (fun ls st M => k115 (f_vi (f_nth ls 1)) (f_vi (f_nth ls 3)) M))]) C qX0_dief (f_kc_cons (f_pl_ok rfl (fun ls st M h => h115 _ _ M h)) f_kc_nil) 114 87 h
set_option maxRecDepth 20000 in
theorem BX0_die_180 {sh : Nat → Nat × Nat} {t : Nat} {rm : Nat × Nat × Nat} {cs : Nat × Nat} {R : f_Rt} {c_X0_arePartsMixed : Int → Int → e_M → (Int → Prop) → Prop} {c_X2_isWhole : Nat → e_M → (Int → Prop) → Prop} {c_X0_draftHeirs : Int → Int → e_M → (Int → e_M → Prop) → Prop} {c_X4_isTooFine : Nat → e_M → (Int → Prop) → Prop} {c_X10_lot : Nat → Int → e_M → (Nat → Prop) → Prop} {c_X4_copyOwners : Nat → Nat → e_M → (e_M → Prop) → Prop} {c_X0_endRightsOf : Int → Int → e_M → (e_M → Prop) → Prop} {c_X10_at : Nat → Int → Int → e_M → (Nat → Prop) → Prop} {x1 : Int} {xs2 : Int} {xs1 : Int} {M : e_M} (C : f_Hy sh t yX0_die rm cs 8 (lX0_die c_X0_arePartsMixed c_X2_isWhole c_X0_draftHeirs c_X4_isTooFine c_X10_lot c_X4_copyOwners c_X0_endRightsOf c_X10_at) R) (h : VX0_die_180 c_X0_arePartsMixed c_X2_isWhole c_X0_draftHeirs c_X4_isTooFine c_X10_lot c_X4_copyOwners c_X0_endRightsOf c_X10_at (fun r M => R (some (.inl r)) M) x1 xs2 xs1 M) : f_E sh t YX0_die rm cs (f_Q sh t R) 180 [.inr (.inr (.inl (0, 7, 4423))), .inl x1, .inr (.inr (.inr ())), .inr (.inr (.inr ()))] [.inl xs2, .inl xs1, .inr (.inr (.inl (0, 7, 4423)))] M :=
  f_go (KC := f_kc []) C qX0_dief f_kc_nil 114 102 h
set_option maxRecDepth 20000 in
theorem BX0_die {sh : Nat → Nat × Nat} {t : Nat} {rm : Nat × Nat × Nat} {cs : Nat × Nat} {R : f_Rt} {c_X0_arePartsMixed : Int → Int → e_M → (Int → Prop) → Prop} {c_X2_isWhole : Nat → e_M → (Int → Prop) → Prop} {c_X0_draftHeirs : Int → Int → e_M → (Int → e_M → Prop) → Prop} {c_X4_isTooFine : Nat → e_M → (Int → Prop) → Prop} {c_X10_lot : Nat → Int → e_M → (Nat → Prop) → Prop} {c_X4_copyOwners : Nat → Nat → e_M → (e_M → Prop) → Prop} {c_X0_endRightsOf : Int → Int → e_M → (e_M → Prop) → Prop} {c_X10_at : Nat → Int → Int → e_M → (Nat → Prop) → Prop} {k39 : Int → e_M → Prop} {M : e_M} (C : f_Hy sh t yX0_die rm cs 8 (lX0_die c_X0_arePartsMixed c_X2_isWhole c_X0_draftHeirs c_X4_isTooFine c_X10_lot c_X4_copyOwners c_X0_endRightsOf c_X10_at) R) (h39 : ∀ (x1 : Int) (M : e_M), k39 x1 M → f_E sh t YX0_die rm cs (f_Q sh t R) 39 [.inr (.inr (.inl (0, 7, 4423))), .inl x1, .inr (.inr (.inr ())), .inr (.inr (.inr ()))] [] M) (h : VX0_die c_X0_arePartsMixed c_X2_isWhole c_X0_draftHeirs c_X4_isTooFine c_X10_lot c_X4_copyOwners c_X0_endRightsOf c_X10_at k39 (fun r M => R (some (.inl r)) M) M) : f_E sh t YX0_die rm cs (f_Q sh t R) 0 [.inr (.inr (.inl (0, 7, 4423))), .inr (.inr (.inr ())), .inr (.inr (.inr ())), .inr (.inr (.inr ()))] [] M :=
  f_go (KC := f_kc [(39, f_pl [(4433, 0, 7), (1, 0, 0), (0, 0, 0), (0, 0, 0)] [] (fun ls st M => k39 (f_vi (f_nth ls 1)) M))]) C qX0_dief (f_kc_cons (f_pl_ok rfl (fun ls st M h => h39 _ M h)) f_kc_nil) 114 0 h
def WX0_die_180 (Q : Int → e_M → Prop) (x1 : Int) (xs2 : Int) (xs1 : Int) (M : e_M) : Prop :=
  VX0_die_180 WX0_arePartsMixed WX2_isWhole WX0_draftHeirs WX4_isTooFine WX10_lot WX4_copyOwners WX0_endRightsOf WX10_at Q x1 xs2 xs1 M
def WX0_die_152 (H115 : Int → Int → e_M → Prop) (Q : Int → e_M → Prop) (x1 : Int) (x3 : Int) (M : e_M) : Prop :=
  VX0_die_152 WX0_arePartsMixed WX2_isWhole WX0_draftHeirs WX4_isTooFine WX10_lot WX4_copyOwners WX0_endRightsOf WX10_at H115 Q x1 x3 M
def WX0_die_115 (Q : Int → e_M → Prop) : Nat → Int → Int → e_M → Prop
  | 0, _, _, _ => False
  | n + 1, x1, x3, M =>
    VX0_die_115 WX0_arePartsMixed WX2_isWhole WX0_draftHeirs WX4_isTooFine WX10_lot WX4_copyOwners WX0_endRightsOf WX10_at (WX0_die_180 Q) (WX0_die_152 (WX0_die_115 Q n) Q) Q x1 x3 M
def WX0_die_100 (H43 : Int → Int → Int → e_M → Prop) (Q : Int → e_M → Prop) (x1 : Int) (x2 : Int) (x3 : Int) (M : e_M) : Prop :=
  VX0_die_100 WX0_arePartsMixed WX2_isWhole WX0_draftHeirs WX4_isTooFine WX10_lot WX4_copyOwners WX0_endRightsOf WX10_at H43 Q x1 x2 x3 M
def WX0_die_99 (H43 : Int → Int → Int → e_M → Prop) (Q : Int → e_M → Prop) (x1 : Int) (x3 : Int) (xs0 : Int) (M : e_M) : Prop :=
  VX0_die_99 WX0_arePartsMixed WX2_isWhole WX0_draftHeirs WX4_isTooFine WX10_lot WX4_copyOwners WX0_endRightsOf WX10_at (WX0_die_100 H43 Q) Q x1 x3 xs0 M
def WX0_die_94 (H43 : Int → Int → Int → e_M → Prop) (Q : Int → e_M → Prop) (x1 : Int) (x3 : Int) (M : e_M) : Prop :=
  VX0_die_94 WX0_arePartsMixed WX2_isWhole WX0_draftHeirs WX4_isTooFine WX10_lot WX4_copyOwners WX0_endRightsOf WX10_at (WX0_die_99 H43 Q) Q x1 x3 M
def WX0_die_43 (Q : Int → e_M → Prop) : Nat → Int → Int → Int → e_M → Prop
  | 0, _, _, _, _ => False
  | n + 1, x1, x2, x3, M =>
    VX0_die_43 WX0_arePartsMixed WX2_isWhole WX0_draftHeirs WX4_isTooFine WX10_lot WX4_copyOwners WX0_endRightsOf WX10_at (fun x1 x3 M => ∃ j, WX0_die_115 Q j x1 x3 M) (WX0_die_100 (WX0_die_43 Q n) Q) (WX0_die_94 (WX0_die_43 Q n) Q) (WX0_die_99 (WX0_die_43 Q n) Q) Q x1 x2 x3 M
def WX0_die_39 (Q : Int → e_M → Prop) (x1 : Int) (M : e_M) : Prop :=
  VX0_die_39 WX0_arePartsMixed WX2_isWhole WX0_draftHeirs WX4_isTooFine WX10_lot WX4_copyOwners WX0_endRightsOf WX10_at (fun x1 x2 x3 M => ∃ j, WX0_die_43 Q j x1 x2 x3 M) Q x1 M
def WX0_die (M : e_M) (Q : Int → e_M → Prop) : Prop :=
  VX0_die WX0_arePartsMixed WX2_isWhole WX0_draftHeirs WX4_isTooFine WX10_lot WX4_copyOwners WX0_endRightsOf WX10_at (WX0_die_39 Q) Q M
theorem PX0_die_180 {sh : Nat → Nat × Nat} {t : Nat} {rm : Nat × Nat × Nat} {cs : Nat × Nat} {R : f_Rt} {x1 : Int} {xs2 : Int} {xs1 : Int} {M : e_M} (C : f_Hy sh t yX0_die rm cs 8 (lX0_die WX0_arePartsMixed WX2_isWhole WX0_draftHeirs WX4_isTooFine WX10_lot WX4_copyOwners WX0_endRightsOf WX10_at) R) (h : WX0_die_180 (fun r M => R (some (.inl r)) M) x1 xs2 xs1 M) : f_E sh t YX0_die rm cs (f_Q sh t R) 180 [.inr (.inr (.inl (0, 7, 4423))), .inl x1, .inr (.inr (.inr ())), .inr (.inr (.inr ()))] [.inl xs2, .inl xs1, .inr (.inr (.inl (0, 7, 4423)))] M :=
  BX0_die_180 C h
theorem PX0_die_152 {sh : Nat → Nat × Nat} {t : Nat} {rm : Nat × Nat × Nat} {cs : Nat × Nat} {R : f_Rt} {H115 : Int → Int → e_M → Prop} {x1 : Int} {x3 : Int} {M : e_M} (C : f_Hy sh t yX0_die rm cs 8 (lX0_die WX0_arePartsMixed WX2_isWhole WX0_draftHeirs WX4_isTooFine WX10_lot WX4_copyOwners WX0_endRightsOf WX10_at) R) (g115 : ∀ (x1 : Int) (x3 : Int) (M : e_M), H115 x1 x3 M → f_E sh t YX0_die rm cs (f_Q sh t R) 115 [.inr (.inr (.inl (0, 7, 4423))), .inl x1, .inr (.inr (.inr ())), .inl x3] [] M) (h : WX0_die_152 H115 (fun r M => R (some (.inl r)) M) x1 x3 M) : f_E sh t YX0_die rm cs (f_Q sh t R) 152 [.inr (.inr (.inl (0, 7, 4423))), .inl x1, .inr (.inr (.inr ())), .inl x3] [] M :=
  BX0_die_152 C g115 h
theorem PX0_die_115 {sh : Nat → Nat × Nat} {t : Nat} {rm : Nat × Nat × Nat} {cs : Nat × Nat} {R : f_Rt} (C : f_Hy sh t yX0_die rm cs 8 (lX0_die WX0_arePartsMixed WX2_isWhole WX0_draftHeirs WX4_isTooFine WX10_lot WX4_copyOwners WX0_endRightsOf WX10_at) R) : ∀ (n : Nat) (x1 : Int) (x3 : Int) (M : e_M), WX0_die_115 (fun r M => R (some (.inl r)) M) n x1 x3 M → f_E sh t YX0_die rm cs (f_Q sh t R) 115 [.inr (.inr (.inl (0, 7, 4423))), .inl x1, .inr (.inr (.inr ())), .inl x3] [] M := by
  intro n
  induction n with
  | zero => intro x1 x3 M h; exact h.elim
  | succ n ih => intro x1 x3 M h; exact BX0_die_115 C (fun x1 xs2 xs1 M h => PX0_die_180 C h) (fun x1 x3 M h => PX0_die_152 C ih h) h
theorem PX0_die_100 {sh : Nat → Nat × Nat} {t : Nat} {rm : Nat × Nat × Nat} {cs : Nat × Nat} {R : f_Rt} {H43 : Int → Int → Int → e_M → Prop} {x1 : Int} {x2 : Int} {x3 : Int} {M : e_M} (C : f_Hy sh t yX0_die rm cs 8 (lX0_die WX0_arePartsMixed WX2_isWhole WX0_draftHeirs WX4_isTooFine WX10_lot WX4_copyOwners WX0_endRightsOf WX10_at) R) (g43 : ∀ (x1 : Int) (x2 : Int) (x3 : Int) (M : e_M), H43 x1 x2 x3 M → f_E sh t YX0_die rm cs (f_Q sh t R) 43 [.inr (.inr (.inl (0, 7, 4423))), .inl x1, .inl x2, .inl x3] [] M) (h : WX0_die_100 H43 (fun r M => R (some (.inl r)) M) x1 x2 x3 M) : f_E sh t YX0_die rm cs (f_Q sh t R) 100 [.inr (.inr (.inl (0, 7, 4423))), .inl x1, .inl x2, .inl x3] [] M :=
  BX0_die_100 C g43 h
theorem PX0_die_99 {sh : Nat → Nat × Nat} {t : Nat} {rm : Nat × Nat × Nat} {cs : Nat × Nat} {R : f_Rt} {H43 : Int → Int → Int → e_M → Prop} {x1 : Int} {x3 : Int} {xs0 : Int} {M : e_M} (C : f_Hy sh t yX0_die rm cs 8 (lX0_die WX0_arePartsMixed WX2_isWhole WX0_draftHeirs WX4_isTooFine WX10_lot WX4_copyOwners WX0_endRightsOf WX10_at) R) (g43 : ∀ (x1 : Int) (x2 : Int) (x3 : Int) (M : e_M), H43 x1 x2 x3 M → f_E sh t YX0_die rm cs (f_Q sh t R) 43 [.inr (.inr (.inl (0, 7, 4423))), .inl x1, .inl x2, .inl x3] [] M) (h : WX0_die_99 H43 (fun r M => R (some (.inl r)) M) x1 x3 xs0 M) : f_E sh t YX0_die rm cs (f_Q sh t R) 99 [.inr (.inr (.inl (0, 7, 4423))), .inl x1, .inr (.inr (.inr ())), .inl x3] [.inl xs0] M :=
  BX0_die_99 C (fun x1 x2 x3 M h => PX0_die_100 C g43 h) h
theorem PX0_die_94 {sh : Nat → Nat × Nat} {t : Nat} {rm : Nat × Nat × Nat} {cs : Nat × Nat} {R : f_Rt} {H43 : Int → Int → Int → e_M → Prop} {x1 : Int} {x3 : Int} {M : e_M} (C : f_Hy sh t yX0_die rm cs 8 (lX0_die WX0_arePartsMixed WX2_isWhole WX0_draftHeirs WX4_isTooFine WX10_lot WX4_copyOwners WX0_endRightsOf WX10_at) R) (g43 : ∀ (x1 : Int) (x2 : Int) (x3 : Int) (M : e_M), H43 x1 x2 x3 M → f_E sh t YX0_die rm cs (f_Q sh t R) 43 [.inr (.inr (.inl (0, 7, 4423))), .inl x1, .inl x2, .inl x3] [] M) (h : WX0_die_94 H43 (fun r M => R (some (.inl r)) M) x1 x3 M) : f_E sh t YX0_die rm cs (f_Q sh t R) 94 [.inr (.inr (.inl (0, 7, 4423))), .inl x1, .inr (.inr (.inr ())), .inl x3] [] M :=
  BX0_die_94 C (fun x1 x3 xs0 M h => PX0_die_99 C g43 h) h
theorem PX0_die_43 {sh : Nat → Nat × Nat} {t : Nat} {rm : Nat × Nat × Nat} {cs : Nat × Nat} {R : f_Rt} (C : f_Hy sh t yX0_die rm cs 8 (lX0_die WX0_arePartsMixed WX2_isWhole WX0_draftHeirs WX4_isTooFine WX10_lot WX4_copyOwners WX0_endRightsOf WX10_at) R) : ∀ (n : Nat) (x1 : Int) (x2 : Int) (x3 : Int) (M : e_M), WX0_die_43 (fun r M => R (some (.inl r)) M) n x1 x2 x3 M → f_E sh t YX0_die rm cs (f_Q sh t R) 43 [.inr (.inr (.inl (0, 7, 4423))), .inl x1, .inl x2, .inl x3] [] M := by
  intro n
  induction n with
  | zero => intro x1 x2 x3 M h; exact h.elim
  | succ n ih => intro x1 x2 x3 M h; exact BX0_die_43 C (fun x1 x3 M ⟨j, h⟩ => PX0_die_115 C j _ _ _ h) (fun x1 x2 x3 M h => PX0_die_100 C ih h) (fun x1 x3 M h => PX0_die_94 C ih h) (fun x1 x3 xs0 M h => PX0_die_99 C ih h) h
theorem PX0_die_39 {sh : Nat → Nat × Nat} {t : Nat} {rm : Nat × Nat × Nat} {cs : Nat × Nat} {R : f_Rt} {x1 : Int} {M : e_M} (C : f_Hy sh t yX0_die rm cs 8 (lX0_die WX0_arePartsMixed WX2_isWhole WX0_draftHeirs WX4_isTooFine WX10_lot WX4_copyOwners WX0_endRightsOf WX10_at) R) (h : WX0_die_39 (fun r M => R (some (.inl r)) M) x1 M) : f_E sh t YX0_die rm cs (f_Q sh t R) 39 [.inr (.inr (.inl (0, 7, 4423))), .inl x1, .inr (.inr (.inr ())), .inr (.inr (.inr ()))] [] M :=
  BX0_die_39 C (fun x1 x2 x3 M ⟨j, h⟩ => PX0_die_43 C j _ _ _ _ h) h
theorem PX0_die {sh : Nat → Nat × Nat} {t : Nat} {rm : Nat × Nat × Nat} {cs : Nat × Nat} {R : f_Rt} {M : e_M} (C : f_Hy sh t yX0_die rm cs 8 (lX0_die WX0_arePartsMixed WX2_isWhole WX0_draftHeirs WX4_isTooFine WX10_lot WX4_copyOwners WX0_endRightsOf WX10_at) R) (h : WX0_die M (fun r M => R (some (.inl r)) M)) : f_E sh t YX0_die rm cs (f_Q sh t R) 0 [.inr (.inr (.inl (0, 7, 4423))), .inr (.inr (.inr ())), .inr (.inr (.inr ())), .inr (.inr (.inr ()))] [] M :=
  BX0_die C (fun x1 M h => PX0_die_39 C h) h
def wX0_die : f_Wt := f_wm [(4433, 0, 7)] (fun ar M R => WX0_die M (fun r M => R (some (.inl r)) M))
theorem TX0_die {sh : Nat → Nat × Nat} {t : Nat} : f_Mt sh t YX0_die 8 (wX0_die) :=
  f_Mt_of (k := 3) (Nat.le_of_ble_eq_true rfl) rfl rfl (fun ar M R rm cs h1 h2 h3 hX h => PX0_die ⟨Nat.le_of_ble_eq_true rfl, h1, h2, h3, ⟨(f_Mt.up (Nat.le_of_ble_eq_true rfl) TX0_arePartsMixed), (f_Mt.up (Nat.le_of_ble_eq_true rfl) TX2_isWhole), (f_Mt.up (Nat.le_of_ble_eq_true rfl) TX0_draftHeirs), (f_Mt.up (Nat.le_of_ble_eq_true rfl) TX4_isTooFine), (f_Mt.up (Nat.le_of_ble_eq_true rfl) TX10_lot), (f_Mt.up (Nat.le_of_ble_eq_true rfl) TX4_copyOwners), (f_Mt.up (Nat.le_of_ble_eq_true rfl) TX0_endRightsOf), (f_Mt.up (Nat.le_of_ble_eq_true rfl) TX10_at), trivial⟩, hX⟩ h)
def VX0_closeFirm_9 (c_X10_lot : Nat → Int → e_M → (Nat → Prop) → Prop) (c_X4_placeOf : Nat → Int → e_M → (Int → Prop) → Prop) (c_X10_at : Nat → Int → Int → e_M → (Nat → Prop) → Prop) (c_X9_isThere : Nat → Int → e_M → (Int → Prop) → Prop) (c_X0_endRightsOf : Int → Int → e_M → (e_M → Prop) → Prop) (k61 : Int → Int → e_M → Prop) (k53 : Int → Int → e_M → Prop) (Q : Int → e_M → Prop) (x1 : Int) (x2 : Int) (M : e_M) : Prop :=
  ((0 ≤ (0 : Int) ∧ (0 : Int) < 8) ∧ (((M ((M 4423 0).toNat + 24) ((0 : Int).toNat)) ≤ x2 → (k61 x1 2 M)) ∧ (x2 < (M ((M 4423 0).toNat + 24) ((0 : Int).toNat)) → (c_X10_lot ((M 4423 0).toNat) x2 M (fun r1 => ((¬ (M r1 1) = 0 → (k53 x1 x2 M)) ∧ ((M r1 1) = 0 → (c_X10_lot ((M 4423 0).toNat) x2 M (fun r2 => (c_X4_placeOf r2 x1 M (fun r3 => ((r3 < 0 → (k53 x1 x2 M)) ∧ (0 ≤ r3 → (Q 5 M))))))))))))))
def VX0_closeFirm_53 (c_X10_lot : Nat → Int → e_M → (Nat → Prop) → Prop) (c_X4_placeOf : Nat → Int → e_M → (Int → Prop) → Prop) (c_X10_at : Nat → Int → Int → e_M → (Nat → Prop) → Prop) (c_X9_isThere : Nat → Int → e_M → (Int → Prop) → Prop) (c_X0_endRightsOf : Int → Int → e_M → (e_M → Prop) → Prop) (k9 : Int → Int → e_M → Prop) (Q : Int → e_M → Prop) (x1 : Int) (x2 : Int) (M : e_M) : Prop :=
  (k9 x1 (e_w32 (x2 + 1)) M)
def VX0_closeFirm_61 (c_X10_lot : Nat → Int → e_M → (Nat → Prop) → Prop) (c_X4_placeOf : Nat → Int → e_M → (Int → Prop) → Prop) (c_X10_at : Nat → Int → Int → e_M → (Nat → Prop) → Prop) (c_X9_isThere : Nat → Int → e_M → (Int → Prop) → Prop) (c_X0_endRightsOf : Int → Int → e_M → (e_M → Prop) → Prop) (k69 : Int → Int → Int → e_M → Prop) (Q : Int → e_M → Prop) (x1 : Int) (x2 : Int) (M : e_M) : Prop :=
  ((6 < x2 → (c_X0_endRightsOf x1 0 M (fun M1 => (c_X10_at ((M1 4423 0).toNat) 1 x1 M1 (fun r2 => (((1 : Int) = 0 ∨ (1 : Int) = 1) ∧ (∀ M3 : e_M, M3 = e_up M1 r2 2 1 → (Q 0 M3)))))))) ∧ (x2 ≤ 6 → (k69 x1 x2 0 M)))
def VX0_closeFirm_69 (c_X10_lot : Nat → Int → e_M → (Nat → Prop) → Prop) (c_X4_placeOf : Nat → Int → e_M → (Int → Prop) → Prop) (c_X10_at : Nat → Int → Int → e_M → (Nat → Prop) → Prop) (c_X9_isThere : Nat → Int → e_M → (Int → Prop) → Prop) (c_X0_endRightsOf : Int → Int → e_M → (e_M → Prop) → Prop) (k130 : Int → Int → e_M → Prop) (k124 : Int → Int → Int → e_M → Prop) (Q : Int → e_M → Prop) (x1 : Int) (x2 : Int) (x3 : Int) (M : e_M) : Prop :=
  ((0 ≤ x2 ∧ x2 < 8) ∧ (((M ((M 4423 0).toNat + 24) (x2.toNat)) ≤ x3 → (k130 x1 x2 M)) ∧ (x3 < (M ((M 4423 0).toNat + 24) (x2.toNat)) → ((x2 = 5 → (k130 x1 x2 M)) ∧ (¬ x2 = 5 → (c_X10_at ((M 4423 0).toNat) x2 x3 M (fun r1 => (c_X9_isThere r1 (M ((M 4423 0).toNat) 11) M (fun r2 => ((r2 = 0 → (k124 x1 x2 x3 M)) ∧ (¬ r2 = 0 → ((¬ (M r1 5) = x1 → (k124 x1 x2 x3 M)) ∧ ((M r1 5) = x1 → (Q 5 M))))))))))))))
def VX0_closeFirm_124 (c_X10_lot : Nat → Int → e_M → (Nat → Prop) → Prop) (c_X4_placeOf : Nat → Int → e_M → (Int → Prop) → Prop) (c_X10_at : Nat → Int → Int → e_M → (Nat → Prop) → Prop) (c_X9_isThere : Nat → Int → e_M → (Int → Prop) → Prop) (c_X0_endRightsOf : Int → Int → e_M → (e_M → Prop) → Prop) (k69 : Int → Int → Int → e_M → Prop) (Q : Int → e_M → Prop) (x1 : Int) (x2 : Int) (x3 : Int) (M : e_M) : Prop :=
  (k69 x1 x2 (e_w32 (x3 + 1)) M)
def VX0_closeFirm_130 (c_X10_lot : Nat → Int → e_M → (Nat → Prop) → Prop) (c_X4_placeOf : Nat → Int → e_M → (Int → Prop) → Prop) (c_X10_at : Nat → Int → Int → e_M → (Nat → Prop) → Prop) (c_X9_isThere : Nat → Int → e_M → (Int → Prop) → Prop) (c_X0_endRightsOf : Int → Int → e_M → (e_M → Prop) → Prop) (k61 : Int → Int → e_M → Prop) (Q : Int → e_M → Prop) (x1 : Int) (x2 : Int) (M : e_M) : Prop :=
  (k61 x1 (e_w32 (x2 + 1)) M)
def VX0_closeFirm (c_X10_lot : Nat → Int → e_M → (Nat → Prop) → Prop) (c_X4_placeOf : Nat → Int → e_M → (Int → Prop) → Prop) (c_X10_at : Nat → Int → Int → e_M → (Nat → Prop) → Prop) (c_X9_isThere : Nat → Int → e_M → (Int → Prop) → Prop) (c_X0_endRightsOf : Int → Int → e_M → (e_M → Prop) → Prop) (k9 : Int → Int → e_M → Prop) (Q : Int → e_M → Prop) (M : e_M) : Prop :=
  ((0 ≤ (0 : Int) ∧ (0 : Int) < 8) ∧ (k9 (M 4425 ((0 : Int).toNat)) 0 M))
def yX0_closeFirm (i : Nat) : e_Y := x_get YX0_closeFirm [YX10_lot, YX4_placeOf, YX10_at, YX9_isThere, YX0_endRightsOf] i
def pX0_closeFirmf : List x_I := [(0, 4, 1, 0, 0, 0, []), (1, 25, 0, 4, 4, 0, [(0, 20, 8), (0, 1, 2)]), (4, 0, 1, 0, 0, 0, []), (5, 27, 0, 0, 0, 0, []), (6, 5, 1, 1, 0, 0, []), (7, 0, 1, 0, 0, 0, []), (8, 5, 1, 2, 0, 0, []), (9, 49, 0, 0, 0, 0, []), (9, 2, 1, 2, 0, 0, []), (10, 4, 1, 0, 0, 0, []), (11, 25, 0, 0, 4, 0, [(0, 10, 15), (0, 0, 0)]), (14, 25, 10, 4, 4, 0, [(0, 20, 8), (0, 1, 24)]), (17, 0, 1, 0, 0, 0, []), (18, 27, 0, 0, 0, 0, []), (19, 18, 59, 3, 34, 0, []), (22, 4, 1, 0, 0, 0, []), (23, 25, 0, 0, 4, 0, [(0, 10, 15), (0, 0, 0)]), (26, 2, 1, 2, 0, 0, []), (27, 40, 0, 2, 12, 0, []), (30, 25, 4, 1, 1, 0, []), (33, 17, 53, 1, 31, 0, []), (36, 4, 1, 0, 0, 0, []), (37, 25, 0, 0, 4, 0, [(0, 10, 15), (0, 0, 0)]), (40, 2, 1, 2, 0, 0, []), (41, 40, 0, 2, 12, 0, []), (44, 2, 1, 1, 0, 0, []), (45, 40, 1, 2, 6, 0, []), (48, 17, 53, 2, 31, 0, []), (51, 0, 1, 0, 0, 5, []), (52, 41, 0, 0, 0, 0, []), (53, 49, 0, 0, 0, 0, []), (53, 8, 0, 2, 0, 1, []), (56, 19, 9, 0, 8, 0, []), (59, 0, 1, 0, 0, 2, []), (60, 5, 1, 2, 0, 0, []), (61, 49, 0, 0, 0, 0, []), (61, 2, 1, 2, 0, 0, []), (62, 0, 2, 0, 0, 6, []), (64, 18, 136, 4, 77, 0, []), (67, 0, 1, 0, 0, 0, []), (68, 5, 1, 3, 0, 0, []), (69, 49, 0, 0, 0, 0, []), (69, 2, 1, 3, 0, 0, []), (70, 4, 1, 0, 0, 0, []), (71, 25, 0, 0, 4, 0, [(0, 10, 15), (0, 0, 0)]), (74, 25, 10, 4, 4, 0, [(0, 20, 8), (0, 1, 24)]), (77, 2, 1, 2, 0, 0, []), (78, 27, 0, 0, 0, 0, []), (79, 18, 130, 3, 74, 0, []), (82, 2, 1, 2, 0, 0, []), (83, 0, 1, 0, 0, 5, []), (84, 18, 130, 0, 74, 0, []), (87, 4, 1, 0, 0, 0, []), (88, 25, 0, 0, 4, 0, [(0, 10, 15), (0, 0, 0)]), (91, 2, 1, 2, 0, 0, []), (92, 2, 1, 3, 0, 0, []), (93, 40, 2, 3, 12, 0, []), (96, 7, 2, 4, 0, 0, []), (98, 4, 2, 4, 0, 0, []), (100, 4, 1, 0, 0, 0, []), (101, 25, 0, 0, 4, 0, [(0, 10, 15), (0, 0, 0)]), (104, 25, 10, 11, 0, 0, []), (107, 40, 3, 2, 11, 0, []), (110, 17, 124, 0, 71, 0, []), (113, 4, 2, 4, 0, 0, []), (115, 25, 9, 5, 0, 0, []), (118, 2, 1, 1, 0, 0, []), (119, 18, 124, 1, 71, 0, []), (122, 0, 1, 0, 0, 5, []), (123, 41, 0, 0, 0, 0, []), (124, 49, 0, 0, 0, 0, []), (124, 8, 0, 3, 0, 1, []), (127, 19, 69, 0, 42, 0, []), (130, 49, 0, 0, 0, 0, []), (130, 8, 0, 2, 0, 1, []), (133, 19, 61, 0, 36, 0, []), (136, 4, 1, 0, 0, 0, []), (137, 2, 1, 1, 0, 0, []), (138, 0, 1, 0, 0, 0, []), (139, 40, 4, 3, 2, 0, []), (142, 4, 1, 0, 0, 0, []), (143, 25, 0, 0, 4, 0, [(0, 10, 15), (0, 0, 0)]), (146, 0, 1, 0, 0, 1, []), (147, 2, 1, 1, 0, 0, []), (148, 40, 2, 3, 12, 0, []), (151, 0, 1, 0, 0, 1, []), (152, 26, 9, 2, 1, 0, []), (155, 0, 1, 0, 0, 0, []), (156, 41, 0, 0, 0, 0, [])]
set_option maxRecDepth 20000 in
theorem qX0_closeFirmf : f_all yX0_closeFirm YX0_closeFirm pX0_closeFirmf :=
  ⟨f_aload_n (n := 0) (e_dx DX0_closeFirm_0 0 rfl) rfl,
  f_getA (e_dx DX0_closeFirm_0 1 rfl) fX0_19 rfl (by decide) (Nat.le_of_ble_eq_true rfl) rfl (by decide),
  f_iconst (e_dx DX0_closeFirm_0 2 rfl) ⟨by decide, by decide⟩,
  f_iaload (e_dx DX0_closeFirm_0 3 rfl),
  f_istore_n (n := 1) (e_dx DX0_closeFirm_0 4 rfl) rfl (by decide),
  f_iconst (e_dx DX0_closeFirm_0 5 rfl) ⟨by decide, by decide⟩,
  f_istore_n (n := 2) (e_dx DX0_closeFirm_0 6 rfl) rfl (by decide),
  trivial,
  f_iload_n (n := 2) (e_dx DX0_closeFirm_0 7 rfl) rfl,
  f_aload_n (n := 0) (e_dx DX0_closeFirm_0 8 rfl) rfl,
  f_getA (e_dx DX0_closeFirm_0 9 rfl) fX0_36 rfl (by decide) (Nat.le_of_ble_eq_true rfl) rfl (by decide),
  f_getA (e_dx DX0_closeFirm_0 10 rfl) fX0_174 rfl (by decide) (Nat.le_of_ble_eq_true rfl) rfl (by decide),
  f_iconst (e_dx DX0_closeFirm_0 11 rfl) ⟨by decide, by decide⟩,
  f_iaload (e_dx DX0_closeFirm_0 12 rfl),
  f_icmp_ge (e_dx DX0_closeFirm_0 13 rfl) rfl,
  f_aload_n (n := 0) (e_dx DX0_closeFirm_0 14 rfl) rfl,
  f_getA (e_dx DX0_closeFirm_0 15 rfl) fX0_36 rfl (by decide) (Nat.le_of_ble_eq_true rfl) rfl (by decide),
  f_iload_n (n := 2) (e_dx DX0_closeFirm_0 16 rfl) rfl,
  x_callV (e_dx DX0_closeFirm_0 17 rfl) mwX10_lot vwX10_lot cX0_161 rfl,
  f_getf (e_dx DX0_closeFirm_0 18 rfl) fX0_247 rfl (by decide) (by decide) (by decide),
  f_if_ne (e_dx DX0_closeFirm_0 19 rfl) rfl,
  f_aload_n (n := 0) (e_dx DX0_closeFirm_0 20 rfl) rfl,
  f_getA (e_dx DX0_closeFirm_0 21 rfl) fX0_36 rfl (by decide) (Nat.le_of_ble_eq_true rfl) rfl (by decide),
  f_iload_n (n := 2) (e_dx DX0_closeFirm_0 22 rfl) rfl,
  x_callV (e_dx DX0_closeFirm_0 23 rfl) mwX10_lot vwX10_lot cX0_161 rfl,
  f_iload_n (n := 1) (e_dx DX0_closeFirm_0 24 rfl) rfl,
  x_callV (e_dx DX0_closeFirm_0 25 rfl) mwX4_placeOf vwX4_placeOf cX0_244 rfl,
  f_if_lt (e_dx DX0_closeFirm_0 26 rfl) rfl,
  f_iconst (e_dx DX0_closeFirm_0 27 rfl) ⟨by decide, by decide⟩,
  ⟨(e_dx DX0_closeFirm_0 28 rfl), rfl⟩,
  trivial,
  f_g8 (e_dx DX0_closeFirm_0 29 rfl) ⟨by decide, by decide⟩,
  f_g19 (e_dx DX0_closeFirm_0 30 rfl) rfl,
  f_iconst (e_dx DX0_closeFirm_0 31 rfl) ⟨by decide, by decide⟩,
  f_istore_n (n := 2) (e_dx DX0_closeFirm_0 32 rfl) rfl (by decide),
  trivial,
  f_iload_n (n := 2) (e_dx DX0_closeFirm_0 33 rfl) rfl,
  f_bipush (e_dx DX0_closeFirm_0 34 rfl) ⟨by decide, by decide⟩,
  f_icmp_gt (e_dx DX0_closeFirm_0 35 rfl) rfl,
  f_iconst (e_dx DX0_closeFirm_0 36 rfl) ⟨by decide, by decide⟩,
  f_istore_n (n := 3) (e_dx DX0_closeFirm_0 37 rfl) rfl (by decide),
  trivial,
  f_iload_n (n := 3) (e_dx DX0_closeFirm_0 38 rfl) rfl,
  f_aload_n (n := 0) (e_dx DX0_closeFirm_0 39 rfl) rfl,
  f_getA (e_dx DX0_closeFirm_1 0 rfl) fX0_36 rfl (by decide) (Nat.le_of_ble_eq_true rfl) rfl (by decide),
  f_getA (e_dx DX0_closeFirm_1 1 rfl) fX0_174 rfl (by decide) (Nat.le_of_ble_eq_true rfl) rfl (by decide),
  f_iload_n (n := 2) (e_dx DX0_closeFirm_1 2 rfl) rfl,
  f_iaload (e_dx DX0_closeFirm_1 3 rfl),
  f_icmp_ge (e_dx DX0_closeFirm_1 4 rfl) rfl,
  f_iload_n (n := 2) (e_dx DX0_closeFirm_1 5 rfl) rfl,
  f_iconst (e_dx DX0_closeFirm_1 6 rfl) ⟨by decide, by decide⟩,
  f_icmp_eq (e_dx DX0_closeFirm_1 7 rfl) rfl,
  f_aload_n (n := 0) (e_dx DX0_closeFirm_1 8 rfl) rfl,
  f_getA (e_dx DX0_closeFirm_1 9 rfl) fX0_36 rfl (by decide) (Nat.le_of_ble_eq_true rfl) rfl (by decide),
  f_iload_n (n := 2) (e_dx DX0_closeFirm_1 10 rfl) rfl,
  f_iload_n (n := 3) (e_dx DX0_closeFirm_1 11 rfl) rfl,
  x_callV (e_dx DX0_closeFirm_1 12 rfl) mwX10_at vwX10_at cX0_152 rfl,
  f_astore (e_dx DX0_closeFirm_1 13 rfl) (by decide),
  f_aload (e_dx DX0_closeFirm_1 14 rfl),
  f_aload_n (n := 0) (e_dx DX0_closeFirm_1 15 rfl) rfl,
  f_getA (e_dx DX0_closeFirm_1 16 rfl) fX0_36 rfl (by decide) (Nat.le_of_ble_eq_true rfl) rfl (by decide),
  f_getf (e_dx DX0_closeFirm_1 17 rfl) fX0_49 rfl (by decide) (by decide) (by decide),
  x_callV (e_dx DX0_closeFirm_1 18 rfl) mwX9_isThere vwX9_isThere cX0_177 rfl,
  f_if_eq (e_dx DX0_closeFirm_1 19 rfl) rfl,
  f_aload (e_dx DX0_closeFirm_1 20 rfl),
  f_getf (e_dx DX0_closeFirm_1 21 rfl) fX0_188 rfl (by decide) (by decide) (by decide),
  f_iload_n (n := 1) (e_dx DX0_closeFirm_1 22 rfl) rfl,
  f_icmp_ne (e_dx DX0_closeFirm_1 23 rfl) rfl,
  f_iconst (e_dx DX0_closeFirm_1 24 rfl) ⟨by decide, by decide⟩,
  ⟨(e_dx DX0_closeFirm_1 25 rfl), rfl⟩,
  trivial,
  f_g8 (e_dx DX0_closeFirm_1 26 rfl) ⟨by decide, by decide⟩,
  f_g19 (e_dx DX0_closeFirm_1 27 rfl) rfl,
  trivial,
  f_g8 (e_dx DX0_closeFirm_1 28 rfl) ⟨by decide, by decide⟩,
  f_g19 (e_dx DX0_closeFirm_1 29 rfl) rfl,
  f_aload_n (n := 0) (e_dx DX0_closeFirm_1 30 rfl) rfl,
  f_iload_n (n := 1) (e_dx DX0_closeFirm_1 31 rfl) rfl,
  f_iconst (e_dx DX0_closeFirm_1 32 rfl) ⟨by decide, by decide⟩,
  x_callV (e_dx DX0_closeFirm_1 33 rfl) mwX0_endRightsOf vwX0_endRightsOf cX0_236 rfl,
  f_aload_n (n := 0) (e_dx DX0_closeFirm_1 34 rfl) rfl,
  f_getA (e_dx DX0_closeFirm_1 35 rfl) fX0_36 rfl (by decide) (Nat.le_of_ble_eq_true rfl) rfl (by decide),
  f_iconst (e_dx DX0_closeFirm_1 36 rfl) ⟨by decide, by decide⟩,
  f_iload_n (n := 1) (e_dx DX0_closeFirm_1 37 rfl) rfl,
  x_callV (e_dx DX0_closeFirm_1 38 rfl) mwX10_at vwX10_at cX0_152 rfl,
  f_iconst (e_dx DX0_closeFirm_1 39 rfl) ⟨by decide, by decide⟩,
  f_putn (e_dx DX0_closeFirm_2 0 rfl) fX0_240 (fun q hq => by cases hq; rfl) rfl (Or.inr (Or.inl rfl)) (by decide),
  f_iconst (e_dx DX0_closeFirm_2 1 rfl) ⟨by decide, by decide⟩,
  ⟨(e_dx DX0_closeFirm_2 2 rfl), rfl⟩, trivial⟩
def lX0_closeFirm (c_X10_lot : Nat → Int → e_M → (Nat → Prop) → Prop) (c_X4_placeOf : Nat → Int → e_M → (Int → Prop) → Prop) (c_X10_at : Nat → Int → Int → e_M → (Nat → Prop) → Prop) (c_X9_isThere : Nat → Int → e_M → (Int → Prop) → Prop) (c_X0_endRightsOf : Int → Int → e_M → (e_M → Prop) → Prop) : List (Nat × f_Wt) := [(0, f_wm [(3, 10, 15), (1, 0, 0)] (fun ar M R => c_X10_lot (f_va (f_nth ar 0)) (f_vi (f_nth ar 1)) M (fun r => R (some (.inr (.inr (.inl (4, 9, r))))) M))), (1, f_wm [(3, 4, 9), (1, 0, 0)] (fun ar M R => c_X4_placeOf (f_va (f_nth ar 0)) (f_vi (f_nth ar 1)) M (fun r => R (some (.inl r)) M))), (2, f_wm [(3, 10, 15), (1, 0, 0), (1, 0, 0)] (fun ar M R => c_X10_at (f_va (f_nth ar 0)) (f_vi (f_nth ar 1)) (f_vi (f_nth ar 2)) M (fun r => R (some (.inr (.inr (.inl (9, 14, r))))) M))), (3, f_wm [(3, 9, 14), (1, 0, 0)] (fun ar M R => c_X9_isThere (f_va (f_nth ar 0)) (f_vi (f_nth ar 1)) M (fun r => R (some (.inl r)) M))), (4, f_wm [(4433, 0, 7), (1, 0, 0), (1, 0, 0)] (fun ar M R => c_X0_endRightsOf (f_vi (f_nth ar 1)) (f_vi (f_nth ar 2)) M (fun M => R none M)))]
set_option maxRecDepth 20000 in
theorem BX0_closeFirm_9 {sh : Nat → Nat × Nat} {t : Nat} {rm : Nat × Nat × Nat} {cs : Nat × Nat} {R : f_Rt} {c_X10_lot : Nat → Int → e_M → (Nat → Prop) → Prop} {c_X4_placeOf : Nat → Int → e_M → (Int → Prop) → Prop} {c_X10_at : Nat → Int → Int → e_M → (Nat → Prop) → Prop} {c_X9_isThere : Nat → Int → e_M → (Int → Prop) → Prop} {c_X0_endRightsOf : Int → Int → e_M → (e_M → Prop) → Prop} {k61 : Int → Int → e_M → Prop} {k53 : Int → Int → e_M → Prop} {x1 : Int} {x2 : Int} {M : e_M} (C : f_Hy sh t yX0_closeFirm rm cs 6 (lX0_closeFirm c_X10_lot c_X4_placeOf c_X10_at c_X9_isThere c_X0_endRightsOf) R) (h61 : ∀ (x1 : Int) (x2 : Int) (M : e_M), k61 x1 x2 M → f_E sh t YX0_closeFirm rm cs (f_Q sh t R) 61 [.inr (.inr (.inl (0, 7, 4423))), .inl x1, .inl x2, .inr (.inr (.inr ())), .inr (.inr (.inr ()))] [] M) (h53 : ∀ (x1 : Int) (x2 : Int) (M : e_M), k53 x1 x2 M → f_E sh t YX0_closeFirm rm cs (f_Q sh t R) 53 [.inr (.inr (.inl (0, 7, 4423))), .inl x1, .inl x2, .inr (.inr (.inr ())), .inr (.inr (.inr ()))] [] M) (h : VX0_closeFirm_9 c_X10_lot c_X4_placeOf c_X10_at c_X9_isThere c_X0_endRightsOf k61 k53 (fun r M => R (some (.inl r)) M) x1 x2 M) : f_E sh t YX0_closeFirm rm cs (f_Q sh t R) 9 [.inr (.inr (.inl (0, 7, 4423))), .inl x1, .inl x2, .inr (.inr (.inr ())), .inr (.inr (.inr ()))] [] M :=
  f_go (KC := f_kc [(61, f_pl [(4433, 0, 7), (1, 0, 0), (1, 0, 0), (0, 0, 0), (0, 0, 0)] [] (fun ls st M => k61 (f_vi (f_nth ls 1)) (f_vi (f_nth ls 2)) M)), (53, f_pl [(4433, 0, 7), (1, 0, 0), (1, 0, 0), (0, 0, 0), (0, 0, 0)] [] (fun ls st M => k53 (f_vi (f_nth ls 1)) (f_vi (f_nth ls 2)) M))]) C qX0_closeFirmf (f_kc_cons (f_pl_ok rfl (fun ls st M h => h61 _ _ M h)) (f_kc_cons (f_pl_ok rfl (fun ls st M h => h53 _ _ M h)) f_kc_nil)) 91 8 h
set_option maxRecDepth 20000 in
theorem BX0_closeFirm_53 {sh : Nat → Nat × Nat} {t : Nat} {rm : Nat × Nat × Nat} {cs : Nat × Nat} {R : f_Rt} {c_X10_lot : Nat → Int → e_M → (Nat → Prop) → Prop} {c_X4_placeOf : Nat → Int → e_M → (Int → Prop) → Prop} {c_X10_at : Nat → Int → Int → e_M → (Nat → Prop) → Prop} {c_X9_isThere : Nat → Int → e_M → (Int → Prop) → Prop} {c_X0_endRightsOf : Int → Int → e_M → (e_M → Prop) → Prop} {k9 : Int → Int → e_M → Prop} {x1 : Int} {x2 : Int} {M : e_M} (C : f_Hy sh t yX0_closeFirm rm cs 6 (lX0_closeFirm c_X10_lot c_X4_placeOf c_X10_at c_X9_isThere c_X0_endRightsOf) R) (h9 : ∀ (x1 : Int) (x2 : Int) (M : e_M), k9 x1 x2 M → f_E sh t YX0_closeFirm rm cs (f_Q sh t R) 9 [.inr (.inr (.inl (0, 7, 4423))), .inl x1, .inl x2, .inr (.inr (.inr ())), .inr (.inr (.inr ()))] [] M) (h : VX0_closeFirm_53 c_X10_lot c_X4_placeOf c_X10_at c_X9_isThere c_X0_endRightsOf k9 (fun r M => R (some (.inl r)) M) x1 x2 M) : f_E sh t YX0_closeFirm rm cs (f_Q sh t R) 53 [.inr (.inr (.inl (0, 7, 4423))), .inl x1, .inl x2, .inr (.inr (.inr ())), .inr (.inr (.inr ()))] [] M :=
  f_go (KC := f_kc [(9, f_pl [(4433, 0, 7), (1, 0, 0), (1, 0, 0), (0, 0, 0), (0, 0, 0)] [] (fun ls st M => k9 (f_vi (f_nth ls 1)) (f_vi (f_nth ls 2)) M))]) C qX0_closeFirmf (f_kc_cons (f_pl_ok rfl (fun ls st M h => h9 _ _ M h)) f_kc_nil) 91 31 h
set_option maxRecDepth 20000 in
theorem BX0_closeFirm_61 {sh : Nat → Nat × Nat} {t : Nat} {rm : Nat × Nat × Nat} {cs : Nat × Nat} {R : f_Rt} {c_X10_lot : Nat → Int → e_M → (Nat → Prop) → Prop} {c_X4_placeOf : Nat → Int → e_M → (Int → Prop) → Prop} {c_X10_at : Nat → Int → Int → e_M → (Nat → Prop) → Prop} {c_X9_isThere : Nat → Int → e_M → (Int → Prop) → Prop} {c_X0_endRightsOf : Int → Int → e_M → (e_M → Prop) → Prop} {k69 : Int → Int → Int → e_M → Prop} {x1 : Int} {x2 : Int} {M : e_M} (C : f_Hy sh t yX0_closeFirm rm cs 6 (lX0_closeFirm c_X10_lot c_X4_placeOf c_X10_at c_X9_isThere c_X0_endRightsOf) R) (h69 : ∀ (x1 : Int) (x2 : Int) (x3 : Int) (M : e_M), k69 x1 x2 x3 M → f_E sh t YX0_closeFirm rm cs (f_Q sh t R) 69 [.inr (.inr (.inl (0, 7, 4423))), .inl x1, .inl x2, .inl x3, .inr (.inr (.inr ()))] [] M) (h : VX0_closeFirm_61 c_X10_lot c_X4_placeOf c_X10_at c_X9_isThere c_X0_endRightsOf k69 (fun r M => R (some (.inl r)) M) x1 x2 M) : f_E sh t YX0_closeFirm rm cs (f_Q sh t R) 61 [.inr (.inr (.inl (0, 7, 4423))), .inl x1, .inl x2, .inr (.inr (.inr ())), .inr (.inr (.inr ()))] [] M :=
  f_go (KC := f_kc [(69, f_pl [(4433, 0, 7), (1, 0, 0), (1, 0, 0), (1, 0, 0), (0, 0, 0)] [] (fun ls st M => k69 (f_vi (f_nth ls 1)) (f_vi (f_nth ls 2)) (f_vi (f_nth ls 3)) M))]) C qX0_closeFirmf (f_kc_cons (f_pl_ok rfl (fun ls st M h => h69 _ _ _ M h)) f_kc_nil) 91 36 h
set_option maxRecDepth 20000 in
theorem BX0_closeFirm_69 {sh : Nat → Nat × Nat} {t : Nat} {rm : Nat × Nat × Nat} {cs : Nat × Nat} {R : f_Rt} {c_X10_lot : Nat → Int → e_M → (Nat → Prop) → Prop} {c_X4_placeOf : Nat → Int → e_M → (Int → Prop) → Prop} {c_X10_at : Nat → Int → Int → e_M → (Nat → Prop) → Prop} {c_X9_isThere : Nat → Int → e_M → (Int → Prop) → Prop} {c_X0_endRightsOf : Int → Int → e_M → (e_M → Prop) → Prop} {k130 : Int → Int → e_M → Prop} {k124 : Int → Int → Int → e_M → Prop} {x1 : Int} {x2 : Int} {x3 : Int} {M : e_M} (C : f_Hy sh t yX0_closeFirm rm cs 6 (lX0_closeFirm c_X10_lot c_X4_placeOf c_X10_at c_X9_isThere c_X0_endRightsOf) R) (h130 : ∀ (x1 : Int) (x2 : Int) (M : e_M), k130 x1 x2 M → f_E sh t YX0_closeFirm rm cs (f_Q sh t R) 130 [.inr (.inr (.inl (0, 7, 4423))), .inl x1, .inl x2, .inr (.inr (.inr ())), .inr (.inr (.inr ()))] [] M) (h124 : ∀ (x1 : Int) (x2 : Int) (x3 : Int) (M : e_M), k124 x1 x2 x3 M → f_E sh t YX0_closeFirm rm cs (f_Q sh t R) 124 [.inr (.inr (.inl (0, 7, 4423))), .inl x1, .inl x2, .inl x3, .inr (.inr (.inr ()))] [] M) (h : VX0_closeFirm_69 c_X10_lot c_X4_placeOf c_X10_at c_X9_isThere c_X0_endRightsOf k130 k124 (fun r M => R (some (.inl r)) M) x1 x2 x3 M) : f_E sh t YX0_closeFirm rm cs (f_Q sh t R) 69 [.inr (.inr (.inl (0, 7, 4423))), .inl x1, .inl x2, .inl x3, .inr (.inr (.inr ()))] [] M :=
  f_go (KC := f_kc [(130, f_pl [(4433, 0, 7), (1, 0, 0), (1, 0, 0), (0, 0, 0), (0, 0, 0)] [] (fun ls st M => k130 (f_vi (f_nth ls 1)) (f_vi (f_nth ls 2)) M)), (124, f_pl [(4433, 0, 7), (1, 0, 0), (1, 0, 0), (1, 0, 0), (0, 0, 0)] [] (fun ls st M => k124 (f_vi (f_nth ls 1)) (f_vi (f_nth ls 2)) (f_vi (f_nth ls 3)) M))]) C qX0_closeFirmf (f_kc_cons (f_pl_ok rfl (fun ls st M h => h130 _ _ M h)) (f_kc_cons (f_pl_ok rfl (fun ls st M h => h124 _ _ _ M h)) f_kc_nil)) 91 42 h
set_option maxRecDepth 20000 in
theorem BX0_closeFirm_124 {sh : Nat → Nat × Nat} {t : Nat} {rm : Nat × Nat × Nat} {cs : Nat × Nat} {R : f_Rt} {c_X10_lot : Nat → Int → e_M → (Nat → Prop) → Prop} {c_X4_placeOf : Nat → Int → e_M → (Int → Prop) → Prop} {c_X10_at : Nat → Int → Int → e_M → (Nat → Prop) → Prop} {c_X9_isThere : Nat → Int → e_M → (Int → Prop) → Prop} {c_X0_endRightsOf : Int → Int → e_M → (e_M → Prop) → Prop} {k69 : Int → Int → Int → e_M → Prop} {x1 : Int} {x2 : Int} {x3 : Int} {M : e_M} (C : f_Hy sh t yX0_closeFirm rm cs 6 (lX0_closeFirm c_X10_lot c_X4_placeOf c_X10_at c_X9_isThere c_X0_endRightsOf) R) (h69 : ∀ (x1 : Int) (x2 : Int) (x3 : Int) (M : e_M), k69 x1 x2 x3 M → f_E sh t YX0_closeFirm rm cs (f_Q sh t R) 69 [.inr (.inr (.inl (0, 7, 4423))), .inl x1, .inl x2, .inl x3, .inr (.inr (.inr ()))] [] M) (h : VX0_closeFirm_124 c_X10_lot c_X4_placeOf c_X10_at c_X9_isThere c_X0_endRightsOf k69 (fun r M => R (some (.inl r)) M) x1 x2 x3 M) : f_E sh t YX0_closeFirm rm cs (f_Q sh t R) 124 [.inr (.inr (.inl (0, 7, 4423))), .inl x1, .inl x2, .inl x3, .inr (.inr (.inr ()))] [] M :=
  f_go (KC := f_kc [(69, f_pl [(4433, 0, 7), (1, 0, 0), (1, 0, 0), (1, 0, 0), (0, 0, 0)] [] (fun ls st M => k69 (f_vi (f_nth ls 1)) (f_vi (f_nth ls 2)) (f_vi (f_nth ls 3)) M))]) C qX0_closeFirmf (f_kc_cons (f_pl_ok rfl (fun ls st M h => h69 _ _ _ M h)) f_kc_nil) 91 71 h
set_option maxRecDepth 20000 in
theorem BX0_closeFirm_130 {sh : Nat → Nat × Nat} {t : Nat} {rm : Nat × Nat × Nat} {cs : Nat × Nat} {R : f_Rt} {c_X10_lot : Nat → Int → e_M → (Nat → Prop) → Prop} {c_X4_placeOf : Nat → Int → e_M → (Int → Prop) → Prop} {c_X10_at : Nat → Int → Int → e_M → (Nat → Prop) → Prop} {c_X9_isThere : Nat → Int → e_M → (Int → Prop) → Prop} {c_X0_endRightsOf : Int → Int → e_M → (e_M → Prop) → Prop} {k61 : Int → Int → e_M → Prop} {x1 : Int} {x2 : Int} {M : e_M} (C : f_Hy sh t yX0_closeFirm rm cs 6 (lX0_closeFirm c_X10_lot c_X4_placeOf c_X10_at c_X9_isThere c_X0_endRightsOf) R) (h61 : ∀ (x1 : Int) (x2 : Int) (M : e_M), k61 x1 x2 M → f_E sh t YX0_closeFirm rm cs (f_Q sh t R) 61 [.inr (.inr (.inl (0, 7, 4423))), .inl x1, .inl x2, .inr (.inr (.inr ())), .inr (.inr (.inr ()))] [] M) (h : VX0_closeFirm_130 c_X10_lot c_X4_placeOf c_X10_at c_X9_isThere c_X0_endRightsOf k61 (fun r M => R (some (.inl r)) M) x1 x2 M) : f_E sh t YX0_closeFirm rm cs (f_Q sh t R) 130 [.inr (.inr (.inl (0, 7, 4423))), .inl x1, .inl x2, .inr (.inr (.inr ())), .inr (.inr (.inr ()))] [] M :=
  f_go (KC := f_kc [(61, f_pl [(4433, 0, 7), (1, 0, 0), (1, 0, 0), (0, 0, 0), (0, 0, 0)] [] (fun ls st M => k61 (f_vi (f_nth ls 1)) (f_vi (f_nth ls 2)) M))]) C qX0_closeFirmf (f_kc_cons (f_pl_ok rfl (fun ls st M h => h61 _ _ M h)) f_kc_nil) 91 74 h
set_option maxRecDepth 20000 in
theorem BX0_closeFirm {sh : Nat → Nat × Nat} {t : Nat} {rm : Nat × Nat × Nat} {cs : Nat × Nat} {R : f_Rt} {c_X10_lot : Nat → Int → e_M → (Nat → Prop) → Prop} {c_X4_placeOf : Nat → Int → e_M → (Int → Prop) → Prop} {c_X10_at : Nat → Int → Int → e_M → (Nat → Prop) → Prop} {c_X9_isThere : Nat → Int → e_M → (Int → Prop) → Prop} {c_X0_endRightsOf : Int → Int → e_M → (e_M → Prop) → Prop} {k9 : Int → Int → e_M → Prop} {M : e_M} (C : f_Hy sh t yX0_closeFirm rm cs 6 (lX0_closeFirm c_X10_lot c_X4_placeOf c_X10_at c_X9_isThere c_X0_endRightsOf) R) (h9 : ∀ (x1 : Int) (x2 : Int) (M : e_M), k9 x1 x2 M → f_E sh t YX0_closeFirm rm cs (f_Q sh t R) 9 [.inr (.inr (.inl (0, 7, 4423))), .inl x1, .inl x2, .inr (.inr (.inr ())), .inr (.inr (.inr ()))] [] M) (h : VX0_closeFirm c_X10_lot c_X4_placeOf c_X10_at c_X9_isThere c_X0_endRightsOf k9 (fun r M => R (some (.inl r)) M) M) : f_E sh t YX0_closeFirm rm cs (f_Q sh t R) 0 [.inr (.inr (.inl (0, 7, 4423))), .inr (.inr (.inr ())), .inr (.inr (.inr ())), .inr (.inr (.inr ())), .inr (.inr (.inr ()))] [] M :=
  f_go (KC := f_kc [(9, f_pl [(4433, 0, 7), (1, 0, 0), (1, 0, 0), (0, 0, 0), (0, 0, 0)] [] (fun ls st M => k9 (f_vi (f_nth ls 1)) (f_vi (f_nth ls 2)) M))]) C qX0_closeFirmf (f_kc_cons (f_pl_ok rfl (fun ls st M h => h9 _ _ M h)) f_kc_nil) 91 0 h
def WX0_closeFirm_130 (H61 : Int → Int → e_M → Prop) (Q : Int → e_M → Prop) (x1 : Int) (x2 : Int) (M : e_M) : Prop :=
  VX0_closeFirm_130 WX10_lot WX4_placeOf WX10_at WX9_isThere WX0_endRightsOf H61 Q x1 x2 M
def WX0_closeFirm_124 (H61 : Int → Int → e_M → Prop) (H69 : Int → Int → Int → e_M → Prop) (Q : Int → e_M → Prop) (x1 : Int) (x2 : Int) (x3 : Int) (M : e_M) : Prop :=
  VX0_closeFirm_124 WX10_lot WX4_placeOf WX10_at WX9_isThere WX0_endRightsOf H69 Q x1 x2 x3 M
def WX0_closeFirm_69 (H61 : Int → Int → e_M → Prop) (Q : Int → e_M → Prop) : Nat → Int → Int → Int → e_M → Prop
  | 0, _, _, _, _ => False
  | n + 1, x1, x2, x3, M =>
    VX0_closeFirm_69 WX10_lot WX4_placeOf WX10_at WX9_isThere WX0_endRightsOf (WX0_closeFirm_130 H61 Q) (WX0_closeFirm_124 H61 (WX0_closeFirm_69 H61 Q n) Q) Q x1 x2 x3 M
def WX0_closeFirm_61 (Q : Int → e_M → Prop) : Nat → Int → Int → e_M → Prop
  | 0, _, _, _ => False
  | n + 1, x1, x2, M =>
    VX0_closeFirm_61 WX10_lot WX4_placeOf WX10_at WX9_isThere WX0_endRightsOf (fun x1 x2 x3 M => ∃ j, WX0_closeFirm_69 (WX0_closeFirm_61 Q n) Q j x1 x2 x3 M) Q x1 x2 M
def WX0_closeFirm_53 (H9 : Int → Int → e_M → Prop) (Q : Int → e_M → Prop) (x1 : Int) (x2 : Int) (M : e_M) : Prop :=
  VX0_closeFirm_53 WX10_lot WX4_placeOf WX10_at WX9_isThere WX0_endRightsOf H9 Q x1 x2 M
def WX0_closeFirm_9 (Q : Int → e_M → Prop) : Nat → Int → Int → e_M → Prop
  | 0, _, _, _ => False
  | n + 1, x1, x2, M =>
    VX0_closeFirm_9 WX10_lot WX4_placeOf WX10_at WX9_isThere WX0_endRightsOf (fun x1 x2 M => ∃ j, WX0_closeFirm_61 Q j x1 x2 M) (WX0_closeFirm_53 (WX0_closeFirm_9 Q n) Q) Q x1 x2 M
def WX0_closeFirm (M : e_M) (Q : Int → e_M → Prop) : Prop :=
  VX0_closeFirm WX10_lot WX4_placeOf WX10_at WX9_isThere WX0_endRightsOf (fun x1 x2 M => ∃ j, WX0_closeFirm_9 Q j x1 x2 M) Q M
theorem PX0_closeFirm_130 {sh : Nat → Nat × Nat} {t : Nat} {rm : Nat × Nat × Nat} {cs : Nat × Nat} {R : f_Rt} {H61 : Int → Int → e_M → Prop} {x1 : Int} {x2 : Int} {M : e_M} (C : f_Hy sh t yX0_closeFirm rm cs 6 (lX0_closeFirm WX10_lot WX4_placeOf WX10_at WX9_isThere WX0_endRightsOf) R) (g61 : ∀ (x1 : Int) (x2 : Int) (M : e_M), H61 x1 x2 M → f_E sh t YX0_closeFirm rm cs (f_Q sh t R) 61 [.inr (.inr (.inl (0, 7, 4423))), .inl x1, .inl x2, .inr (.inr (.inr ())), .inr (.inr (.inr ()))] [] M) (h : WX0_closeFirm_130 H61 (fun r M => R (some (.inl r)) M) x1 x2 M) : f_E sh t YX0_closeFirm rm cs (f_Q sh t R) 130 [.inr (.inr (.inl (0, 7, 4423))), .inl x1, .inl x2, .inr (.inr (.inr ())), .inr (.inr (.inr ()))] [] M :=
  BX0_closeFirm_130 C g61 h
theorem PX0_closeFirm_124 {sh : Nat → Nat × Nat} {t : Nat} {rm : Nat × Nat × Nat} {cs : Nat × Nat} {R : f_Rt} {H61 : Int → Int → e_M → Prop} {H69 : Int → Int → Int → e_M → Prop} {x1 : Int} {x2 : Int} {x3 : Int} {M : e_M} (C : f_Hy sh t yX0_closeFirm rm cs 6 (lX0_closeFirm WX10_lot WX4_placeOf WX10_at WX9_isThere WX0_endRightsOf) R) (g61 : ∀ (x1 : Int) (x2 : Int) (M : e_M), H61 x1 x2 M → f_E sh t YX0_closeFirm rm cs (f_Q sh t R) 61 [.inr (.inr (.inl (0, 7, 4423))), .inl x1, .inl x2, .inr (.inr (.inr ())), .inr (.inr (.inr ()))] [] M) (g69 : ∀ (x1 : Int) (x2 : Int) (x3 : Int) (M : e_M), H69 x1 x2 x3 M → f_E sh t YX0_closeFirm rm cs (f_Q sh t R) 69 [.inr (.inr (.inl (0, 7, 4423))), .inl x1, .inl x2, .inl x3, .inr (.inr (.inr ()))] [] M) (h : WX0_closeFirm_124 H61 H69 (fun r M => R (some (.inl r)) M) x1 x2 x3 M) : f_E sh t YX0_closeFirm rm cs (f_Q sh t R) 124 [.inr (.inr (.inl (0, 7, 4423))), .inl x1, .inl x2, .inl x3, .inr (.inr (.inr ()))] [] M :=
  BX0_closeFirm_124 C g69 h
theorem PX0_closeFirm_69 {sh : Nat → Nat × Nat} {t : Nat} {rm : Nat × Nat × Nat} {cs : Nat × Nat} {R : f_Rt} {H61 : Int → Int → e_M → Prop} (C : f_Hy sh t yX0_closeFirm rm cs 6 (lX0_closeFirm WX10_lot WX4_placeOf WX10_at WX9_isThere WX0_endRightsOf) R) (g61 : ∀ (x1 : Int) (x2 : Int) (M : e_M), H61 x1 x2 M → f_E sh t YX0_closeFirm rm cs (f_Q sh t R) 61 [.inr (.inr (.inl (0, 7, 4423))), .inl x1, .inl x2, .inr (.inr (.inr ())), .inr (.inr (.inr ()))] [] M) : ∀ (n : Nat) (x1 : Int) (x2 : Int) (x3 : Int) (M : e_M), WX0_closeFirm_69 H61 (fun r M => R (some (.inl r)) M) n x1 x2 x3 M → f_E sh t YX0_closeFirm rm cs (f_Q sh t R) 69 [.inr (.inr (.inl (0, 7, 4423))), .inl x1, .inl x2, .inl x3, .inr (.inr (.inr ()))] [] M := by
  intro n
  induction n with
  | zero => intro x1 x2 x3 M h; exact h.elim
  | succ n ih => intro x1 x2 x3 M h; exact BX0_closeFirm_69 C (fun x1 x2 M h => PX0_closeFirm_130 C g61 h) (fun x1 x2 x3 M h => PX0_closeFirm_124 C g61 ih h) h
theorem PX0_closeFirm_61 {sh : Nat → Nat × Nat} {t : Nat} {rm : Nat × Nat × Nat} {cs : Nat × Nat} {R : f_Rt} (C : f_Hy sh t yX0_closeFirm rm cs 6 (lX0_closeFirm WX10_lot WX4_placeOf WX10_at WX9_isThere WX0_endRightsOf) R) : ∀ (n : Nat) (x1 : Int) (x2 : Int) (M : e_M), WX0_closeFirm_61 (fun r M => R (some (.inl r)) M) n x1 x2 M → f_E sh t YX0_closeFirm rm cs (f_Q sh t R) 61 [.inr (.inr (.inl (0, 7, 4423))), .inl x1, .inl x2, .inr (.inr (.inr ())), .inr (.inr (.inr ()))] [] M := by
  intro n
  induction n with
  | zero => intro x1 x2 M h; exact h.elim
  | succ n ih => intro x1 x2 M h; exact BX0_closeFirm_61 C (fun x1 x2 x3 M ⟨j, h⟩ => PX0_closeFirm_69 C ih j _ _ _ _ h) h
theorem PX0_closeFirm_53 {sh : Nat → Nat × Nat} {t : Nat} {rm : Nat × Nat × Nat} {cs : Nat × Nat} {R : f_Rt} {H9 : Int → Int → e_M → Prop} {x1 : Int} {x2 : Int} {M : e_M} (C : f_Hy sh t yX0_closeFirm rm cs 6 (lX0_closeFirm WX10_lot WX4_placeOf WX10_at WX9_isThere WX0_endRightsOf) R) (g9 : ∀ (x1 : Int) (x2 : Int) (M : e_M), H9 x1 x2 M → f_E sh t YX0_closeFirm rm cs (f_Q sh t R) 9 [.inr (.inr (.inl (0, 7, 4423))), .inl x1, .inl x2, .inr (.inr (.inr ())), .inr (.inr (.inr ()))] [] M) (h : WX0_closeFirm_53 H9 (fun r M => R (some (.inl r)) M) x1 x2 M) : f_E sh t YX0_closeFirm rm cs (f_Q sh t R) 53 [.inr (.inr (.inl (0, 7, 4423))), .inl x1, .inl x2, .inr (.inr (.inr ())), .inr (.inr (.inr ()))] [] M :=
  BX0_closeFirm_53 C g9 h
theorem PX0_closeFirm_9 {sh : Nat → Nat × Nat} {t : Nat} {rm : Nat × Nat × Nat} {cs : Nat × Nat} {R : f_Rt} (C : f_Hy sh t yX0_closeFirm rm cs 6 (lX0_closeFirm WX10_lot WX4_placeOf WX10_at WX9_isThere WX0_endRightsOf) R) : ∀ (n : Nat) (x1 : Int) (x2 : Int) (M : e_M), WX0_closeFirm_9 (fun r M => R (some (.inl r)) M) n x1 x2 M → f_E sh t YX0_closeFirm rm cs (f_Q sh t R) 9 [.inr (.inr (.inl (0, 7, 4423))), .inl x1, .inl x2, .inr (.inr (.inr ())), .inr (.inr (.inr ()))] [] M := by
  intro n
  induction n with
  | zero => intro x1 x2 M h; exact h.elim
  | succ n ih => intro x1 x2 M h; exact BX0_closeFirm_9 C (fun x1 x2 M ⟨j, h⟩ => PX0_closeFirm_61 C j _ _ _ h) (fun x1 x2 M h => PX0_closeFirm_53 C ih h) h
theorem PX0_closeFirm {sh : Nat → Nat × Nat} {t : Nat} {rm : Nat × Nat × Nat} {cs : Nat × Nat} {R : f_Rt} {M : e_M} (C : f_Hy sh t yX0_closeFirm rm cs 6 (lX0_closeFirm WX10_lot WX4_placeOf WX10_at WX9_isThere WX0_endRightsOf) R) (h : WX0_closeFirm M (fun r M => R (some (.inl r)) M)) : f_E sh t YX0_closeFirm rm cs (f_Q sh t R) 0 [.inr (.inr (.inl (0, 7, 4423))), .inr (.inr (.inr ())), .inr (.inr (.inr ())), .inr (.inr (.inr ())), .inr (.inr (.inr ()))] [] M :=
  BX0_closeFirm C (fun x1 x2 M ⟨j, h⟩ => PX0_closeFirm_9 C j _ _ _ h) h
def wX0_closeFirm : f_Wt := f_wm [(4433, 0, 7)] (fun ar M R => WX0_closeFirm M (fun r M => R (some (.inl r)) M))
theorem TX0_closeFirm {sh : Nat → Nat × Nat} {t : Nat} : f_Mt sh t YX0_closeFirm 6 (wX0_closeFirm) :=
  f_Mt_of (k := 4) (Nat.le_of_ble_eq_true rfl) rfl rfl (fun ar M R rm cs h1 h2 h3 hX h => PX0_closeFirm ⟨Nat.le_of_ble_eq_true rfl, h1, h2, h3, ⟨(f_Mt.up (Nat.le_of_ble_eq_true rfl) TX10_lot), (f_Mt.up (Nat.le_of_ble_eq_true rfl) TX4_placeOf), (f_Mt.up (Nat.le_of_ble_eq_true rfl) TX10_at), (f_Mt.up (Nat.le_of_ble_eq_true rfl) TX9_isThere), (f_Mt.up (Nat.le_of_ble_eq_true rfl) TX0_endRightsOf), trivial⟩, hX⟩ h)
def VX10_isAble_28 (c_X10_at : Nat → Int → Int → e_M → (Nat → Prop) → Prop) (c_X10_isOfAge : Nat → Int → e_M → (Int → Prop) → Prop) (c_X9_isThere : Nat → Int → e_M → (Int → Prop) → Prop) (Q : Int → Prop) (a0 : Nat) (a2 : Nat) (M : e_M) : Prop :=
  (((M a2 5) < 0 → (Q 0)) ∧ (0 ≤ (M a2 5) → (c_X10_at a0 1 (M a2 5) M (fun r1 => (c_X9_isThere r1 (M a0 11) M (fun r2 => ((r2 = 0 → (Q 0)) ∧ (¬ r2 = 0 → (c_X10_isOfAge a0 (M a2 5) M (fun r3 => ((r3 = 0 → (Q 0)) ∧ (¬ r3 = 0 → (Q 1)))))))))))))
def VX10_isAble (c_X10_at : Nat → Int → Int → e_M → (Nat → Prop) → Prop) (c_X10_isOfAge : Nat → Int → e_M → (Int → Prop) → Prop) (c_X9_isThere : Nat → Int → e_M → (Int → Prop) → Prop) (k28 : Nat → Nat → Prop) (Q : Int → Prop) (a0 : Nat) (x1 : Int) (M : e_M) : Prop :=
  (c_X10_at a0 1 x1 M (fun r1 => ((x1 = 0 → (Q 1)) ∧ (¬ x1 = 0 → ((¬ (M r1 7) = 0 → (k28 a0 r1)) ∧ ((M r1 7) = 0 → (c_X10_isOfAge a0 x1 M (fun r2 => ((r2 = 0 → (k28 a0 r1)) ∧ (¬ r2 = 0 → (Q 1)))))))))))
def yX10_isAble (i : Nat) : e_Y := x_get YX10_isAble [YX10_at, YX10_isOfAge, YX9_isThere] i
def pX10_isAblef : List x_I := [(0, 4, 1, 0, 0, 0, []), (1, 0, 1, 0, 0, 1, []), (2, 2, 1, 1, 0, 0, []), (3, 40, 0, 3, 12, 0, []), (6, 7, 1, 2, 0, 0, []), (7, 2, 1, 1, 0, 0, []), (8, 17, 26, 0, 15, 0, []), (11, 4, 1, 2, 0, 0, []), (12, 25, 9, 7, 0, 0, []), (15, 17, 28, 1, 17, 0, []), (18, 4, 1, 0, 0, 0, []), (19, 2, 1, 1, 0, 0, []), (20, 40, 1, 2, 12, 0, []), (23, 17, 28, 0, 17, 0, []), (26, 0, 1, 0, 0, 1, []), (27, 48, 0, 0, 0, 0, []), (28, 49, 0, 0, 0, 0, []), (28, 4, 1, 2, 0, 0, []), (29, 25, 9, 5, 0, 0, []), (32, 17, 69, 2, 37, 0, []), (35, 4, 1, 0, 0, 0, []), (36, 0, 1, 0, 0, 1, []), (37, 4, 1, 2, 0, 0, []), (38, 25, 9, 5, 0, 0, []), (41, 40, 0, 3, 12, 0, []), (44, 4, 1, 0, 0, 0, []), (45, 25, 10, 11, 0, 0, []), (48, 40, 2, 2, 11, 0, []), (51, 17, 69, 0, 37, 0, []), (54, 4, 1, 0, 0, 0, []), (55, 4, 1, 2, 0, 0, []), (56, 25, 9, 5, 0, 0, []), (59, 40, 1, 2, 12, 0, []), (62, 17, 69, 0, 37, 0, []), (65, 0, 1, 0, 0, 1, []), (66, 19, 70, 0, 38, 0, []), (69, 0, 1, 0, 0, 0, []), (70, 48, 0, 0, 0, 0, [])]
set_option maxRecDepth 20000 in
theorem qX10_isAblef : f_all yX10_isAble YX10_isAble pX10_isAblef :=
  ⟨f_aload_n (n := 0) (e_dx DX10_isAble_0 0 rfl) rfl,
  f_iconst (e_dx DX10_isAble_0 1 rfl) ⟨by decide, by decide⟩,
  f_iload_n (n := 1) (e_dx DX10_isAble_0 2 rfl) rfl,
  x_callV (e_dx DX10_isAble_0 3 rfl) mwX10_at vwX10_at cX10_93 rfl,
  f_astore_n (n := 2) (e_dx DX10_isAble_0 4 rfl) rfl (by decide),
  f_iload_n (n := 1) (e_dx DX10_isAble_0 5 rfl) rfl,
  f_if_eq (e_dx DX10_isAble_0 6 rfl) rfl,
  f_aload_n (n := 2) (e_dx DX10_isAble_0 7 rfl) rfl,
  f_getf (e_dx DX10_isAble_0 8 rfl) fX10_97 rfl (by decide) (by decide) (by decide),
  f_if_ne (e_dx DX10_isAble_0 9 rfl) rfl,
  f_aload_n (n := 0) (e_dx DX10_isAble_0 10 rfl) rfl,
  f_iload_n (n := 1) (e_dx DX10_isAble_0 11 rfl) rfl,
  x_callV (e_dx DX10_isAble_0 12 rfl) mwX10_isOfAge vwX10_isOfAge cX10_164 rfl,
  f_if_eq (e_dx DX10_isAble_0 13 rfl) rfl,
  f_iconst (e_dx DX10_isAble_0 14 rfl) ⟨by decide, by decide⟩,
  ⟨(e_dx DX10_isAble_0 15 rfl), rfl⟩,
  trivial,
  f_aload_n (n := 2) (e_dx DX10_isAble_0 16 rfl) rfl,
  f_getf (e_dx DX10_isAble_0 17 rfl) fX10_167 rfl (by decide) (by decide) (by decide),
  f_if_lt (e_dx DX10_isAble_0 18 rfl) rfl,
  f_aload_n (n := 0) (e_dx DX10_isAble_0 19 rfl) rfl,
  f_iconst (e_dx DX10_isAble_0 20 rfl) ⟨by decide, by decide⟩,
  f_aload_n (n := 2) (e_dx DX10_isAble_0 21 rfl) rfl,
  f_getf (e_dx DX10_isAble_0 22 rfl) fX10_167 rfl (by decide) (by decide) (by decide),
  x_callV (e_dx DX10_isAble_0 23 rfl) mwX10_at vwX10_at cX10_93 rfl,
  f_aload_n (n := 0) (e_dx DX10_isAble_0 24 rfl) rfl,
  f_getf (e_dx DX10_isAble_0 25 rfl) fX10_65 rfl (by decide) (by decide) (by decide),
  x_callV (e_dx DX10_isAble_0 26 rfl) mwX9_isThere vwX9_isThere cX10_150 rfl,
  f_if_eq (e_dx DX10_isAble_0 27 rfl) rfl,
  f_aload_n (n := 0) (e_dx DX10_isAble_0 28 rfl) rfl,
  f_aload_n (n := 2) (e_dx DX10_isAble_0 29 rfl) rfl,
  f_getf (e_dx DX10_isAble_0 30 rfl) fX10_167 rfl (by decide) (by decide) (by decide),
  x_callV (e_dx DX10_isAble_0 31 rfl) mwX10_isOfAge vwX10_isOfAge cX10_164 rfl,
  f_if_eq (e_dx DX10_isAble_0 32 rfl) rfl,
  f_iconst (e_dx DX10_isAble_0 33 rfl) ⟨by decide, by decide⟩,
  f_g19 (e_dx DX10_isAble_0 34 rfl) rfl,
  f_iconst (e_dx DX10_isAble_0 35 rfl) ⟨by decide, by decide⟩,
  ⟨(e_dx DX10_isAble_0 36 rfl), rfl⟩, trivial⟩
def lX10_isAble (c_X10_at : Nat → Int → Int → e_M → (Nat → Prop) → Prop) (c_X10_isOfAge : Nat → Int → e_M → (Int → Prop) → Prop) (c_X9_isThere : Nat → Int → e_M → (Int → Prop) → Prop) : List (Nat × f_Wt) := [(0, f_wm [(3, 10, 15), (1, 0, 0), (1, 0, 0)] (fun ar M R => c_X10_at (f_va (f_nth ar 0)) (f_vi (f_nth ar 1)) (f_vi (f_nth ar 2)) M (fun r => R (some (.inr (.inr (.inl (9, 14, r))))) M))), (1, f_wm [(3, 10, 15), (1, 0, 0)] (fun ar M R => c_X10_isOfAge (f_va (f_nth ar 0)) (f_vi (f_nth ar 1)) M (fun r => R (some (.inl r)) M))), (2, f_wm [(3, 9, 14), (1, 0, 0)] (fun ar M R => c_X9_isThere (f_va (f_nth ar 0)) (f_vi (f_nth ar 1)) M (fun r => R (some (.inl r)) M)))]
set_option maxRecDepth 20000 in
theorem BX10_isAble_28 {sh : Nat → Nat × Nat} {t : Nat} {rm : Nat × Nat × Nat} {cs : Nat × Nat} {R : f_Rt} {c_X10_at : Nat → Int → Int → e_M → (Nat → Prop) → Prop} {c_X10_isOfAge : Nat → Int → e_M → (Int → Prop) → Prop} {c_X9_isThere : Nat → Int → e_M → (Int → Prop) → Prop} {a0 : Nat} {a2 : Nat} {M : e_M} (C : f_Hy sh t yX10_isAble rm cs 6 (lX10_isAble c_X10_at c_X10_isOfAge c_X9_isThere) R) (h : VX10_isAble_28 c_X10_at c_X10_isOfAge c_X9_isThere (fun r => R (some (.inl r)) M) a0 a2 M) : f_E sh t YX10_isAble rm cs (f_Q sh t R) 28 [.inr (.inr (.inl (10, 15, a0))), .inr (.inr (.inr ())), .inr (.inr (.inl (9, 14, a2)))] [] M :=
  f_go (KC := f_kc []) C qX10_isAblef f_kc_nil 40 17 h
set_option maxRecDepth 20000 in
theorem BX10_isAble {sh : Nat → Nat × Nat} {t : Nat} {rm : Nat × Nat × Nat} {cs : Nat × Nat} {R : f_Rt} {c_X10_at : Nat → Int → Int → e_M → (Nat → Prop) → Prop} {c_X10_isOfAge : Nat → Int → e_M → (Int → Prop) → Prop} {c_X9_isThere : Nat → Int → e_M → (Int → Prop) → Prop} {k28 : Nat → Nat → Prop} {a0 : Nat} {x1 : Int} {M : e_M} (C : f_Hy sh t yX10_isAble rm cs 6 (lX10_isAble c_X10_at c_X10_isOfAge c_X9_isThere) R) (h28 : ∀ (a0 : Nat) (a2 : Nat), k28 a0 a2 → f_E sh t YX10_isAble rm cs (f_Q sh t R) 28 [.inr (.inr (.inl (10, 15, a0))), .inr (.inr (.inr ())), .inr (.inr (.inl (9, 14, a2)))] [] M) (h : VX10_isAble c_X10_at c_X10_isOfAge c_X9_isThere k28 (fun r => R (some (.inl r)) M) a0 x1 M) : f_E sh t YX10_isAble rm cs (f_Q sh t R) 0 [.inr (.inr (.inl (10, 15, a0))), .inl x1, .inr (.inr (.inr ()))] [] M := by
  rw [f_kk2 M k28] at h
  exact f_go (KC := f_kc [(28, f_pl [(3, 10, 15), (0, 0, 0), (3, 9, 14)] [] (fun ls st M2 => M2 = M ∧ (k28 (f_va (f_nth ls 0)) (f_va (f_nth ls 2)))))]) C qX10_isAblef (f_kc_cons (f_pl_ok rfl (fun ls st M2 ⟨e, hh⟩ => by subst e; exact h28 _ _ hh)) f_kc_nil) 40 0 h
def WX10_isAble_28 (M : e_M) (Q : Int → Prop) (a0 : Nat) (a2 : Nat) : Prop :=
  VX10_isAble_28 WX10_at WX10_isOfAge WX9_isThere Q a0 a2 M
def WX10_isAble (a0 : Nat) (x1 : Int) (M : e_M) (Q : Int → Prop) : Prop :=
  VX10_isAble WX10_at WX10_isOfAge WX9_isThere (WX10_isAble_28 M Q) Q a0 x1 M
theorem PX10_isAble_28 {sh : Nat → Nat × Nat} {t : Nat} {rm : Nat × Nat × Nat} {cs : Nat × Nat} {R : f_Rt} {a0 : Nat} {a2 : Nat} {M : e_M} (C : f_Hy sh t yX10_isAble rm cs 6 (lX10_isAble WX10_at WX10_isOfAge WX9_isThere) R) (h : WX10_isAble_28 M (fun r => R (some (.inl r)) M) a0 a2) : f_E sh t YX10_isAble rm cs (f_Q sh t R) 28 [.inr (.inr (.inl (10, 15, a0))), .inr (.inr (.inr ())), .inr (.inr (.inl (9, 14, a2)))] [] M :=
  BX10_isAble_28 C h
theorem PX10_isAble {sh : Nat → Nat × Nat} {t : Nat} {rm : Nat × Nat × Nat} {cs : Nat × Nat} {R : f_Rt} {a0 : Nat} {x1 : Int} {M : e_M} (C : f_Hy sh t yX10_isAble rm cs 6 (lX10_isAble WX10_at WX10_isOfAge WX9_isThere) R) (h : WX10_isAble a0 x1 M (fun r => R (some (.inl r)) M)) : f_E sh t YX10_isAble rm cs (f_Q sh t R) 0 [.inr (.inr (.inl (10, 15, a0))), .inl x1, .inr (.inr (.inr ()))] [] M :=
  BX10_isAble C (fun a0 a2 h => PX10_isAble_28 C h) h
def wX10_isAble : f_Wt := f_wm [(3, 10, 15), (1, 0, 0)] (fun ar M R => WX10_isAble (f_va (f_nth ar 0)) (f_vi (f_nth ar 1)) M (fun r => R (some (.inl r)) M))
theorem TX10_isAble {sh : Nat → Nat × Nat} {t : Nat} : f_Mt sh t YX10_isAble 6 (wX10_isAble) :=
  f_Mt_of (k := 1) (Nat.le_of_ble_eq_true rfl) rfl rfl (fun ar M R rm cs h1 h2 h3 hX h => PX10_isAble ⟨Nat.le_of_ble_eq_true rfl, h1, h2, h3, ⟨(f_Mt.up (Nat.le_of_ble_eq_true rfl) TX10_at), (f_Mt.up (Nat.le_of_ble_eq_true rfl) TX10_isOfAge), (f_Mt.up (Nat.le_of_ble_eq_true rfl) TX9_isThere), trivial⟩, hX⟩ h)
def VX8_find_2 (k2 : Nat → Int → Int → Prop) (Q : Int → Prop) (a0 : Nat) (x1 : Int) (x2 : Int) (M : e_M) : Prop :=
  (((M a0 1) ≤ x2 → (Q (-1))) ∧ (x2 < (M a0 1) → ((0 ≤ x2 ∧ x2 < 8) ∧ ((¬ (M (a0 + 1) (x2.toNat)) = x1 → (k2 a0 x1 (e_w32 (x2 + 1)))) ∧ ((M (a0 + 1) (x2.toNat)) = x1 → (Q x2))))))
def VX8_find (k2 : Nat → Int → Int → Prop) (Q : Int → Prop) (a0 : Nat) (x1 : Int) (M : e_M) : Prop :=
  (k2 a0 x1 0)
def yX8_find (i : Nat) : e_Y := x_get YX8_find [] i
def pX8_findf : List x_I := [(0, 0, 1, 0, 0, 0, []), (1, 5, 1, 2, 0, 0, []), (2, 49, 0, 0, 0, 0, []), (2, 2, 1, 2, 0, 0, []), (3, 4, 1, 0, 0, 0, []), (4, 25, 8, 1, 0, 0, []), (7, 18, 28, 3, 18, 0, []), (10, 4, 1, 0, 0, 0, []), (11, 25, 8, 0, 4, 0, [(0, 20, 8), (0, 1, 1)]), (14, 2, 1, 2, 0, 0, []), (15, 27, 0, 0, 0, 0, []), (16, 2, 1, 1, 0, 0, []), (17, 18, 22, 1, 16, 0, []), (20, 2, 1, 2, 0, 0, []), (21, 41, 0, 0, 0, 0, []), (22, 8, 0, 2, 0, 1, []), (25, 19, 2, 0, 3, 0, []), (28, 0, 1, 0, 0, (-1), []), (29, 41, 0, 0, 0, 0, [])]
set_option maxRecDepth 20000 in
theorem qX8_findf : f_all yX8_find YX8_find pX8_findf :=
  ⟨f_iconst (e_dx DX8_find_0 0 rfl) ⟨by decide, by decide⟩,
  f_istore_n (n := 2) (e_dx DX8_find_0 1 rfl) rfl (by decide),
  trivial,
  f_iload_n (n := 2) (e_dx DX8_find_0 2 rfl) rfl,
  f_aload_n (n := 0) (e_dx DX8_find_0 3 rfl) rfl,
  f_getf (e_dx DX8_find_0 4 rfl) fX8_15 rfl (by decide) (by decide) (by decide),
  f_icmp_ge (e_dx DX8_find_0 5 rfl) rfl,
  f_aload_n (n := 0) (e_dx DX8_find_0 6 rfl) rfl,
  f_getA (e_dx DX8_find_0 7 rfl) fX8_9 rfl (by decide) (Nat.le_of_ble_eq_true rfl) rfl (by decide),
  f_iload_n (n := 2) (e_dx DX8_find_0 8 rfl) rfl,
  f_iaload (e_dx DX8_find_0 9 rfl),
  f_iload_n (n := 1) (e_dx DX8_find_0 10 rfl) rfl,
  f_icmp_ne (e_dx DX8_find_0 11 rfl) rfl,
  f_iload_n (n := 2) (e_dx DX8_find_0 12 rfl) rfl,
  ⟨(e_dx DX8_find_0 13 rfl), rfl⟩,
  f_g8 (e_dx DX8_find_0 14 rfl) ⟨by decide, by decide⟩,
  f_g19 (e_dx DX8_find_0 15 rfl) rfl,
  f_iconst (e_dx DX8_find_0 16 rfl) ⟨by decide, by decide⟩,
  ⟨(e_dx DX8_find_0 17 rfl), rfl⟩, trivial⟩
def lX8_find : List (Nat × f_Wt) := []
set_option maxRecDepth 20000 in
theorem BX8_find_2 {sh : Nat → Nat × Nat} {t : Nat} {rm : Nat × Nat × Nat} {cs : Nat × Nat} {R : f_Rt} {k2 : Nat → Int → Int → Prop} {a0 : Nat} {x1 : Int} {x2 : Int} {M : e_M} (C : f_Hy sh t yX8_find rm cs 4 (lX8_find) R) (h2 : ∀ (a0 : Nat) (x1 : Int) (x2 : Int), k2 a0 x1 x2 → f_E sh t YX8_find rm cs (f_Q sh t R) 2 [.inr (.inr (.inl (8, 2, a0))), .inl x1, .inl x2] [] M) (h : VX8_find_2 k2 (fun r => R (some (.inl r)) M) a0 x1 x2 M) : f_E sh t YX8_find rm cs (f_Q sh t R) 2 [.inr (.inr (.inl (8, 2, a0))), .inl x1, .inl x2] [] M := by
  rw [f_kk3 M k2] at h
  exact f_go (KC := f_kc [(2, f_pl [(3, 8, 2), (1, 0, 0), (1, 0, 0)] [] (fun ls st M2 => M2 = M ∧ (k2 (f_va (f_nth ls 0)) (f_vi (f_nth ls 1)) (f_vi (f_nth ls 2)))))]) C qX8_findf (f_kc_cons (f_pl_ok rfl (fun ls st M2 ⟨e, hh⟩ => by subst e; exact h2 _ _ _ hh)) f_kc_nil) 21 3 h
set_option maxRecDepth 20000 in
theorem BX8_find {sh : Nat → Nat × Nat} {t : Nat} {rm : Nat × Nat × Nat} {cs : Nat × Nat} {R : f_Rt} {k2 : Nat → Int → Int → Prop} {a0 : Nat} {x1 : Int} {M : e_M} (C : f_Hy sh t yX8_find rm cs 4 (lX8_find) R) (h2 : ∀ (a0 : Nat) (x1 : Int) (x2 : Int), k2 a0 x1 x2 → f_E sh t YX8_find rm cs (f_Q sh t R) 2 [.inr (.inr (.inl (8, 2, a0))), .inl x1, .inl x2] [] M) (h : VX8_find k2 (fun r => R (some (.inl r)) M) a0 x1 M) : f_E sh t YX8_find rm cs (f_Q sh t R) 0 [.inr (.inr (.inl (8, 2, a0))), .inl x1, .inr (.inr (.inr ()))] [] M := by
  rw [f_kk3 M k2] at h
  exact f_go (KC := f_kc [(2, f_pl [(3, 8, 2), (1, 0, 0), (1, 0, 0)] [] (fun ls st M2 => M2 = M ∧ (k2 (f_va (f_nth ls 0)) (f_vi (f_nth ls 1)) (f_vi (f_nth ls 2)))))]) C qX8_findf (f_kc_cons (f_pl_ok rfl (fun ls st M2 ⟨e, hh⟩ => by subst e; exact h2 _ _ _ hh)) f_kc_nil) 21 0 h
def WX8_find_2 (M : e_M) (Q : Int → Prop) : Nat → Nat → Int → Int → Prop
  | 0, _, _, _ => False
  | n + 1, a0, x1, x2 =>
    VX8_find_2 (WX8_find_2 M Q n) Q a0 x1 x2 M
def WX8_find (a0 : Nat) (x1 : Int) (M : e_M) (Q : Int → Prop) : Prop :=
  VX8_find (fun a0 x1 x2 => ∃ j, WX8_find_2 M Q j a0 x1 x2) Q a0 x1 M
theorem PX8_find_2 {sh : Nat → Nat × Nat} {t : Nat} {rm : Nat × Nat × Nat} {cs : Nat × Nat} {R : f_Rt} {M : e_M} (C : f_Hy sh t yX8_find rm cs 4 (lX8_find) R) : ∀ (n : Nat) (a0 : Nat) (x1 : Int) (x2 : Int), WX8_find_2 M (fun r => R (some (.inl r)) M) n a0 x1 x2 → f_E sh t YX8_find rm cs (f_Q sh t R) 2 [.inr (.inr (.inl (8, 2, a0))), .inl x1, .inl x2] [] M := by
  intro n
  induction n with
  | zero => intro a0 x1 x2 h; exact h.elim
  | succ n ih => intro a0 x1 x2 h; exact BX8_find_2 C ih h
theorem PX8_find {sh : Nat → Nat × Nat} {t : Nat} {rm : Nat × Nat × Nat} {cs : Nat × Nat} {R : f_Rt} {a0 : Nat} {x1 : Int} {M : e_M} (C : f_Hy sh t yX8_find rm cs 4 (lX8_find) R) (h : WX8_find a0 x1 M (fun r => R (some (.inl r)) M)) : f_E sh t YX8_find rm cs (f_Q sh t R) 0 [.inr (.inr (.inl (8, 2, a0))), .inl x1, .inr (.inr (.inr ()))] [] M :=
  BX8_find C (fun a0 x1 x2 ⟨j, h⟩ => PX8_find_2 C j _ _ _ h) h
def wX8_find : f_Wt := f_wm [(3, 8, 2), (1, 0, 0)] (fun ar M R => WX8_find (f_va (f_nth ar 0)) (f_vi (f_nth ar 1)) M (fun r => R (some (.inl r)) M))
theorem TX8_find {sh : Nat → Nat × Nat} {t : Nat} : f_Mt sh t YX8_find 4 (wX8_find) :=
  f_Mt_of (k := 1) (Nat.le_of_ble_eq_true rfl) rfl rfl (fun ar M R rm cs h1 h2 h3 hX h => PX8_find ⟨Nat.le_of_ble_eq_true rfl, h1, h2, h3, trivial, hX⟩ h)
def VX8_has (c_X8_find : Nat → Int → e_M → (Int → Prop) → Prop) (Q : Int → Prop) (a0 : Nat) (x1 : Int) (M : e_M) : Prop :=
  (c_X8_find a0 x1 M (fun r1 => ((r1 < 0 → (Q 0)) ∧ (0 ≤ r1 → (Q 1)))))
def yX8_has (i : Nat) : e_Y := x_get YX8_has [YX8_find] i
def pX8_hasf : List x_I := [(0, 4, 1, 0, 0, 0, []), (1, 2, 1, 1, 0, 0, []), (2, 40, 0, 2, 10, 0, []), (5, 17, 12, 2, 7, 0, []), (8, 0, 1, 0, 0, 1, []), (9, 19, 13, 0, 8, 0, []), (12, 0, 1, 0, 0, 0, []), (13, 48, 0, 0, 0, 0, [])]
set_option maxRecDepth 20000 in
theorem qX8_hasf : f_all yX8_has YX8_has pX8_hasf :=
  ⟨f_aload_n (n := 0) (e_dx DX8_has_0 0 rfl) rfl,
  f_iload_n (n := 1) (e_dx DX8_has_0 1 rfl) rfl,
  x_callV (e_dx DX8_has_0 2 rfl) mwX8_find vwX8_find cX8_19 rfl,
  f_if_lt (e_dx DX8_has_0 3 rfl) rfl,
  f_iconst (e_dx DX8_has_0 4 rfl) ⟨by decide, by decide⟩,
  f_g19 (e_dx DX8_has_0 5 rfl) rfl,
  f_iconst (e_dx DX8_has_0 6 rfl) ⟨by decide, by decide⟩,
  ⟨(e_dx DX8_has_0 7 rfl), rfl⟩, trivial⟩
def lX8_has (c_X8_find : Nat → Int → e_M → (Int → Prop) → Prop) : List (Nat × f_Wt) := [(0, f_wm [(3, 8, 2), (1, 0, 0)] (fun ar M R => c_X8_find (f_va (f_nth ar 0)) (f_vi (f_nth ar 1)) M (fun r => R (some (.inl r)) M)))]
set_option maxRecDepth 20000 in
theorem BX8_has {sh : Nat → Nat × Nat} {t : Nat} {rm : Nat × Nat × Nat} {cs : Nat × Nat} {R : f_Rt} {c_X8_find : Nat → Int → e_M → (Int → Prop) → Prop} {a0 : Nat} {x1 : Int} {M : e_M} (C : f_Hy sh t yX8_has rm cs 5 (lX8_has c_X8_find) R) (h : VX8_has c_X8_find (fun r => R (some (.inl r)) M) a0 x1 M) : f_E sh t YX8_has rm cs (f_Q sh t R) 0 [.inr (.inr (.inl (8, 2, a0))), .inl x1] [] M :=
  f_go (KC := f_kc []) C qX8_hasf f_kc_nil 10 0 h
def WX8_has (a0 : Nat) (x1 : Int) (M : e_M) (Q : Int → Prop) : Prop :=
  VX8_has WX8_find Q a0 x1 M
theorem PX8_has {sh : Nat → Nat × Nat} {t : Nat} {rm : Nat × Nat × Nat} {cs : Nat × Nat} {R : f_Rt} {a0 : Nat} {x1 : Int} {M : e_M} (C : f_Hy sh t yX8_has rm cs 5 (lX8_has WX8_find) R) (h : WX8_has a0 x1 M (fun r => R (some (.inl r)) M)) : f_E sh t YX8_has rm cs (f_Q sh t R) 0 [.inr (.inr (.inl (8, 2, a0))), .inl x1] [] M :=
  BX8_has C h
def wX8_has : f_Wt := f_wm [(3, 8, 2), (1, 0, 0)] (fun ar M R => WX8_has (f_va (f_nth ar 0)) (f_vi (f_nth ar 1)) M (fun r => R (some (.inl r)) M))
theorem TX8_has {sh : Nat → Nat × Nat} {t : Nat} : f_Mt sh t YX8_has 5 (wX8_has) :=
  f_Mt_of (k := 0) (Nat.le_of_ble_eq_true rfl) rfl rfl (fun ar M R rm cs h1 h2 h3 hX h => PX8_has ⟨Nat.le_of_ble_eq_true rfl, h1, h2, h3, ⟨(f_Mt.up (Nat.le_of_ble_eq_true rfl) TX8_find), trivial⟩, hX⟩ h)
def VX0_isBarred_2 (c_X10_at : Nat → Int → Int → e_M → (Nat → Prop) → Prop) (c_X9_isThere : Nat → Int → e_M → (Int → Prop) → Prop) (c_X8_has : Nat → Int → e_M → (Int → Prop) → Prop) (k64 : Int → Int → Int → Prop) (Q : Int → Prop) (x1 : Int) (x2 : Int) (x3 : Int) (M : e_M) : Prop :=
  ((0 ≤ (5 : Int) ∧ (5 : Int) < 8) ∧ (((M ((M 4423 0).toNat + 24) ((5 : Int).toNat)) ≤ x3 → (Q 0)) ∧ (x3 < (M ((M 4423 0).toNat + 24) ((5 : Int).toNat)) → (c_X10_at ((M 4423 0).toNat) 5 x3 M (fun r1 => (c_X9_isThere r1 (M ((M 4423 0).toNat) 11) M (fun r2 => ((r2 = 0 → (k64 x1 x2 x3)) ∧ (¬ r2 = 0 → (c_X8_has ((M r1 9).toNat) x1 M (fun r3 => ((r3 = 0 → (k64 x1 x2 x3)) ∧ (¬ r3 = 0 → (((M r1 5) = x2 → (k64 x1 x2 x3)) ∧ (¬ (M r1 5) = x2 → (Q 1))))))))))))))))
def VX0_isBarred_64 (c_X10_at : Nat → Int → Int → e_M → (Nat → Prop) → Prop) (c_X9_isThere : Nat → Int → e_M → (Int → Prop) → Prop) (c_X8_has : Nat → Int → e_M → (Int → Prop) → Prop) (k2 : Int → Int → Int → Prop) (Q : Int → Prop) (x1 : Int) (x2 : Int) (x3 : Int) (M : e_M) : Prop :=
  (k2 x1 x2 (e_w32 (x3 + 1)))
def VX0_isBarred (c_X10_at : Nat → Int → Int → e_M → (Nat → Prop) → Prop) (c_X9_isThere : Nat → Int → e_M → (Int → Prop) → Prop) (c_X8_has : Nat → Int → e_M → (Int → Prop) → Prop) (k2 : Int → Int → Int → Prop) (Q : Int → Prop) (x1 : Int) (x2 : Int) (M : e_M) : Prop :=
  (k2 x1 x2 0)
def yX0_isBarred (i : Nat) : e_Y := x_get YX0_isBarred [YX10_at, YX9_isThere, YX8_has] i
def pX0_isBarredf : List x_I := [(0, 0, 1, 0, 0, 0, []), (1, 5, 1, 3, 0, 0, []), (2, 49, 0, 0, 0, 0, []), (2, 2, 1, 3, 0, 0, []), (3, 4, 1, 0, 0, 0, []), (4, 25, 0, 0, 4, 0, [(0, 10, 15), (0, 0, 0)]), (7, 25, 10, 4, 4, 0, [(0, 20, 8), (0, 1, 24)]), (10, 0, 1, 0, 0, 5, []), (11, 27, 0, 0, 0, 0, []), (12, 18, 70, 3, 37, 0, []), (15, 4, 1, 0, 0, 0, []), (16, 25, 0, 0, 4, 0, [(0, 10, 15), (0, 0, 0)]), (19, 0, 1, 0, 0, 5, []), (20, 2, 1, 3, 0, 0, []), (21, 40, 0, 3, 12, 0, []), (24, 7, 2, 4, 0, 0, []), (26, 4, 2, 4, 0, 0, []), (28, 4, 1, 0, 0, 0, []), (29, 25, 0, 0, 4, 0, [(0, 10, 15), (0, 0, 0)]), (32, 25, 10, 11, 0, 0, []), (35, 40, 1, 2, 11, 0, []), (38, 17, 64, 0, 34, 0, []), (41, 4, 2, 4, 0, 0, []), (43, 25, 9, 9, 4, 0, [(0, 8, 2), (0, 0, 0)]), (46, 2, 1, 1, 0, 0, []), (47, 40, 2, 2, 10, 0, []), (50, 17, 64, 0, 34, 0, []), (53, 4, 2, 4, 0, 0, []), (55, 25, 9, 5, 0, 0, []), (58, 2, 1, 2, 0, 0, []), (59, 18, 64, 0, 34, 0, []), (62, 0, 1, 0, 0, 1, []), (63, 48, 0, 0, 0, 0, []), (64, 49, 0, 0, 0, 0, []), (64, 8, 0, 3, 0, 1, []), (67, 19, 2, 0, 3, 0, []), (70, 0, 1, 0, 0, 0, []), (71, 48, 0, 0, 0, 0, [])]
set_option maxRecDepth 20000 in
theorem qX0_isBarredf : f_all yX0_isBarred YX0_isBarred pX0_isBarredf :=
  ⟨f_iconst (e_dx DX0_isBarred_0 0 rfl) ⟨by decide, by decide⟩,
  f_istore_n (n := 3) (e_dx DX0_isBarred_0 1 rfl) rfl (by decide),
  trivial,
  f_iload_n (n := 3) (e_dx DX0_isBarred_0 2 rfl) rfl,
  f_aload_n (n := 0) (e_dx DX0_isBarred_0 3 rfl) rfl,
  f_getA (e_dx DX0_isBarred_0 4 rfl) fX0_36 rfl (by decide) (Nat.le_of_ble_eq_true rfl) rfl (by decide),
  f_getA (e_dx DX0_isBarred_0 5 rfl) fX0_174 rfl (by decide) (Nat.le_of_ble_eq_true rfl) rfl (by decide),
  f_iconst (e_dx DX0_isBarred_0 6 rfl) ⟨by decide, by decide⟩,
  f_iaload (e_dx DX0_isBarred_0 7 rfl),
  f_icmp_ge (e_dx DX0_isBarred_0 8 rfl) rfl,
  f_aload_n (n := 0) (e_dx DX0_isBarred_0 9 rfl) rfl,
  f_getA (e_dx DX0_isBarred_0 10 rfl) fX0_36 rfl (by decide) (Nat.le_of_ble_eq_true rfl) rfl (by decide),
  f_iconst (e_dx DX0_isBarred_0 11 rfl) ⟨by decide, by decide⟩,
  f_iload_n (n := 3) (e_dx DX0_isBarred_0 12 rfl) rfl,
  x_callV (e_dx DX0_isBarred_0 13 rfl) mwX10_at vwX10_at cX0_152 rfl,
  f_astore (e_dx DX0_isBarred_0 14 rfl) (by decide),
  f_aload (e_dx DX0_isBarred_0 15 rfl),
  f_aload_n (n := 0) (e_dx DX0_isBarred_0 16 rfl) rfl,
  f_getA (e_dx DX0_isBarred_0 17 rfl) fX0_36 rfl (by decide) (Nat.le_of_ble_eq_true rfl) rfl (by decide),
  f_getf (e_dx DX0_isBarred_0 18 rfl) fX0_49 rfl (by decide) (by decide) (by decide),
  x_callV (e_dx DX0_isBarred_0 19 rfl) mwX9_isThere vwX9_isThere cX0_177 rfl,
  f_if_eq (e_dx DX0_isBarred_0 20 rfl) rfl,
  f_aload (e_dx DX0_isBarred_0 21 rfl),
  f_getA (e_dx DX0_isBarred_0 22 rfl) fX0_179 rfl (by decide) (Nat.le_of_ble_eq_true rfl) rfl (by decide),
  f_iload_n (n := 1) (e_dx DX0_isBarred_0 23 rfl) rfl,
  x_callV (e_dx DX0_isBarred_0 24 rfl) mwX8_has vwX8_has cX0_183 rfl,
  f_if_eq (e_dx DX0_isBarred_0 25 rfl) rfl,
  f_aload (e_dx DX0_isBarred_0 26 rfl),
  f_getf (e_dx DX0_isBarred_0 27 rfl) fX0_188 rfl (by decide) (by decide) (by decide),
  f_iload_n (n := 2) (e_dx DX0_isBarred_0 28 rfl) rfl,
  f_icmp_eq (e_dx DX0_isBarred_0 29 rfl) rfl,
  f_iconst (e_dx DX0_isBarred_0 30 rfl) ⟨by decide, by decide⟩,
  ⟨(e_dx DX0_isBarred_0 31 rfl), rfl⟩,
  trivial,
  f_g8 (e_dx DX0_isBarred_0 32 rfl) ⟨by decide, by decide⟩,
  f_g19 (e_dx DX0_isBarred_0 33 rfl) rfl,
  f_iconst (e_dx DX0_isBarred_0 34 rfl) ⟨by decide, by decide⟩,
  ⟨(e_dx DX0_isBarred_0 35 rfl), rfl⟩, trivial⟩
def lX0_isBarred (c_X10_at : Nat → Int → Int → e_M → (Nat → Prop) → Prop) (c_X9_isThere : Nat → Int → e_M → (Int → Prop) → Prop) (c_X8_has : Nat → Int → e_M → (Int → Prop) → Prop) : List (Nat × f_Wt) := [(0, f_wm [(3, 10, 15), (1, 0, 0), (1, 0, 0)] (fun ar M R => c_X10_at (f_va (f_nth ar 0)) (f_vi (f_nth ar 1)) (f_vi (f_nth ar 2)) M (fun r => R (some (.inr (.inr (.inl (9, 14, r))))) M))), (1, f_wm [(3, 9, 14), (1, 0, 0)] (fun ar M R => c_X9_isThere (f_va (f_nth ar 0)) (f_vi (f_nth ar 1)) M (fun r => R (some (.inl r)) M))), (2, f_wm [(3, 8, 2), (1, 0, 0)] (fun ar M R => c_X8_has (f_va (f_nth ar 0)) (f_vi (f_nth ar 1)) M (fun r => R (some (.inl r)) M)))]
set_option maxRecDepth 20000 in
theorem BX0_isBarred_2 {sh : Nat → Nat × Nat} {t : Nat} {rm : Nat × Nat × Nat} {cs : Nat × Nat} {R : f_Rt} {c_X10_at : Nat → Int → Int → e_M → (Nat → Prop) → Prop} {c_X9_isThere : Nat → Int → e_M → (Int → Prop) → Prop} {c_X8_has : Nat → Int → e_M → (Int → Prop) → Prop} {k64 : Int → Int → Int → Prop} {x1 : Int} {x2 : Int} {x3 : Int} {M : e_M} (C : f_Hy sh t yX0_isBarred rm cs 6 (lX0_isBarred c_X10_at c_X9_isThere c_X8_has) R) (h64 : ∀ (x1 : Int) (x2 : Int) (x3 : Int), k64 x1 x2 x3 → f_E sh t YX0_isBarred rm cs (f_Q sh t R) 64 [.inr (.inr (.inl (0, 7, 4423))), .inl x1, .inl x2, .inl x3, .inr (.inr (.inr ()))] [] M) (h : VX0_isBarred_2 c_X10_at c_X9_isThere c_X8_has k64 (fun r => R (some (.inl r)) M) x1 x2 x3 M) : f_E sh t YX0_isBarred rm cs (f_Q sh t R) 2 [.inr (.inr (.inl (0, 7, 4423))), .inl x1, .inl x2, .inl x3, .inr (.inr (.inr ()))] [] M := by
  rw [f_kk3 M k64] at h
  exact f_go (KC := f_kc [(64, f_pl [(4433, 0, 7), (1, 0, 0), (1, 0, 0), (1, 0, 0), (0, 0, 0)] [] (fun ls st M2 => M2 = M ∧ (k64 (f_vi (f_nth ls 1)) (f_vi (f_nth ls 2)) (f_vi (f_nth ls 3)))))]) C qX0_isBarredf (f_kc_cons (f_pl_ok rfl (fun ls st M2 ⟨e, hh⟩ => by subst e; exact h64 _ _ _ hh)) f_kc_nil) 40 3 h
set_option maxRecDepth 20000 in
theorem BX0_isBarred_64 {sh : Nat → Nat × Nat} {t : Nat} {rm : Nat × Nat × Nat} {cs : Nat × Nat} {R : f_Rt} {c_X10_at : Nat → Int → Int → e_M → (Nat → Prop) → Prop} {c_X9_isThere : Nat → Int → e_M → (Int → Prop) → Prop} {c_X8_has : Nat → Int → e_M → (Int → Prop) → Prop} {k2 : Int → Int → Int → Prop} {x1 : Int} {x2 : Int} {x3 : Int} {M : e_M} (C : f_Hy sh t yX0_isBarred rm cs 6 (lX0_isBarred c_X10_at c_X9_isThere c_X8_has) R) (h2 : ∀ (x1 : Int) (x2 : Int) (x3 : Int), k2 x1 x2 x3 → f_E sh t YX0_isBarred rm cs (f_Q sh t R) 2 [.inr (.inr (.inl (0, 7, 4423))), .inl x1, .inl x2, .inl x3, .inr (.inr (.inr ()))] [] M) (h : VX0_isBarred_64 c_X10_at c_X9_isThere c_X8_has k2 (fun r => R (some (.inl r)) M) x1 x2 x3 M) : f_E sh t YX0_isBarred rm cs (f_Q sh t R) 64 [.inr (.inr (.inl (0, 7, 4423))), .inl x1, .inl x2, .inl x3, .inr (.inr (.inr ()))] [] M := by
  rw [f_kk3 M k2] at h
  exact f_go (KC := f_kc [(2, f_pl [(4433, 0, 7), (1, 0, 0), (1, 0, 0), (1, 0, 0), (0, 0, 0)] [] (fun ls st M2 => M2 = M ∧ (k2 (f_vi (f_nth ls 1)) (f_vi (f_nth ls 2)) (f_vi (f_nth ls 3)))))]) C qX0_isBarredf (f_kc_cons (f_pl_ok rfl (fun ls st M2 ⟨e, hh⟩ => by subst e; exact h2 _ _ _ hh)) f_kc_nil) 40 34 h
set_option maxRecDepth 20000 in
theorem BX0_isBarred {sh : Nat → Nat × Nat} {t : Nat} {rm : Nat × Nat × Nat} {cs : Nat × Nat} {R : f_Rt} {c_X10_at : Nat → Int → Int → e_M → (Nat → Prop) → Prop} {c_X9_isThere : Nat → Int → e_M → (Int → Prop) → Prop} {c_X8_has : Nat → Int → e_M → (Int → Prop) → Prop} {k2 : Int → Int → Int → Prop} {x1 : Int} {x2 : Int} {M : e_M} (C : f_Hy sh t yX0_isBarred rm cs 6 (lX0_isBarred c_X10_at c_X9_isThere c_X8_has) R) (h2 : ∀ (x1 : Int) (x2 : Int) (x3 : Int), k2 x1 x2 x3 → f_E sh t YX0_isBarred rm cs (f_Q sh t R) 2 [.inr (.inr (.inl (0, 7, 4423))), .inl x1, .inl x2, .inl x3, .inr (.inr (.inr ()))] [] M) (h : VX0_isBarred c_X10_at c_X9_isThere c_X8_has k2 (fun r => R (some (.inl r)) M) x1 x2 M) : f_E sh t YX0_isBarred rm cs (f_Q sh t R) 0 [.inr (.inr (.inl (0, 7, 4423))), .inl x1, .inl x2, .inr (.inr (.inr ())), .inr (.inr (.inr ()))] [] M := by
  rw [f_kk3 M k2] at h
  exact f_go (KC := f_kc [(2, f_pl [(4433, 0, 7), (1, 0, 0), (1, 0, 0), (1, 0, 0), (0, 0, 0)] [] (fun ls st M2 => M2 = M ∧ (k2 (f_vi (f_nth ls 1)) (f_vi (f_nth ls 2)) (f_vi (f_nth ls 3)))))]) C qX0_isBarredf (f_kc_cons (f_pl_ok rfl (fun ls st M2 ⟨e, hh⟩ => by subst e; exact h2 _ _ _ hh)) f_kc_nil) 40 0 h
def WX0_isBarred_64 (M : e_M) (H2 : Int → Int → Int → Prop) (Q : Int → Prop) (x1 : Int) (x2 : Int) (x3 : Int) : Prop :=
  VX0_isBarred_64 WX10_at WX9_isThere WX8_has H2 Q x1 x2 x3 M
def WX0_isBarred_2 (M : e_M) (Q : Int → Prop) : Nat → Int → Int → Int → Prop
  | 0, _, _, _ => False
  | n + 1, x1, x2, x3 =>
    VX0_isBarred_2 WX10_at WX9_isThere WX8_has (WX0_isBarred_64 M (WX0_isBarred_2 M Q n) Q) Q x1 x2 x3 M
def WX0_isBarred (x1 : Int) (x2 : Int) (M : e_M) (Q : Int → Prop) : Prop :=
  VX0_isBarred WX10_at WX9_isThere WX8_has (fun x1 x2 x3 => ∃ j, WX0_isBarred_2 M Q j x1 x2 x3) Q x1 x2 M
theorem PX0_isBarred_64 {sh : Nat → Nat × Nat} {t : Nat} {rm : Nat × Nat × Nat} {cs : Nat × Nat} {R : f_Rt} {H2 : Int → Int → Int → Prop} {x1 : Int} {x2 : Int} {x3 : Int} {M : e_M} (C : f_Hy sh t yX0_isBarred rm cs 6 (lX0_isBarred WX10_at WX9_isThere WX8_has) R) (g2 : ∀ (x1 : Int) (x2 : Int) (x3 : Int), H2 x1 x2 x3 → f_E sh t YX0_isBarred rm cs (f_Q sh t R) 2 [.inr (.inr (.inl (0, 7, 4423))), .inl x1, .inl x2, .inl x3, .inr (.inr (.inr ()))] [] M) (h : WX0_isBarred_64 M H2 (fun r => R (some (.inl r)) M) x1 x2 x3) : f_E sh t YX0_isBarred rm cs (f_Q sh t R) 64 [.inr (.inr (.inl (0, 7, 4423))), .inl x1, .inl x2, .inl x3, .inr (.inr (.inr ()))] [] M :=
  BX0_isBarred_64 C g2 h
theorem PX0_isBarred_2 {sh : Nat → Nat × Nat} {t : Nat} {rm : Nat × Nat × Nat} {cs : Nat × Nat} {R : f_Rt} {M : e_M} (C : f_Hy sh t yX0_isBarred rm cs 6 (lX0_isBarred WX10_at WX9_isThere WX8_has) R) : ∀ (n : Nat) (x1 : Int) (x2 : Int) (x3 : Int), WX0_isBarred_2 M (fun r => R (some (.inl r)) M) n x1 x2 x3 → f_E sh t YX0_isBarred rm cs (f_Q sh t R) 2 [.inr (.inr (.inl (0, 7, 4423))), .inl x1, .inl x2, .inl x3, .inr (.inr (.inr ()))] [] M := by
  intro n
  induction n with
  | zero => intro x1 x2 x3 h; exact h.elim
  | succ n ih => intro x1 x2 x3 h; exact BX0_isBarred_2 C (fun x1 x2 x3 h => PX0_isBarred_64 C ih h) h
theorem PX0_isBarred {sh : Nat → Nat × Nat} {t : Nat} {rm : Nat × Nat × Nat} {cs : Nat × Nat} {R : f_Rt} {x1 : Int} {x2 : Int} {M : e_M} (C : f_Hy sh t yX0_isBarred rm cs 6 (lX0_isBarred WX10_at WX9_isThere WX8_has) R) (h : WX0_isBarred x1 x2 M (fun r => R (some (.inl r)) M)) : f_E sh t YX0_isBarred rm cs (f_Q sh t R) 0 [.inr (.inr (.inl (0, 7, 4423))), .inl x1, .inl x2, .inr (.inr (.inr ())), .inr (.inr (.inr ()))] [] M :=
  BX0_isBarred C (fun x1 x2 x3 ⟨j, h⟩ => PX0_isBarred_2 C j _ _ _ h) h
def wX0_isBarred : f_Wt := f_wm [(4433, 0, 7), (1, 0, 0), (1, 0, 0)] (fun ar M R => WX0_isBarred (f_vi (f_nth ar 1)) (f_vi (f_nth ar 2)) M (fun r => R (some (.inl r)) M))
theorem TX0_isBarred {sh : Nat → Nat × Nat} {t : Nat} : f_Mt sh t YX0_isBarred 6 (wX0_isBarred) :=
  f_Mt_of (k := 2) (Nat.le_of_ble_eq_true rfl) rfl rfl (fun ar M R rm cs h1 h2 h3 hX h => PX0_isBarred ⟨Nat.le_of_ble_eq_true rfl, h1, h2, h3, ⟨(f_Mt.up (Nat.le_of_ble_eq_true rfl) TX10_at), (f_Mt.up (Nat.le_of_ble_eq_true rfl) TX9_isThere), (f_Mt.up (Nat.le_of_ble_eq_true rfl) TX8_has), trivial⟩, hX⟩ h)
def VX8_insert_27 (k27 : Nat → Int → Int → Int → e_M → Prop) (Q : e_M → Prop) (a0 : Nat) (x1 : Int) (x2 : Int) (x3 : Int) (M : e_M) : Prop :=
  ((x3 ≤ x1 → ((0 ≤ x1 ∧ x1 < 8) ∧ (∀ M1 : e_M, M1 = e_up M (a0 + 1) (x1.toNat) x2 → (∀ M2 : e_M, M2 = e_up M1 a0 1 (e_w32 ((M1 a0 1) + 1)) → (Q M2))))) ∧ (x1 < x3 → ((0 ≤ (e_w32 (x3 - 1)) ∧ (e_w32 (x3 - 1)) < 8) ∧ ((0 ≤ x3 ∧ x3 < 8) ∧ (∀ M3 : e_M, M3 = e_up M (a0 + 1) (x3.toNat) (M (a0 + 1) ((e_w32 (x3 - 1)).toNat)) → (k27 a0 x1 x2 (e_w32 (x3 + (-1))) M3))))))
def VX8_insert (k27 : Nat → Int → Int → Int → e_M → Prop) (Q : e_M → Prop) (a0 : Nat) (x1 : Int) (x2 : Int) (M : e_M) : Prop :=
  ((x1 < 0 → (Q M)) ∧ (0 ≤ x1 → (((M a0 1) < x1 → (Q M)) ∧ (x1 ≤ (M a0 1) → (((M a0 1) < 8 → (k27 a0 x1 x2 (M a0 1) M)) ∧ (8 ≤ (M a0 1) → (Q M)))))))
def yX8_insert (i : Nat) : e_Y := x_get YX8_insert [] i
def pX8_insertf : List x_I := [(0, 2, 1, 1, 0, 0, []), (1, 17, 21, 2, 11, 0, []), (4, 2, 1, 1, 0, 0, []), (5, 4, 1, 0, 0, 0, []), (6, 25, 8, 1, 0, 0, []), (9, 18, 21, 4, 11, 0, []), (12, 4, 1, 0, 0, 0, []), (13, 25, 8, 1, 0, 0, []), (16, 0, 2, 0, 0, 8, []), (18, 18, 22, 2, 12, 0, []), (21, 44, 0, 0, 0, 0, []), (22, 4, 1, 0, 0, 0, []), (23, 25, 8, 1, 0, 0, []), (26, 5, 1, 3, 0, 0, []), (27, 49, 0, 0, 0, 0, []), (27, 2, 1, 3, 0, 0, []), (28, 2, 1, 1, 0, 0, []), (29, 18, 52, 5, 31, 0, []), (32, 4, 1, 0, 0, 0, []), (33, 25, 8, 0, 4, 0, [(0, 20, 8), (0, 1, 1)]), (36, 2, 1, 3, 0, 0, []), (37, 4, 1, 0, 0, 0, []), (38, 25, 8, 0, 4, 0, [(0, 20, 8), (0, 1, 1)]), (41, 2, 1, 3, 0, 0, []), (42, 0, 1, 0, 0, 1, []), (43, 9, 0, 1, 0, 0, []), (44, 27, 0, 0, 0, 0, []), (45, 28, 0, 0, 0, 0, []), (46, 8, 0, 3, 0, (-1), []), (49, 19, 27, 0, 15, 0, []), (52, 4, 1, 0, 0, 0, []), (53, 25, 8, 0, 4, 0, [(0, 20, 8), (0, 1, 1)]), (56, 2, 1, 1, 0, 0, []), (57, 2, 1, 2, 0, 0, []), (58, 28, 0, 0, 0, 0, []), (59, 4, 1, 0, 0, 0, []), (60, 20, 0, 0, 0, 0, []), (61, 25, 8, 1, 0, 0, []), (64, 0, 1, 0, 0, 1, []), (65, 9, 0, 0, 0, 0, []), (66, 26, 8, 1, 0, 0, []), (69, 44, 0, 0, 0, 0, [])]
set_option maxRecDepth 20000 in
theorem qX8_insertf : f_all yX8_insert YX8_insert pX8_insertf :=
  ⟨f_iload_n (n := 1) (e_dx DX8_insert_0 0 rfl) rfl,
  f_if_lt (e_dx DX8_insert_0 1 rfl) rfl,
  f_iload_n (n := 1) (e_dx DX8_insert_0 2 rfl) rfl,
  f_aload_n (n := 0) (e_dx DX8_insert_0 3 rfl) rfl,
  f_getf (e_dx DX8_insert_0 4 rfl) fX8_15 rfl (by decide) (by decide) (by decide),
  f_icmp_gt (e_dx DX8_insert_0 5 rfl) rfl,
  f_aload_n (n := 0) (e_dx DX8_insert_0 6 rfl) rfl,
  f_getf (e_dx DX8_insert_0 7 rfl) fX8_15 rfl (by decide) (by decide) (by decide),
  f_bipush (e_dx DX8_insert_0 8 rfl) ⟨by decide, by decide⟩,
  f_icmp_lt (e_dx DX8_insert_0 9 rfl) rfl,
  ⟨(e_dx DX8_insert_0 10 rfl), rfl⟩,
  f_aload_n (n := 0) (e_dx DX8_insert_0 11 rfl) rfl,
  f_getf (e_dx DX8_insert_0 12 rfl) fX8_15 rfl (by decide) (by decide) (by decide),
  f_istore_n (n := 3) (e_dx DX8_insert_0 13 rfl) rfl (by decide),
  trivial,
  f_iload_n (n := 3) (e_dx DX8_insert_0 14 rfl) rfl,
  f_iload_n (n := 1) (e_dx DX8_insert_0 15 rfl) rfl,
  f_icmp_le (e_dx DX8_insert_0 16 rfl) rfl,
  f_aload_n (n := 0) (e_dx DX8_insert_0 17 rfl) rfl,
  f_getA (e_dx DX8_insert_0 18 rfl) fX8_9 rfl (by decide) (Nat.le_of_ble_eq_true rfl) rfl (by decide),
  f_iload_n (n := 3) (e_dx DX8_insert_0 19 rfl) rfl,
  f_aload_n (n := 0) (e_dx DX8_insert_0 20 rfl) rfl,
  f_getA (e_dx DX8_insert_0 21 rfl) fX8_9 rfl (by decide) (Nat.le_of_ble_eq_true rfl) rfl (by decide),
  f_iload_n (n := 3) (e_dx DX8_insert_0 22 rfl) rfl,
  f_iconst (e_dx DX8_insert_0 23 rfl) ⟨by decide, by decide⟩,
  f_isub (e_dx DX8_insert_0 24 rfl),
  f_iaload (e_dx DX8_insert_0 25 rfl),
  f_iastore (e_dx DX8_insert_0 26 rfl),
  f_g8 (e_dx DX8_insert_0 27 rfl) ⟨by decide, by decide⟩,
  f_g19 (e_dx DX8_insert_0 28 rfl) rfl,
  f_aload_n (n := 0) (e_dx DX8_insert_0 29 rfl) rfl,
  f_getA (e_dx DX8_insert_0 30 rfl) fX8_9 rfl (by decide) (Nat.le_of_ble_eq_true rfl) rfl (by decide),
  f_iload_n (n := 1) (e_dx DX8_insert_0 31 rfl) rfl,
  f_iload_n (n := 2) (e_dx DX8_insert_0 32 rfl) rfl,
  f_iastore (e_dx DX8_insert_0 33 rfl),
  f_aload_n (n := 0) (e_dx DX8_insert_0 34 rfl) rfl,
  f_g20 (e_dx DX8_insert_0 35 rfl),
  f_getf (e_dx DX8_insert_0 36 rfl) fX8_15 rfl (by decide) (by decide) (by decide),
  f_iconst (e_dx DX8_insert_0 37 rfl) ⟨by decide, by decide⟩,
  f_iadd (e_dx DX8_insert_0 38 rfl),
  f_putn (e_dx DX8_insert_0 39 rfl) fX8_15 (fun q hq => by cases hq; rfl) rfl (Or.inl rfl) (by decide),
  ⟨(e_dx DX8_insert_1 0 rfl), rfl⟩, trivial⟩
def lX8_insert : List (Nat × f_Wt) := []
set_option maxRecDepth 20000 in
theorem BX8_insert_27 {sh : Nat → Nat × Nat} {t : Nat} {rm : Nat × Nat × Nat} {cs : Nat × Nat} {R : f_Rt} {k27 : Nat → Int → Int → Int → e_M → Prop} {a0 : Nat} {x1 : Int} {x2 : Int} {x3 : Int} {M : e_M} (C : f_Hy sh t yX8_insert rm cs 4 (lX8_insert) R) (h27 : ∀ (a0 : Nat) (x1 : Int) (x2 : Int) (x3 : Int) (M : e_M), k27 a0 x1 x2 x3 M → f_E sh t YX8_insert rm cs (f_Q sh t R) 27 [.inr (.inr (.inl (8, 2, a0))), .inl x1, .inl x2, .inl x3] [] M) (h : VX8_insert_27 k27 (fun M => R none M) a0 x1 x2 x3 M) : f_E sh t YX8_insert rm cs (f_Q sh t R) 27 [.inr (.inr (.inl (8, 2, a0))), .inl x1, .inl x2, .inl x3] [] M :=
  f_go (KC := f_kc [(27, f_pl [(3, 8, 2), (1, 0, 0), (1, 0, 0), (1, 0, 0)] [] (fun ls st M => k27 (f_va (f_nth ls 0)) (f_vi (f_nth ls 1)) (f_vi (f_nth ls 2)) (f_vi (f_nth ls 3)) M))]) C qX8_insertf (f_kc_cons (f_pl_ok rfl (fun ls st M h => h27 _ _ _ _ M h)) f_kc_nil) 44 15 h
set_option maxRecDepth 20000 in
theorem BX8_insert {sh : Nat → Nat × Nat} {t : Nat} {rm : Nat × Nat × Nat} {cs : Nat × Nat} {R : f_Rt} {k27 : Nat → Int → Int → Int → e_M → Prop} {a0 : Nat} {x1 : Int} {x2 : Int} {M : e_M} (C : f_Hy sh t yX8_insert rm cs 4 (lX8_insert) R) (h27 : ∀ (a0 : Nat) (x1 : Int) (x2 : Int) (x3 : Int) (M : e_M), k27 a0 x1 x2 x3 M → f_E sh t YX8_insert rm cs (f_Q sh t R) 27 [.inr (.inr (.inl (8, 2, a0))), .inl x1, .inl x2, .inl x3] [] M) (h : VX8_insert k27 (fun M => R none M) a0 x1 x2 M) : f_E sh t YX8_insert rm cs (f_Q sh t R) 0 [.inr (.inr (.inl (8, 2, a0))), .inl x1, .inl x2, .inr (.inr (.inr ()))] [] M :=
  f_go (KC := f_kc [(27, f_pl [(3, 8, 2), (1, 0, 0), (1, 0, 0), (1, 0, 0)] [] (fun ls st M => k27 (f_va (f_nth ls 0)) (f_vi (f_nth ls 1)) (f_vi (f_nth ls 2)) (f_vi (f_nth ls 3)) M))]) C qX8_insertf (f_kc_cons (f_pl_ok rfl (fun ls st M h => h27 _ _ _ _ M h)) f_kc_nil) 44 0 h
def WX8_insert_27 (Q : e_M → Prop) : Nat → Nat → Int → Int → Int → e_M → Prop
  | 0, _, _, _, _, _ => False
  | n + 1, a0, x1, x2, x3, M =>
    VX8_insert_27 (WX8_insert_27 Q n) Q a0 x1 x2 x3 M
def WX8_insert (a0 : Nat) (x1 : Int) (x2 : Int) (M : e_M) (Q : e_M → Prop) : Prop :=
  VX8_insert (fun a0 x1 x2 x3 M => ∃ j, WX8_insert_27 Q j a0 x1 x2 x3 M) Q a0 x1 x2 M
theorem PX8_insert_27 {sh : Nat → Nat × Nat} {t : Nat} {rm : Nat × Nat × Nat} {cs : Nat × Nat} {R : f_Rt} (C : f_Hy sh t yX8_insert rm cs 4 (lX8_insert) R) : ∀ (n : Nat) (a0 : Nat) (x1 : Int) (x2 : Int) (x3 : Int) (M : e_M), WX8_insert_27 (fun M => R none M) n a0 x1 x2 x3 M → f_E sh t YX8_insert rm cs (f_Q sh t R) 27 [.inr (.inr (.inl (8, 2, a0))), .inl x1, .inl x2, .inl x3] [] M := by
  intro n
  induction n with
  | zero => intro a0 x1 x2 x3 M h; exact h.elim
  | succ n ih => intro a0 x1 x2 x3 M h; exact BX8_insert_27 C ih h
theorem PX8_insert {sh : Nat → Nat × Nat} {t : Nat} {rm : Nat × Nat × Nat} {cs : Nat × Nat} {R : f_Rt} {a0 : Nat} {x1 : Int} {x2 : Int} {M : e_M} (C : f_Hy sh t yX8_insert rm cs 4 (lX8_insert) R) (h : WX8_insert a0 x1 x2 M (fun M => R none M)) : f_E sh t YX8_insert rm cs (f_Q sh t R) 0 [.inr (.inr (.inl (8, 2, a0))), .inl x1, .inl x2, .inr (.inr (.inr ()))] [] M :=
  BX8_insert C (fun a0 x1 x2 x3 M ⟨j, h⟩ => PX8_insert_27 C j _ _ _ _ _ h) h
def wX8_insert : f_Wt := f_wm [(3, 8, 2), (1, 0, 0), (1, 0, 0)] (fun ar M R => WX8_insert (f_va (f_nth ar 0)) (f_vi (f_nth ar 1)) (f_vi (f_nth ar 2)) M (fun M => R none M))
theorem TX8_insert {sh : Nat → Nat × Nat} {t : Nat} : f_Mt sh t YX8_insert 4 (wX8_insert) :=
  f_Mt_of (k := 1) (Nat.le_of_ble_eq_true rfl) rfl rfl (fun ar M R rm cs h1 h2 h3 hX h => PX8_insert ⟨Nat.le_of_ble_eq_true rfl, h1, h2, h3, trivial, hX⟩ h)
def VX8_add (c_X8_insert : Nat → Int → Int → e_M → (e_M → Prop) → Prop) (Q : e_M → Prop) (a0 : Nat) (x1 : Int) (M : e_M) : Prop :=
  (c_X8_insert a0 (M a0 1) x1 M (fun M1 => (Q M1)))
def yX8_add (i : Nat) : e_Y := x_get YX8_add [YX8_insert] i
def pX8_addf : List x_I := [(0, 4, 1, 0, 0, 0, []), (1, 4, 1, 0, 0, 0, []), (2, 25, 8, 1, 0, 0, []), (5, 2, 1, 1, 0, 0, []), (6, 40, 0, 3, 10, 0, []), (9, 44, 0, 0, 0, 0, [])]
set_option maxRecDepth 20000 in
theorem qX8_addf : f_all yX8_add YX8_add pX8_addf :=
  ⟨f_aload_n (n := 0) (e_dx DX8_add_0 0 rfl) rfl,
  f_aload_n (n := 0) (e_dx DX8_add_0 1 rfl) rfl,
  f_getf (e_dx DX8_add_0 2 rfl) fX8_15 rfl (by decide) (by decide) (by decide),
  f_iload_n (n := 1) (e_dx DX8_add_0 3 rfl) rfl,
  x_callV (e_dx DX8_add_0 4 rfl) mwX8_insert vwX8_insert cX8_23 rfl,
  ⟨(e_dx DX8_add_0 5 rfl), rfl⟩, trivial⟩
def lX8_add (c_X8_insert : Nat → Int → Int → e_M → (e_M → Prop) → Prop) : List (Nat × f_Wt) := [(0, f_wm [(3, 8, 2), (1, 0, 0), (1, 0, 0)] (fun ar M R => c_X8_insert (f_va (f_nth ar 0)) (f_vi (f_nth ar 1)) (f_vi (f_nth ar 2)) M (fun M => R none M)))]
set_option maxRecDepth 20000 in
theorem BX8_add {sh : Nat → Nat × Nat} {t : Nat} {rm : Nat × Nat × Nat} {cs : Nat × Nat} {R : f_Rt} {c_X8_insert : Nat → Int → Int → e_M → (e_M → Prop) → Prop} {a0 : Nat} {x1 : Int} {M : e_M} (C : f_Hy sh t yX8_add rm cs 5 (lX8_add c_X8_insert) R) (h : VX8_add c_X8_insert (fun M => R none M) a0 x1 M) : f_E sh t YX8_add rm cs (f_Q sh t R) 0 [.inr (.inr (.inl (8, 2, a0))), .inl x1] [] M :=
  f_go (KC := f_kc []) C qX8_addf f_kc_nil 8 0 h
def WX8_add (a0 : Nat) (x1 : Int) (M : e_M) (Q : e_M → Prop) : Prop :=
  VX8_add WX8_insert Q a0 x1 M
theorem PX8_add {sh : Nat → Nat × Nat} {t : Nat} {rm : Nat × Nat × Nat} {cs : Nat × Nat} {R : f_Rt} {a0 : Nat} {x1 : Int} {M : e_M} (C : f_Hy sh t yX8_add rm cs 5 (lX8_add WX8_insert) R) (h : WX8_add a0 x1 M (fun M => R none M)) : f_E sh t YX8_add rm cs (f_Q sh t R) 0 [.inr (.inr (.inl (8, 2, a0))), .inl x1] [] M :=
  BX8_add C h
def wX8_add : f_Wt := f_wm [(3, 8, 2), (1, 0, 0)] (fun ar M R => WX8_add (f_va (f_nth ar 0)) (f_vi (f_nth ar 1)) M (fun M => R none M))
theorem TX8_add {sh : Nat → Nat × Nat} {t : Nat} : f_Mt sh t YX8_add 5 (wX8_add) :=
  f_Mt_of (k := 0) (Nat.le_of_ble_eq_true rfl) rfl rfl (fun ar M R rm cs h1 h2 h3 hX h => PX8_add ⟨Nat.le_of_ble_eq_true rfl, h1, h2, h3, ⟨(f_Mt.up (Nat.le_of_ble_eq_true rfl) TX8_insert), trivial⟩, hX⟩ h)
def VX0_recordSale_48 (c_X0_make : Int → e_M → (Nat → e_M → Prop) → Prop) (c_X8_add : Nat → Int → e_M → (e_M → Prop) → Prop) (k48 : Nat → Int → e_M → Prop) (Q : e_M → Prop) (a5 : Nat) (x6 : Int) (M : e_M) : Prop :=
  (((M ((M 4423 1).toNat) 15) ≤ x6 → (Q M)) ∧ (x6 < (M ((M 4423 1).toNat) 15) → ((0 ≤ (e_w32 (x6 + 2)) ∧ (e_w32 (x6 + 2)) < 8) ∧ (c_X8_add ((M a5 10).toNat) (M 4425 ((e_w32 (x6 + 2)).toNat)) M (fun M1 => (k48 a5 (e_w32 (x6 + 1)) M1))))))
def VX0_recordSale (c_X0_make : Int → e_M → (Nat → e_M → Prop) → Prop) (c_X8_add : Nat → Int → e_M → (e_M → Prop) → Prop) (k48 : Nat → Int → e_M → Prop) (Q : e_M → Prop) (x1 : Int) (x3 : Int) (M : e_M) : Prop :=
  (c_X0_make 7 M (fun r1 M2 => ((0 ≤ (1 : Int) ∧ (1 : Int) < 8) ∧ (∀ M3 : e_M, M3 = e_up M2 r1 5 (M2 4425 ((1 : Int).toNat)) → ((0 ≤ (0 : Int) ∧ (0 : Int) < 8) ∧ (c_X8_add ((M3 r1 9).toNat) (M3 4425 ((0 : Int).toNat)) M3 (fun M4 => (∀ M5 : e_M, M5 = e_up M4 r1 12 x1 → (∀ M6 : e_M, M6 = e_up M5 r1 13 x3 → (k48 r1 0 M6))))))))))
def yX0_recordSale (i : Nat) : e_Y := x_get YX0_recordSale [YX0_make, YX8_add] i
def pX0_recordSalef : List x_I := [(0, 4, 1, 0, 0, 0, []), (1, 0, 2, 0, 0, 7, []), (3, 40, 0, 2, 2, 0, []), (6, 7, 2, 5, 0, 0, []), (8, 4, 2, 5, 0, 0, []), (10, 4, 1, 0, 0, 0, []), (11, 25, 0, 4, 4, 0, [(0, 20, 8), (0, 1, 2)]), (14, 0, 1, 0, 0, 1, []), (15, 27, 0, 0, 0, 0, []), (16, 26, 9, 5, 0, 0, []), (19, 4, 2, 5, 0, 0, []), (21, 25, 9, 9, 4, 0, [(0, 8, 2), (0, 0, 0)]), (24, 4, 1, 0, 0, 0, []), (25, 25, 0, 4, 4, 0, [(0, 20, 8), (0, 1, 2)]), (28, 0, 1, 0, 0, 0, []), (29, 27, 0, 0, 0, 0, []), (30, 40, 1, 2, 10, 0, []), (33, 4, 2, 5, 0, 0, []), (35, 3, 1, 1, 0, 0, []), (36, 26, 9, 12, 3, 0, []), (39, 4, 2, 5, 0, 0, []), (41, 3, 1, 3, 0, 0, []), (42, 26, 9, 13, 3, 0, []), (45, 0, 1, 0, 0, 0, []), (46, 5, 2, 6, 0, 0, []), (48, 49, 0, 0, 0, 0, []), (48, 2, 2, 6, 0, 0, []), (50, 4, 1, 0, 0, 0, []), (51, 25, 0, 1, 4, 0, [(0, 2, 19), (0, 0, 0)]), (54, 25, 2, 15, 0, 0, []), (57, 18, 83, 3, 43, 0, []), (60, 4, 2, 5, 0, 0, []), (62, 25, 9, 10, 4, 0, [(0, 8, 2), (0, 0, 0)]), (65, 4, 1, 0, 0, 0, []), (66, 25, 0, 4, 4, 0, [(0, 20, 8), (0, 1, 2)]), (69, 2, 2, 6, 0, 0, []), (71, 0, 1, 0, 0, 2, []), (72, 9, 0, 0, 0, 0, []), (73, 27, 0, 0, 0, 0, []), (74, 40, 1, 2, 10, 0, []), (77, 8, 0, 6, 0, 1, []), (80, 19, 48, 0, 26, 0, []), (83, 44, 0, 0, 0, 0, [])]
set_option maxRecDepth 20000 in
theorem qX0_recordSalef : f_all yX0_recordSale YX0_recordSale pX0_recordSalef :=
  ⟨f_aload_n (n := 0) (e_dx DX0_recordSale_0 0 rfl) rfl,
  f_bipush (e_dx DX0_recordSale_0 1 rfl) ⟨by decide, by decide⟩,
  x_callV (e_dx DX0_recordSale_0 2 rfl) mwX0_make vwX0_make cX0_203 rfl,
  f_astore (e_dx DX0_recordSale_0 3 rfl) (by decide),
  f_aload (e_dx DX0_recordSale_0 4 rfl),
  f_aload_n (n := 0) (e_dx DX0_recordSale_0 5 rfl) rfl,
  f_getA (e_dx DX0_recordSale_0 6 rfl) fX0_19 rfl (by decide) (Nat.le_of_ble_eq_true rfl) rfl (by decide),
  f_iconst (e_dx DX0_recordSale_0 7 rfl) ⟨by decide, by decide⟩,
  f_iaload (e_dx DX0_recordSale_0 8 rfl),
  f_putn (e_dx DX0_recordSale_0 9 rfl) fX0_188 (fun q hq => by cases hq; rfl) rfl (Or.inl rfl) (by decide),
  f_aload (e_dx DX0_recordSale_0 10 rfl),
  f_getA (e_dx DX0_recordSale_0 11 rfl) fX0_179 rfl (by decide) (Nat.le_of_ble_eq_true rfl) rfl (by decide),
  f_aload_n (n := 0) (e_dx DX0_recordSale_0 12 rfl) rfl,
  f_getA (e_dx DX0_recordSale_0 13 rfl) fX0_19 rfl (by decide) (Nat.le_of_ble_eq_true rfl) rfl (by decide),
  f_iconst (e_dx DX0_recordSale_0 14 rfl) ⟨by decide, by decide⟩,
  f_iaload (e_dx DX0_recordSale_0 15 rfl),
  x_callV (e_dx DX0_recordSale_0 16 rfl) mwX8_add vwX8_add cX0_288 rfl,
  f_aload (e_dx DX0_recordSale_0 17 rfl),
  f_lload_n (n := 1) (e_dx DX0_recordSale_0 18 rfl) rfl,
  f_putn (e_dx DX0_recordSale_0 19 rfl) fX0_291 (fun q hq => by cases hq; rfl) rfl (Or.inr (Or.inr rfl)) (by decide),
  f_aload (e_dx DX0_recordSale_0 20 rfl),
  f_lload_n (n := 3) (e_dx DX0_recordSale_0 21 rfl) rfl,
  f_putn (e_dx DX0_recordSale_0 22 rfl) fX0_292 (fun q hq => by cases hq; rfl) rfl (Or.inr (Or.inr rfl)) (by decide),
  f_iconst (e_dx DX0_recordSale_0 23 rfl) ⟨by decide, by decide⟩,
  f_istore (e_dx DX0_recordSale_0 24 rfl) (by decide),
  trivial,
  f_iload (e_dx DX0_recordSale_0 25 rfl),
  f_aload_n (n := 0) (e_dx DX0_recordSale_0 26 rfl) rfl,
  f_getA (e_dx DX0_recordSale_0 27 rfl) fX0_40 rfl (by decide) (Nat.le_of_ble_eq_true rfl) rfl (by decide),
  f_getf (e_dx DX0_recordSale_0 28 rfl) fX0_217 rfl (by decide) (by decide) (by decide),
  f_icmp_ge (e_dx DX0_recordSale_0 29 rfl) rfl,
  f_aload (e_dx DX0_recordSale_0 30 rfl),
  f_getA (e_dx DX0_recordSale_0 31 rfl) fX0_293 rfl (by decide) (Nat.le_of_ble_eq_true rfl) rfl (by decide),
  f_aload_n (n := 0) (e_dx DX0_recordSale_0 32 rfl) rfl,
  f_getA (e_dx DX0_recordSale_0 33 rfl) fX0_19 rfl (by decide) (Nat.le_of_ble_eq_true rfl) rfl (by decide),
  f_iload (e_dx DX0_recordSale_0 34 rfl),
  f_iconst (e_dx DX0_recordSale_0 35 rfl) ⟨by decide, by decide⟩,
  f_iadd (e_dx DX0_recordSale_0 36 rfl),
  f_iaload (e_dx DX0_recordSale_0 37 rfl),
  x_callV (e_dx DX0_recordSale_0 38 rfl) mwX8_add vwX8_add cX0_288 rfl,
  f_g8 (e_dx DX0_recordSale_0 39 rfl) ⟨by decide, by decide⟩,
  f_g19 (e_dx DX0_recordSale_1 0 rfl) rfl,
  ⟨(e_dx DX0_recordSale_1 1 rfl), rfl⟩, trivial⟩
def lX0_recordSale (c_X0_make : Int → e_M → (Nat → e_M → Prop) → Prop) (c_X8_add : Nat → Int → e_M → (e_M → Prop) → Prop) : List (Nat × f_Wt) := [(0, f_wm [(4433, 0, 7), (1, 0, 0)] (fun ar M R => c_X0_make (f_vi (f_nth ar 1)) M (fun r M => R (some (.inr (.inr (.inl (9, 14, r))))) M))), (1, f_wm [(3, 8, 2), (1, 0, 0)] (fun ar M R => c_X8_add (f_va (f_nth ar 0)) (f_vi (f_nth ar 1)) M (fun M => R none M)))]
set_option maxRecDepth 20000 in
theorem BX0_recordSale_48 {sh : Nat → Nat × Nat} {t : Nat} {rm : Nat × Nat × Nat} {cs : Nat × Nat} {R : f_Rt} {c_X0_make : Int → e_M → (Nat → e_M → Prop) → Prop} {c_X8_add : Nat → Int → e_M → (e_M → Prop) → Prop} {k48 : Nat → Int → e_M → Prop} {a5 : Nat} {x6 : Int} {M : e_M} (C : f_Hy sh t yX0_recordSale rm cs 7 (lX0_recordSale c_X0_make c_X8_add) R) (h48 : ∀ (a5 : Nat) (x6 : Int) (M : e_M), k48 a5 x6 M → f_E sh t YX0_recordSale rm cs (f_Q sh t R) 48 [.inr (.inr (.inl (0, 7, 4423))), .inr (.inr (.inr ())), .inr (.inr (.inr ())), .inr (.inr (.inr ())), .inr (.inr (.inr ())), .inr (.inr (.inl (9, 14, a5))), .inl x6] [] M) (h : VX0_recordSale_48 c_X0_make c_X8_add k48 (fun M => R none M) a5 x6 M) : f_E sh t YX0_recordSale rm cs (f_Q sh t R) 48 [.inr (.inr (.inl (0, 7, 4423))), .inr (.inr (.inr ())), .inr (.inr (.inr ())), .inr (.inr (.inr ())), .inr (.inr (.inr ())), .inr (.inr (.inl (9, 14, a5))), .inl x6] [] M :=
  f_go (KC := f_kc [(48, f_pl [(4433, 0, 7), (0, 0, 0), (0, 0, 0), (0, 0, 0), (0, 0, 0), (3, 9, 14), (1, 0, 0)] [] (fun ls st M => k48 (f_va (f_nth ls 5)) (f_vi (f_nth ls 6)) M))]) C qX0_recordSalef (f_kc_cons (f_pl_ok rfl (fun ls st M h => h48 _ _ M h)) f_kc_nil) 45 26 h
set_option maxRecDepth 20000 in
theorem BX0_recordSale {sh : Nat → Nat × Nat} {t : Nat} {rm : Nat × Nat × Nat} {cs : Nat × Nat} {R : f_Rt} {c_X0_make : Int → e_M → (Nat → e_M → Prop) → Prop} {c_X8_add : Nat → Int → e_M → (e_M → Prop) → Prop} {k48 : Nat → Int → e_M → Prop} {x1 : Int} {x3 : Int} {M : e_M} (C : f_Hy sh t yX0_recordSale rm cs 7 (lX0_recordSale c_X0_make c_X8_add) R) (h48 : ∀ (a5 : Nat) (x6 : Int) (M : e_M), k48 a5 x6 M → f_E sh t YX0_recordSale rm cs (f_Q sh t R) 48 [.inr (.inr (.inl (0, 7, 4423))), .inr (.inr (.inr ())), .inr (.inr (.inr ())), .inr (.inr (.inr ())), .inr (.inr (.inr ())), .inr (.inr (.inl (9, 14, a5))), .inl x6] [] M) (h : VX0_recordSale c_X0_make c_X8_add k48 (fun M => R none M) x1 x3 M) : f_E sh t YX0_recordSale rm cs (f_Q sh t R) 0 [.inr (.inr (.inl (0, 7, 4423))), .inr (.inl x1), .inr (.inr (.inr ())), .inr (.inl x3), .inr (.inr (.inr ())), .inr (.inr (.inr ())), .inr (.inr (.inr ()))] [] M :=
  f_go (KC := f_kc [(48, f_pl [(4433, 0, 7), (0, 0, 0), (0, 0, 0), (0, 0, 0), (0, 0, 0), (3, 9, 14), (1, 0, 0)] [] (fun ls st M => k48 (f_va (f_nth ls 5)) (f_vi (f_nth ls 6)) M))]) C qX0_recordSalef (f_kc_cons (f_pl_ok rfl (fun ls st M h => h48 _ _ M h)) f_kc_nil) 45 0 h
def WX0_recordSale_48 (Q : e_M → Prop) : Nat → Nat → Int → e_M → Prop
  | 0, _, _, _ => False
  | n + 1, a5, x6, M =>
    VX0_recordSale_48 WX0_make WX8_add (WX0_recordSale_48 Q n) Q a5 x6 M
def WX0_recordSale (x1 : Int) (x3 : Int) (M : e_M) (Q : e_M → Prop) : Prop :=
  VX0_recordSale WX0_make WX8_add (fun a5 x6 M => ∃ j, WX0_recordSale_48 Q j a5 x6 M) Q x1 x3 M
theorem PX0_recordSale_48 {sh : Nat → Nat × Nat} {t : Nat} {rm : Nat × Nat × Nat} {cs : Nat × Nat} {R : f_Rt} (C : f_Hy sh t yX0_recordSale rm cs 7 (lX0_recordSale WX0_make WX8_add) R) : ∀ (n : Nat) (a5 : Nat) (x6 : Int) (M : e_M), WX0_recordSale_48 (fun M => R none M) n a5 x6 M → f_E sh t YX0_recordSale rm cs (f_Q sh t R) 48 [.inr (.inr (.inl (0, 7, 4423))), .inr (.inr (.inr ())), .inr (.inr (.inr ())), .inr (.inr (.inr ())), .inr (.inr (.inr ())), .inr (.inr (.inl (9, 14, a5))), .inl x6] [] M := by
  intro n
  induction n with
  | zero => intro a5 x6 M h; exact h.elim
  | succ n ih => intro a5 x6 M h; exact BX0_recordSale_48 C ih h
theorem PX0_recordSale {sh : Nat → Nat × Nat} {t : Nat} {rm : Nat × Nat × Nat} {cs : Nat × Nat} {R : f_Rt} {x1 : Int} {x3 : Int} {M : e_M} (C : f_Hy sh t yX0_recordSale rm cs 7 (lX0_recordSale WX0_make WX8_add) R) (h : WX0_recordSale x1 x3 M (fun M => R none M)) : f_E sh t YX0_recordSale rm cs (f_Q sh t R) 0 [.inr (.inr (.inl (0, 7, 4423))), .inr (.inl x1), .inr (.inr (.inr ())), .inr (.inl x3), .inr (.inr (.inr ())), .inr (.inr (.inr ())), .inr (.inr (.inr ()))] [] M :=
  BX0_recordSale C (fun a5 x6 M ⟨j, h⟩ => PX0_recordSale_48 C j _ _ _ h) h
def wX0_recordSale : f_Wt := f_wm [(4433, 0, 7), (2, 0, 0), (2, 0, 0)] (fun ar M R => WX0_recordSale (f_vi (f_nth ar 1)) (f_vi (f_nth ar 2)) M (fun M => R none M))
theorem TX0_recordSale {sh : Nat → Nat × Nat} {t : Nat} : f_Mt sh t YX0_recordSale 7 (wX0_recordSale) :=
  f_Mt_of (k := 2) (Nat.le_of_ble_eq_true rfl) rfl rfl (fun ar M R rm cs h1 h2 h3 hX h => PX0_recordSale ⟨Nat.le_of_ble_eq_true rfl, h1, h2, h3, ⟨(f_Mt.up (Nat.le_of_ble_eq_true rfl) TX0_make), (f_Mt.up (Nat.le_of_ble_eq_true rfl) TX8_add), trivial⟩, hX⟩ h)
def VX0_sell_61 (c_X10_lot : Nat → Int → e_M → (Nat → Prop) → Prop) (c_X4_placeOf : Nat → Int → e_M → (Int → Prop) → Prop) (c_X10_isAble : Nat → Int → e_M → (Int → Prop) → Prop) (c_X0_arePartsMixed : Int → Int → e_M → (Int → Prop) → Prop) (c_X2_isWhole : Nat → e_M → (Int → Prop) → Prop) (c_X0_isBarred : Int → Int → e_M → (Int → Prop) → Prop) (c_X4_copyOwners : Nat → Nat → e_M → (e_M → Prop) → Prop) (c_X4_takeOff : Nat → Int → Int → Int → e_M → (Int → e_M → Prop) → Prop) (c_X4_give : Nat → Int → Int → Int → e_M → (e_M → Prop) → Prop) (c_X4_isTooFine : Nat → e_M → (Int → Prop) → Prop) (c_X10_isFull : Nat → Int → e_M → (Int → Prop) → Prop) (c_X0_recordSale : Int → Int → e_M → (e_M → Prop) → Prop) (k84 : Nat → Int → Int → Int → Int → e_M → Prop) (Q : Int → e_M → Prop) (a1 : Nat) (x2 : Int) (x3 : Int) (xs0 : Int) (M : e_M) : Prop :=
  ((xs0 = 0 → (k84 a1 x2 x3 xs0 (M ((M 4423 1).toNat) 11) M)) ∧ (¬ xs0 = 0 → ((0 ≤ x3 ∧ x3 < 14) ∧ (k84 a1 x2 x3 xs0 (M (a1 + 7) (x3.toNat)) M))))
def VX0_sell_84 (c_X10_lot : Nat → Int → e_M → (Nat → Prop) → Prop) (c_X4_placeOf : Nat → Int → e_M → (Int → Prop) → Prop) (c_X10_isAble : Nat → Int → e_M → (Int → Prop) → Prop) (c_X0_arePartsMixed : Int → Int → e_M → (Int → Prop) → Prop) (c_X2_isWhole : Nat → e_M → (Int → Prop) → Prop) (c_X0_isBarred : Int → Int → e_M → (Int → Prop) → Prop) (c_X4_copyOwners : Nat → Nat → e_M → (e_M → Prop) → Prop) (c_X4_takeOff : Nat → Int → Int → Int → e_M → (Int → e_M → Prop) → Prop) (c_X4_give : Nat → Int → Int → Int → e_M → (e_M → Prop) → Prop) (c_X4_isTooFine : Nat → e_M → (Int → Prop) → Prop) (c_X10_isFull : Nat → Int → e_M → (Int → Prop) → Prop) (c_X0_recordSale : Int → Int → e_M → (e_M → Prop) → Prop) (k107 : Nat → Int → Int → Int → Int → e_M → Prop) (Q : Int → e_M → Prop) (a1 : Nat) (x2 : Int) (x3 : Int) (x4 : Int) (xs0 : Int) (M : e_M) : Prop :=
  ((x4 = 0 → (k107 a1 x2 x3 xs0 (M ((M 4423 1).toNat) 12) M)) ∧ (¬ x4 = 0 → ((0 ≤ x3 ∧ x3 < 14) ∧ (k107 a1 x2 x3 xs0 (M (a1 + 8) (x3.toNat)) M))))
def VX0_sell_107 (c_X10_lot : Nat → Int → e_M → (Nat → Prop) → Prop) (c_X4_placeOf : Nat → Int → e_M → (Int → Prop) → Prop) (c_X10_isAble : Nat → Int → e_M → (Int → Prop) → Prop) (c_X0_arePartsMixed : Int → Int → e_M → (Int → Prop) → Prop) (c_X2_isWhole : Nat → e_M → (Int → Prop) → Prop) (c_X0_isBarred : Int → Int → e_M → (Int → Prop) → Prop) (c_X4_copyOwners : Nat → Nat → e_M → (e_M → Prop) → Prop) (c_X4_takeOff : Nat → Int → Int → Int → e_M → (Int → e_M → Prop) → Prop) (c_X4_give : Nat → Int → Int → Int → e_M → (e_M → Prop) → Prop) (c_X4_isTooFine : Nat → e_M → (Int → Prop) → Prop) (c_X10_isFull : Nat → Int → e_M → (Int → Prop) → Prop) (c_X0_recordSale : Int → Int → e_M → (e_M → Prop) → Prop) (k193 : Nat → Int → Int → Int → e_M → Prop) (Q : Int → e_M → Prop) (a1 : Nat) (x2 : Int) (x3 : Int) (x5 : Int) (xs0 : Int) (M : e_M) : Prop :=
  ((0 ≤ x3 ∧ x3 < 14) ∧ ((0 ≤ x3 ∧ x3 < 14) ∧ (((e_w64 ((M (a1 + 7) (x3.toNat)) * xs0)) < (e_w64 (x5 * (M (a1 + 8) (x3.toNat)))) → (Q 6 M)) ∧ ((e_w64 (x5 * (M (a1 + 8) (x3.toNat)))) ≤ (e_w64 ((M (a1 + 7) (x3.toNat)) * xs0)) → (c_X0_arePartsMixed 2 x2 M (fun r1 => ((¬ r1 = 0 → (Q 6 M)) ∧ (r1 = 0 → (c_X2_isWhole ((M 4423 1).toNat) M (fun r2 => ((¬ r2 = 0 → ((0 ≤ (0 : Int) ∧ (0 : Int) < 8) ∧ (c_X0_isBarred (M 4425 ((0 : Int).toNat)) x2 M (fun r3 => ((r3 = 0 → (c_X4_copyOwners 4443 a1 M (fun M4 => (c_X4_takeOff 4443 x2 x5 xs0 M4 (fun r5 M6 => (k193 a1 x5 xs0 0 M6)))))) ∧ (¬ r3 = 0 → (Q 4 M))))))) ∧ (r2 = 0 → (Q 6 M)))))))))))))
def VX0_sell_193 (c_X10_lot : Nat → Int → e_M → (Nat → Prop) → Prop) (c_X4_placeOf : Nat → Int → e_M → (Int → Prop) → Prop) (c_X10_isAble : Nat → Int → e_M → (Int → Prop) → Prop) (c_X0_arePartsMixed : Int → Int → e_M → (Int → Prop) → Prop) (c_X2_isWhole : Nat → e_M → (Int → Prop) → Prop) (c_X0_isBarred : Int → Int → e_M → (Int → Prop) → Prop) (c_X4_copyOwners : Nat → Nat → e_M → (e_M → Prop) → Prop) (c_X4_takeOff : Nat → Int → Int → Int → e_M → (Int → e_M → Prop) → Prop) (c_X4_give : Nat → Int → Int → Int → e_M → (e_M → Prop) → Prop) (c_X4_isTooFine : Nat → e_M → (Int → Prop) → Prop) (c_X10_isFull : Nat → Int → e_M → (Int → Prop) → Prop) (c_X0_recordSale : Int → Int → e_M → (e_M → Prop) → Prop) (k193 : Nat → Int → Int → Int → e_M → Prop) (Q : Int → e_M → Prop) (a1 : Nat) (x5 : Int) (x7 : Int) (x9 : Int) (M : e_M) : Prop :=
  (((M ((M 4423 1).toNat) 15) ≤ x9 → (c_X4_isTooFine 4443 M (fun r1 => ((r1 = 0 → ((8 < (M 4443 8) → (Q 7 M)) ∧ ((M 4443 8) ≤ 8 → (c_X10_isFull ((M 4423 0).toNat) 7 M (fun r2 => ((r2 = 0 → (c_X4_copyOwners a1 4443 M (fun M3 => (∀ M4 : e_M, M4 = e_up M3 a1 2 (M3 ((M3 4423 1).toNat) 9) → (c_X0_recordSale x5 x7 M4 (fun M5 => (Q 0 M5))))))) ∧ (¬ r2 = 0 → (Q 7 M)))))))) ∧ (¬ r1 = 0 → (Q 6 M)))))) ∧ (x9 < (M ((M 4423 1).toNat) 15) → ((0 ≤ (e_w32 (x9 + 2)) ∧ (e_w32 (x9 + 2)) < 8) ∧ ((0 ≤ x9 ∧ x9 < 6) ∧ ((0 ≤ x9 ∧ x9 < 6) ∧ (c_X4_give 4443 (M 4425 ((e_w32 (x9 + 2)).toNat)) (e_w64 (x5 * (M ((M 4423 1).toNat + 3) (x9.toNat)))) (e_w64 (x7 * (M ((M 4423 1).toNat + 4) (x9.toNat)))) M (fun M6 => (k193 a1 x5 x7 (e_w32 (x9 + 1)) M6))))))))
def VX0_sell (c_X10_lot : Nat → Int → e_M → (Nat → Prop) → Prop) (c_X4_placeOf : Nat → Int → e_M → (Int → Prop) → Prop) (c_X10_isAble : Nat → Int → e_M → (Int → Prop) → Prop) (c_X0_arePartsMixed : Int → Int → e_M → (Int → Prop) → Prop) (c_X2_isWhole : Nat → e_M → (Int → Prop) → Prop) (c_X0_isBarred : Int → Int → e_M → (Int → Prop) → Prop) (c_X4_copyOwners : Nat → Nat → e_M → (e_M → Prop) → Prop) (c_X4_takeOff : Nat → Int → Int → Int → e_M → (Int → e_M → Prop) → Prop) (c_X4_give : Nat → Int → Int → Int → e_M → (e_M → Prop) → Prop) (c_X4_isTooFine : Nat → e_M → (Int → Prop) → Prop) (c_X10_isFull : Nat → Int → e_M → (Int → Prop) → Prop) (c_X0_recordSale : Int → Int → e_M → (e_M → Prop) → Prop) (k61 : Nat → Int → Int → Int → e_M → Prop) (Q : Int → e_M → Prop) (M : e_M) : Prop :=
  ((0 ≤ (0 : Int) ∧ (0 : Int) < 8) ∧ (c_X10_lot ((M 4423 0).toNat) (M 4425 ((0 : Int).toNat)) M (fun r1 => ((0 ≤ (1 : Int) ∧ (1 : Int) < 8) ∧ (c_X4_placeOf r1 (M 4425 ((1 : Int).toNat)) M (fun r2 => (c_X10_isAble ((M 4423 0).toNat) (M 4425 ((1 : Int).toNat)) M (fun r3 => ((r3 = 0 → (Q 2 M)) ∧ (¬ r3 = 0 → ((0 ≤ r2 → ((¬ (M ((M 4423 1).toNat) 11) = 0 → (k61 r1 (M 4425 ((1 : Int).toNat)) r2 0 M)) ∧ ((M ((M 4423 1).toNat) 11) = 0 → (k61 r1 (M 4425 ((1 : Int).toNat)) r2 1 M)))) ∧ (r2 < 0 → (Q 2 M)))))))))))))
def yX0_sell (i : Nat) : e_Y := x_get YX0_sell [YX10_lot, YX4_placeOf, YX10_isAble, YX0_arePartsMixed, YX2_isWhole, YX0_isBarred, YX4_copyOwners, YX4_takeOff, YX4_give, YX4_isTooFine, YX10_isFull, YX0_recordSale] i
def pX0_sellf : List x_I := [(0, 4, 1, 0, 0, 0, []), (1, 25, 0, 0, 4, 0, [(0, 10, 15), (0, 0, 0)]), (4, 4, 1, 0, 0, 0, []), (5, 25, 0, 4, 4, 0, [(0, 20, 8), (0, 1, 2)]), (8, 0, 1, 0, 0, 0, []), (9, 27, 0, 0, 0, 0, []), (10, 40, 0, 2, 12, 0, []), (13, 7, 1, 1, 0, 0, []), (14, 4, 1, 0, 0, 0, []), (15, 25, 0, 4, 4, 0, [(0, 20, 8), (0, 1, 2)]), (18, 0, 1, 0, 0, 1, []), (19, 27, 0, 0, 0, 0, []), (20, 5, 1, 2, 0, 0, []), (21, 4, 1, 1, 0, 0, []), (22, 2, 1, 2, 0, 0, []), (23, 40, 1, 2, 6, 0, []), (26, 5, 1, 3, 0, 0, []), (27, 4, 1, 0, 0, 0, []), (28, 25, 0, 0, 4, 0, [(0, 10, 15), (0, 0, 0)]), (31, 2, 1, 2, 0, 0, []), (32, 40, 2, 2, 12, 0, []), (35, 17, 42, 0, 25, 0, []), (38, 2, 1, 3, 0, 0, []), (39, 17, 44, 3, 27, 0, []), (42, 0, 1, 0, 0, 2, []), (43, 41, 0, 0, 0, 0, []), (44, 4, 1, 0, 0, 0, []), (45, 25, 0, 1, 4, 0, [(0, 2, 19), (0, 0, 0)]), (48, 25, 2, 11, 3, 0, []), (51, 1, 1, 0, 0, 0, []), (52, 32, 60, 1, 34, 0, []), (56, 0, 1, 0, 0, 1, []), (57, 19, 61, 0, 35, 0, []), (60, 0, 1, 0, 0, 0, []), (61, 49, 0, 0, 0, 0, []), (61, 5, 2, 4, 0, 0, []), (63, 2, 2, 4, 0, 0, []), (65, 17, 77, 0, 44, 0, []), (68, 4, 1, 1, 0, 0, []), (69, 25, 4, 6, 4, 0, [(0, 23, 14), (0, 1, 7)]), (72, 2, 1, 3, 0, 0, []), (73, 27, 0, 1, 0, 0, []), (74, 19, 84, 0, 47, 0, []), (77, 4, 1, 0, 0, 0, []), (78, 25, 0, 1, 4, 0, [(0, 2, 19), (0, 0, 0)]), (81, 25, 2, 11, 3, 0, []), (84, 49, 0, 0, 0, 0, []), (84, 6, 2, 5, 0, 0, []), (86, 2, 2, 4, 0, 0, []), (88, 17, 100, 0, 56, 0, []), (91, 4, 1, 1, 0, 0, []), (92, 25, 4, 7, 4, 0, [(0, 23, 14), (0, 1, 8)]), (95, 2, 1, 3, 0, 0, []), (96, 27, 0, 1, 0, 0, []), (97, 19, 107, 0, 59, 0, []), (100, 4, 1, 0, 0, 0, []), (101, 25, 0, 1, 4, 0, [(0, 2, 19), (0, 0, 0)]), (104, 25, 2, 12, 3, 0, []), (107, 49, 0, 0, 0, 0, []), (107, 6, 2, 7, 0, 0, []), (109, 4, 1, 1, 0, 0, []), (110, 25, 4, 6, 4, 0, [(0, 23, 14), (0, 1, 7)]), (113, 2, 1, 3, 0, 0, []), (114, 27, 0, 1, 0, 0, []), (115, 3, 2, 7, 0, 0, []), (117, 10, 0, 2, 0, 0, []), (118, 3, 2, 5, 0, 0, []), (120, 4, 1, 1, 0, 0, []), (121, 25, 4, 7, 4, 0, [(0, 23, 14), (0, 1, 8)]), (124, 2, 1, 3, 0, 0, []), (125, 27, 0, 1, 0, 0, []), (126, 10, 0, 2, 0, 0, []), (127, 32, 150, 2, 83, 0, []), (131, 4, 1, 0, 0, 0, []), (132, 0, 1, 0, 0, 2, []), (133, 2, 1, 2, 0, 0, []), (134, 40, 3, 3, 2, 0, []), (137, 17, 150, 1, 83, 0, []), (140, 4, 1, 0, 0, 0, []), (141, 25, 0, 1, 4, 0, [(0, 2, 19), (0, 0, 0)]), (144, 40, 4, 1, 4, 0, []), (147, 17, 153, 1, 85, 0, []), (150, 0, 2, 0, 0, 6, []), (152, 41, 0, 0, 0, 0, []), (153, 4, 1, 0, 0, 0, []), (154, 4, 1, 0, 0, 0, []), (155, 25, 0, 4, 4, 0, [(0, 20, 8), (0, 1, 2)]), (158, 0, 1, 0, 0, 0, []), (159, 27, 0, 0, 0, 0, []), (160, 2, 1, 2, 0, 0, []), (161, 40, 5, 3, 2, 0, []), (164, 17, 169, 0, 95, 0, []), (167, 0, 1, 0, 0, 4, []), (168, 41, 0, 0, 0, 0, []), (169, 4, 1, 0, 0, 0, []), (170, 25, 0, 6, 4, 0, [(0, 4, 9), (0, 1, 20)]), (173, 4, 1, 1, 0, 0, []), (174, 40, 6, 2, 6, 0, []), (177, 4, 1, 0, 0, 0, []), (178, 25, 0, 6, 4, 0, [(0, 4, 9), (0, 1, 20)]), (181, 2, 1, 2, 0, 0, []), (182, 3, 2, 5, 0, 0, []), (184, 3, 2, 7, 0, 0, []), (186, 40, 7, 4, 6, 0, []), (189, 21, 0, 0, 0, 0, []), (190, 0, 1, 0, 0, 0, []), (191, 5, 2, 9, 0, 0, []), (193, 49, 0, 0, 0, 0, []), (193, 2, 2, 9, 0, 0, []), (195, 4, 1, 0, 0, 0, []), (196, 25, 0, 1, 4, 0, [(0, 2, 19), (0, 0, 0)]), (199, 25, 2, 15, 0, 0, []), (202, 18, 253, 3, 139, 0, []), (205, 4, 1, 0, 0, 0, []), (206, 25, 0, 6, 4, 0, [(0, 4, 9), (0, 1, 20)]), (209, 4, 1, 0, 0, 0, []), (210, 25, 0, 4, 4, 0, [(0, 20, 8), (0, 1, 2)]), (213, 2, 2, 9, 0, 0, []), (215, 0, 1, 0, 0, 2, []), (216, 9, 0, 0, 0, 0, []), (217, 27, 0, 0, 0, 0, []), (218, 3, 2, 5, 0, 0, []), (220, 4, 1, 0, 0, 0, []), (221, 25, 0, 1, 4, 0, [(0, 2, 19), (0, 0, 0)]), (224, 25, 2, 13, 4, 0, [(0, 23, 6), (0, 1, 3)]), (227, 2, 2, 9, 0, 0, []), (229, 27, 0, 1, 0, 0, []), (230, 10, 0, 2, 0, 0, []), (231, 3, 2, 7, 0, 0, []), (233, 4, 1, 0, 0, 0, []), (234, 25, 0, 1, 4, 0, [(0, 2, 19), (0, 0, 0)]), (237, 25, 2, 14, 4, 0, [(0, 23, 6), (0, 1, 4)]), (240, 2, 2, 9, 0, 0, []), (242, 27, 0, 1, 0, 0, []), (243, 10, 0, 2, 0, 0, []), (244, 40, 8, 4, 6, 0, []), (247, 8, 0, 9, 0, 1, []), (250, 19, 193, 0, 108, 0, []), (253, 4, 1, 0, 0, 0, []), (254, 25, 0, 6, 4, 0, [(0, 4, 9), (0, 1, 20)]), (257, 40, 9, 1, 6, 0, []), (260, 17, 266, 0, 145, 0, []), (263, 0, 2, 0, 0, 6, []), (265, 41, 0, 0, 0, 0, []), (266, 4, 1, 0, 0, 0, []), (267, 25, 0, 6, 4, 0, [(0, 4, 9), (0, 1, 20)]), (270, 25, 4, 8, 0, 0, []), (273, 0, 2, 0, 0, 8, []), (275, 18, 290, 4, 155, 0, []), (278, 4, 1, 0, 0, 0, []), (279, 25, 0, 0, 4, 0, [(0, 10, 15), (0, 0, 0)]), (282, 0, 2, 0, 0, 7, []), (284, 40, 10, 2, 12, 0, []), (287, 17, 293, 0, 157, 0, []), (290, 0, 2, 0, 0, 7, []), (292, 41, 0, 0, 0, 0, []), (293, 4, 1, 1, 0, 0, []), (294, 4, 1, 0, 0, 0, []), (295, 25, 0, 6, 4, 0, [(0, 4, 9), (0, 1, 20)]), (298, 40, 6, 2, 6, 0, []), (301, 4, 1, 1, 0, 0, []), (302, 4, 1, 0, 0, 0, []), (303, 25, 0, 1, 4, 0, [(0, 2, 19), (0, 0, 0)]), (306, 25, 2, 9, 0, 0, []), (309, 26, 4, 2, 0, 0, []), (312, 4, 1, 0, 0, 0, []), (313, 3, 2, 5, 0, 0, []), (315, 3, 2, 7, 0, 0, []), (317, 40, 11, 3, 2, 0, []), (320, 0, 1, 0, 0, 0, []), (321, 41, 0, 0, 0, 0, [])]
set_option maxRecDepth 20000 in
theorem qX0_sellf : f_all yX0_sell YX0_sell pX0_sellf :=
  ⟨f_aload_n (n := 0) (e_dx DX0_sell_0 0 rfl) rfl,
  f_getA (e_dx DX0_sell_0 1 rfl) fX0_36 rfl (by decide) (Nat.le_of_ble_eq_true rfl) rfl (by decide),
  f_aload_n (n := 0) (e_dx DX0_sell_0 2 rfl) rfl,
  f_getA (e_dx DX0_sell_0 3 rfl) fX0_19 rfl (by decide) (Nat.le_of_ble_eq_true rfl) rfl (by decide),
  f_iconst (e_dx DX0_sell_0 4 rfl) ⟨by decide, by decide⟩,
  f_iaload (e_dx DX0_sell_0 5 rfl),
  x_callV (e_dx DX0_sell_0 6 rfl) mwX10_lot vwX10_lot cX0_161 rfl,
  f_astore_n (n := 1) (e_dx DX0_sell_0 7 rfl) rfl (by decide),
  f_aload_n (n := 0) (e_dx DX0_sell_0 8 rfl) rfl,
  f_getA (e_dx DX0_sell_0 9 rfl) fX0_19 rfl (by decide) (Nat.le_of_ble_eq_true rfl) rfl (by decide),
  f_iconst (e_dx DX0_sell_0 10 rfl) ⟨by decide, by decide⟩,
  f_iaload (e_dx DX0_sell_0 11 rfl),
  f_istore_n (n := 2) (e_dx DX0_sell_0 12 rfl) rfl (by decide),
  f_aload_n (n := 1) (e_dx DX0_sell_0 13 rfl) rfl,
  f_iload_n (n := 2) (e_dx DX0_sell_0 14 rfl) rfl,
  x_callV (e_dx DX0_sell_0 15 rfl) mwX4_placeOf vwX4_placeOf cX0_244 rfl,
  f_istore_n (n := 3) (e_dx DX0_sell_0 16 rfl) rfl (by decide),
  f_aload_n (n := 0) (e_dx DX0_sell_0 17 rfl) rfl,
  f_getA (e_dx DX0_sell_0 18 rfl) fX0_36 rfl (by decide) (Nat.le_of_ble_eq_true rfl) rfl (by decide),
  f_iload_n (n := 2) (e_dx DX0_sell_0 19 rfl) rfl,
  x_callV (e_dx DX0_sell_0 20 rfl) mwX10_isAble vwX10_isAble cX0_171 rfl,
  f_if_eq (e_dx DX0_sell_0 21 rfl) rfl,
  f_iload_n (n := 3) (e_dx DX0_sell_0 22 rfl) rfl,
  f_if_ge (e_dx DX0_sell_0 23 rfl) rfl,
  f_iconst (e_dx DX0_sell_0 24 rfl) ⟨by decide, by decide⟩,
  ⟨(e_dx DX0_sell_0 25 rfl), rfl⟩,
  f_aload_n (n := 0) (e_dx DX0_sell_0 26 rfl) rfl,
  f_getA (e_dx DX0_sell_0 27 rfl) fX0_40 rfl (by decide) (Nat.le_of_ble_eq_true rfl) rfl (by decide),
  f_getL (e_dx DX0_sell_0 28 rfl) fX0_268 rfl (by decide),
  f_lconst (n := 0) (e_dx DX0_sell_0 29 rfl) rfl,
  f_lif_ne (e_dx DX0_sell_0 30 rfl) (e_dx DX0_sell_0 31 rfl) rfl,
  f_iconst (e_dx DX0_sell_0 32 rfl) ⟨by decide, by decide⟩,
  f_g19 (e_dx DX0_sell_0 33 rfl) rfl,
  f_iconst (e_dx DX0_sell_0 34 rfl) ⟨by decide, by decide⟩,
  trivial,
  f_istore (e_dx DX0_sell_0 35 rfl) (by decide),
  f_iload (e_dx DX0_sell_0 36 rfl),
  f_if_eq (e_dx DX0_sell_0 37 rfl) rfl,
  f_aload_n (n := 1) (e_dx DX0_sell_0 38 rfl) rfl,
  f_getA (e_dx DX0_sell_0 39 rfl) fX0_248 rfl (by decide) (Nat.le_of_ble_eq_true rfl) rfl (by decide),
  f_iload_n (n := 3) (e_dx DX0_sell_1 0 rfl) rfl,
  f_laload (e_dx DX0_sell_1 1 rfl),
  f_g19 (e_dx DX0_sell_1 2 rfl) rfl,
  f_aload_n (n := 0) (e_dx DX0_sell_1 3 rfl) rfl,
  f_getA (e_dx DX0_sell_1 4 rfl) fX0_40 rfl (by decide) (Nat.le_of_ble_eq_true rfl) rfl (by decide),
  f_getL (e_dx DX0_sell_1 5 rfl) fX0_268 rfl (by decide),
  trivial,
  f_lstore (e_dx DX0_sell_1 6 rfl) (by decide),
  f_iload (e_dx DX0_sell_1 7 rfl),
  f_if_eq (e_dx DX0_sell_1 8 rfl) rfl,
  f_aload_n (n := 1) (e_dx DX0_sell_1 9 rfl) rfl,
  f_getA (e_dx DX0_sell_1 10 rfl) fX0_251 rfl (by decide) (Nat.le_of_ble_eq_true rfl) rfl (by decide),
  f_iload_n (n := 3) (e_dx DX0_sell_1 11 rfl) rfl,
  f_laload (e_dx DX0_sell_1 12 rfl),
  f_g19 (e_dx DX0_sell_1 13 rfl) rfl,
  f_aload_n (n := 0) (e_dx DX0_sell_1 14 rfl) rfl,
  f_getA (e_dx DX0_sell_1 15 rfl) fX0_40 rfl (by decide) (Nat.le_of_ble_eq_true rfl) rfl (by decide),
  f_getL (e_dx DX0_sell_1 16 rfl) fX0_272 rfl (by decide),
  trivial,
  f_lstore (e_dx DX0_sell_1 17 rfl) (by decide),
  f_aload_n (n := 1) (e_dx DX0_sell_1 18 rfl) rfl,
  f_getA (e_dx DX0_sell_1 19 rfl) fX0_248 rfl (by decide) (Nat.le_of_ble_eq_true rfl) rfl (by decide),
  f_iload_n (n := 3) (e_dx DX0_sell_1 20 rfl) rfl,
  f_laload (e_dx DX0_sell_1 21 rfl),
  f_lload (e_dx DX0_sell_1 22 rfl),
  f_lmul (e_dx DX0_sell_1 23 rfl),
  f_lload (e_dx DX0_sell_1 24 rfl),
  f_aload_n (n := 1) (e_dx DX0_sell_1 25 rfl) rfl,
  f_getA (e_dx DX0_sell_1 26 rfl) fX0_251 rfl (by decide) (Nat.le_of_ble_eq_true rfl) rfl (by decide),
  f_iload_n (n := 3) (e_dx DX0_sell_1 27 rfl) rfl,
  f_laload (e_dx DX0_sell_1 28 rfl),
  f_lmul (e_dx DX0_sell_1 29 rfl),
  f_lif_lt (e_dx DX0_sell_1 30 rfl) (e_dx DX0_sell_1 31 rfl) rfl,
  f_aload_n (n := 0) (e_dx DX0_sell_1 32 rfl) rfl,
  f_iconst (e_dx DX0_sell_1 33 rfl) ⟨by decide, by decide⟩,
  f_iload_n (n := 2) (e_dx DX0_sell_1 34 rfl) rfl,
  x_callV (e_dx DX0_sell_1 35 rfl) mwX0_arePartsMixed vwX0_arePartsMixed cX0_220 rfl,
  f_if_ne (e_dx DX0_sell_1 36 rfl) rfl,
  f_aload_n (n := 0) (e_dx DX0_sell_1 37 rfl) rfl,
  f_getA (e_dx DX0_sell_1 38 rfl) fX0_40 rfl (by decide) (Nat.le_of_ble_eq_true rfl) rfl (by decide),
  x_callV (e_dx DX0_sell_1 39 rfl) mwX2_isWhole vwX2_isWhole cX0_223 rfl,
  f_if_ne (e_dx DX0_sell_2 0 rfl) rfl,
  f_bipush (e_dx DX0_sell_2 1 rfl) ⟨by decide, by decide⟩,
  ⟨(e_dx DX0_sell_2 2 rfl), rfl⟩,
  f_aload_n (n := 0) (e_dx DX0_sell_2 3 rfl) rfl,
  f_aload_n (n := 0) (e_dx DX0_sell_2 4 rfl) rfl,
  f_getA (e_dx DX0_sell_2 5 rfl) fX0_19 rfl (by decide) (Nat.le_of_ble_eq_true rfl) rfl (by decide),
  f_iconst (e_dx DX0_sell_2 6 rfl) ⟨by decide, by decide⟩,
  f_iaload (e_dx DX0_sell_2 7 rfl),
  f_iload_n (n := 2) (e_dx DX0_sell_2 8 rfl) rfl,
  x_callV (e_dx DX0_sell_2 9 rfl) mwX0_isBarred vwX0_isBarred cX0_275 rfl,
  f_if_eq (e_dx DX0_sell_2 10 rfl) rfl,
  f_iconst (e_dx DX0_sell_2 11 rfl) ⟨by decide, by decide⟩,
  ⟨(e_dx DX0_sell_2 12 rfl), rfl⟩,
  f_aload_n (n := 0) (e_dx DX0_sell_2 13 rfl) rfl,
  f_getA (e_dx DX0_sell_2 14 rfl) fX0_32 rfl (by decide) (Nat.le_of_ble_eq_true rfl) rfl (by decide),
  f_aload_n (n := 1) (e_dx DX0_sell_2 15 rfl) rfl,
  x_callV (e_dx DX0_sell_2 16 rfl) mwX4_copyOwners vwX4_copyOwners cX0_232 rfl,
  f_aload_n (n := 0) (e_dx DX0_sell_2 17 rfl) rfl,
  f_getA (e_dx DX0_sell_2 18 rfl) fX0_32 rfl (by decide) (Nat.le_of_ble_eq_true rfl) rfl (by decide),
  f_iload_n (n := 2) (e_dx DX0_sell_2 19 rfl) rfl,
  f_lload (e_dx DX0_sell_2 20 rfl),
  f_lload (e_dx DX0_sell_2 21 rfl),
  x_callV (e_dx DX0_sell_2 22 rfl) mwX4_takeOff vwX4_takeOff cX0_254 rfl,
  f_g21 (e_dx DX0_sell_2 23 rfl),
  f_iconst (e_dx DX0_sell_2 24 rfl) ⟨by decide, by decide⟩,
  f_istore (e_dx DX0_sell_2 25 rfl) (by decide),
  trivial,
  f_iload (e_dx DX0_sell_2 26 rfl),
  f_aload_n (n := 0) (e_dx DX0_sell_2 27 rfl) rfl,
  f_getA (e_dx DX0_sell_2 28 rfl) fX0_40 rfl (by decide) (Nat.le_of_ble_eq_true rfl) rfl (by decide),
  f_getf (e_dx DX0_sell_2 29 rfl) fX0_217 rfl (by decide) (by decide) (by decide),
  f_icmp_ge (e_dx DX0_sell_2 30 rfl) rfl,
  f_aload_n (n := 0) (e_dx DX0_sell_2 31 rfl) rfl,
  f_getA (e_dx DX0_sell_2 32 rfl) fX0_32 rfl (by decide) (Nat.le_of_ble_eq_true rfl) rfl (by decide),
  f_aload_n (n := 0) (e_dx DX0_sell_2 33 rfl) rfl,
  f_getA (e_dx DX0_sell_2 34 rfl) fX0_19 rfl (by decide) (Nat.le_of_ble_eq_true rfl) rfl (by decide),
  f_iload (e_dx DX0_sell_2 35 rfl),
  f_iconst (e_dx DX0_sell_2 36 rfl) ⟨by decide, by decide⟩,
  f_iadd (e_dx DX0_sell_2 37 rfl),
  f_iaload (e_dx DX0_sell_2 38 rfl),
  f_lload (e_dx DX0_sell_2 39 rfl),
  f_aload_n (n := 0) (e_dx DX0_sell_3 0 rfl) rfl,
  f_getA (e_dx DX0_sell_3 1 rfl) fX0_40 rfl (by decide) (Nat.le_of_ble_eq_true rfl) rfl (by decide),
  f_getA (e_dx DX0_sell_3 2 rfl) fX0_262 rfl (by decide) (Nat.le_of_ble_eq_true rfl) rfl (by decide),
  f_iload (e_dx DX0_sell_3 3 rfl),
  f_laload (e_dx DX0_sell_3 4 rfl),
  f_lmul (e_dx DX0_sell_3 5 rfl),
  f_lload (e_dx DX0_sell_3 6 rfl),
  f_aload_n (n := 0) (e_dx DX0_sell_3 7 rfl) rfl,
  f_getA (e_dx DX0_sell_3 8 rfl) fX0_40 rfl (by decide) (Nat.le_of_ble_eq_true rfl) rfl (by decide),
  f_getA (e_dx DX0_sell_3 9 rfl) fX0_265 rfl (by decide) (Nat.le_of_ble_eq_true rfl) rfl (by decide),
  f_iload (e_dx DX0_sell_3 10 rfl),
  f_laload (e_dx DX0_sell_3 11 rfl),
  f_lmul (e_dx DX0_sell_3 12 rfl),
  x_callV (e_dx DX0_sell_3 13 rfl) mwX4_give vwX4_give cX0_258 rfl,
  f_g8 (e_dx DX0_sell_3 14 rfl) ⟨by decide, by decide⟩,
  f_g19 (e_dx DX0_sell_3 15 rfl) rfl,
  f_aload_n (n := 0) (e_dx DX0_sell_3 16 rfl) rfl,
  f_getA (e_dx DX0_sell_3 17 rfl) fX0_32 rfl (by decide) (Nat.le_of_ble_eq_true rfl) rfl (by decide),
  x_callV (e_dx DX0_sell_3 18 rfl) mwX4_isTooFine vwX4_isTooFine cX0_229 rfl,
  f_if_eq (e_dx DX0_sell_3 19 rfl) rfl,
  f_bipush (e_dx DX0_sell_3 20 rfl) ⟨by decide, by decide⟩,
  ⟨(e_dx DX0_sell_3 21 rfl), rfl⟩,
  f_aload_n (n := 0) (e_dx DX0_sell_3 22 rfl) rfl,
  f_getA (e_dx DX0_sell_3 23 rfl) fX0_32 rfl (by decide) (Nat.le_of_ble_eq_true rfl) rfl (by decide),
  f_getf (e_dx DX0_sell_3 24 rfl) fX0_165 rfl (by decide) (by decide) (by decide),
  f_bipush (e_dx DX0_sell_3 25 rfl) ⟨by decide, by decide⟩,
  f_icmp_gt (e_dx DX0_sell_3 26 rfl) rfl,
  f_aload_n (n := 0) (e_dx DX0_sell_3 27 rfl) rfl,
  f_getA (e_dx DX0_sell_3 28 rfl) fX0_36 rfl (by decide) (Nat.le_of_ble_eq_true rfl) rfl (by decide),
  f_bipush (e_dx DX0_sell_3 29 rfl) ⟨by decide, by decide⟩,
  x_callV (e_dx DX0_sell_3 30 rfl) mwX10_isFull vwX10_isFull cX0_200 rfl,
  f_if_eq (e_dx DX0_sell_3 31 rfl) rfl,
  f_bipush (e_dx DX0_sell_3 32 rfl) ⟨by decide, by decide⟩,
  ⟨(e_dx DX0_sell_3 33 rfl), rfl⟩,
  f_aload_n (n := 1) (e_dx DX0_sell_3 34 rfl) rfl,
  f_aload_n (n := 0) (e_dx DX0_sell_3 35 rfl) rfl,
  f_getA (e_dx DX0_sell_3 36 rfl) fX0_32 rfl (by decide) (Nat.le_of_ble_eq_true rfl) rfl (by decide),
  x_callV (e_dx DX0_sell_3 37 rfl) mwX4_copyOwners vwX4_copyOwners cX0_232 rfl,
  f_aload_n (n := 1) (e_dx DX0_sell_3 38 rfl) rfl,
  f_aload_n (n := 0) (e_dx DX0_sell_3 39 rfl) rfl,
  f_getA (e_dx DX0_sell_4 0 rfl) fX0_40 rfl (by decide) (Nat.le_of_ble_eq_true rfl) rfl (by decide),
  f_getf (e_dx DX0_sell_4 1 rfl) fX0_278 rfl (by decide) (by decide) (by decide),
  f_putn (e_dx DX0_sell_4 2 rfl) fX0_281 (fun q hq => by cases hq; rfl) rfl (Or.inl rfl) (by decide),
  f_aload_n (n := 0) (e_dx DX0_sell_4 3 rfl) rfl,
  f_lload (e_dx DX0_sell_4 4 rfl),
  f_lload (e_dx DX0_sell_4 5 rfl),
  x_callV (e_dx DX0_sell_4 6 rfl) mwX0_recordSale vwX0_recordSale cX0_284 rfl,
  f_iconst (e_dx DX0_sell_4 7 rfl) ⟨by decide, by decide⟩,
  ⟨(e_dx DX0_sell_4 8 rfl), rfl⟩, trivial⟩
def lX0_sell (c_X10_lot : Nat → Int → e_M → (Nat → Prop) → Prop) (c_X4_placeOf : Nat → Int → e_M → (Int → Prop) → Prop) (c_X10_isAble : Nat → Int → e_M → (Int → Prop) → Prop) (c_X0_arePartsMixed : Int → Int → e_M → (Int → Prop) → Prop) (c_X2_isWhole : Nat → e_M → (Int → Prop) → Prop) (c_X0_isBarred : Int → Int → e_M → (Int → Prop) → Prop) (c_X4_copyOwners : Nat → Nat → e_M → (e_M → Prop) → Prop) (c_X4_takeOff : Nat → Int → Int → Int → e_M → (Int → e_M → Prop) → Prop) (c_X4_give : Nat → Int → Int → Int → e_M → (e_M → Prop) → Prop) (c_X4_isTooFine : Nat → e_M → (Int → Prop) → Prop) (c_X10_isFull : Nat → Int → e_M → (Int → Prop) → Prop) (c_X0_recordSale : Int → Int → e_M → (e_M → Prop) → Prop) : List (Nat × f_Wt) := [(0, f_wm [(3, 10, 15), (1, 0, 0)] (fun ar M R => c_X10_lot (f_va (f_nth ar 0)) (f_vi (f_nth ar 1)) M (fun r => R (some (.inr (.inr (.inl (4, 9, r))))) M))), (1, f_wm [(3, 4, 9), (1, 0, 0)] (fun ar M R => c_X4_placeOf (f_va (f_nth ar 0)) (f_vi (f_nth ar 1)) M (fun r => R (some (.inl r)) M))), (2, f_wm [(3, 10, 15), (1, 0, 0)] (fun ar M R => c_X10_isAble (f_va (f_nth ar 0)) (f_vi (f_nth ar 1)) M (fun r => R (some (.inl r)) M))), (3, f_wm [(4433, 0, 7), (1, 0, 0), (1, 0, 0)] (fun ar M R => c_X0_arePartsMixed (f_vi (f_nth ar 1)) (f_vi (f_nth ar 2)) M (fun r => R (some (.inl r)) M))), (4, f_wm [(3, 2, 19)] (fun ar M R => c_X2_isWhole (f_va (f_nth ar 0)) M (fun r => R (some (.inl r)) M))), (5, f_wm [(4433, 0, 7), (1, 0, 0), (1, 0, 0)] (fun ar M R => c_X0_isBarred (f_vi (f_nth ar 1)) (f_vi (f_nth ar 2)) M (fun r => R (some (.inl r)) M))), (6, f_wm [(3, 4, 9), (3, 4, 9)] (fun ar M R => c_X4_copyOwners (f_va (f_nth ar 0)) (f_va (f_nth ar 1)) M (fun M => R none M))), (7, f_wm [(3, 4, 9), (1, 0, 0), (2, 0, 0), (2, 0, 0)] (fun ar M R => c_X4_takeOff (f_va (f_nth ar 0)) (f_vi (f_nth ar 1)) (f_vi (f_nth ar 2)) (f_vi (f_nth ar 3)) M (fun r M => R (some (.inl r)) M))), (8, f_wm [(3, 4, 9), (1, 0, 0), (2, 0, 0), (2, 0, 0)] (fun ar M R => c_X4_give (f_va (f_nth ar 0)) (f_vi (f_nth ar 1)) (f_vi (f_nth ar 2)) (f_vi (f_nth ar 3)) M (fun M => R none M))), (9, f_wm [(3, 4, 9)] (fun ar M R => c_X4_isTooFine (f_va (f_nth ar 0)) M (fun r => R (some (.inl r)) M))), (10, f_wm [(3, 10, 15), (1, 0, 0)] (fun ar M R => c_X10_isFull (f_va (f_nth ar 0)) (f_vi (f_nth ar 1)) M (fun r => R (some (.inl r)) M))), (11, f_wm [(4433, 0, 7), (2, 0, 0), (2, 0, 0)] (fun ar M R => c_X0_recordSale (f_vi (f_nth ar 1)) (f_vi (f_nth ar 2)) M (fun M => R none M)))]
set_option maxRecDepth 20000 in
theorem BX0_sell_61 {sh : Nat → Nat × Nat} {t : Nat} {rm : Nat × Nat × Nat} {cs : Nat × Nat} {R : f_Rt} {c_X10_lot : Nat → Int → e_M → (Nat → Prop) → Prop} {c_X4_placeOf : Nat → Int → e_M → (Int → Prop) → Prop} {c_X10_isAble : Nat → Int → e_M → (Int → Prop) → Prop} {c_X0_arePartsMixed : Int → Int → e_M → (Int → Prop) → Prop} {c_X2_isWhole : Nat → e_M → (Int → Prop) → Prop} {c_X0_isBarred : Int → Int → e_M → (Int → Prop) → Prop} {c_X4_copyOwners : Nat → Nat → e_M → (e_M → Prop) → Prop} {c_X4_takeOff : Nat → Int → Int → Int → e_M → (Int → e_M → Prop) → Prop} {c_X4_give : Nat → Int → Int → Int → e_M → (e_M → Prop) → Prop} {c_X4_isTooFine : Nat → e_M → (Int → Prop) → Prop} {c_X10_isFull : Nat → Int → e_M → (Int → Prop) → Prop} {c_X0_recordSale : Int → Int → e_M → (e_M → Prop) → Prop} {k84 : Nat → Int → Int → Int → Int → e_M → Prop} {a1 : Nat} {x2 : Int} {x3 : Int} {xs0 : Int} {M : e_M} (C : f_Hy sh t yX0_sell rm cs 8 (lX0_sell c_X10_lot c_X4_placeOf c_X10_isAble c_X0_arePartsMixed c_X2_isWhole c_X0_isBarred c_X4_copyOwners c_X4_takeOff c_X4_give c_X4_isTooFine c_X10_isFull c_X0_recordSale) R) (h84 : ∀ (a1 : Nat) (x2 : Int) (x3 : Int) (x4 : Int) (xs0 : Int) (M : e_M), k84 a1 x2 x3 x4 xs0 M → f_E sh t YX0_sell rm cs (f_Q sh t R) 84 [.inr (.inr (.inl (0, 7, 4423))), .inr (.inr (.inl (4, 9, a1))), .inl x2, .inl x3, .inl x4, .inr (.inr (.inr ())), .inr (.inr (.inr ())), .inr (.inr (.inr ())), .inr (.inr (.inr ())), .inr (.inr (.inr ()))] [.inr (.inl xs0)] M) (h : VX0_sell_61 c_X10_lot c_X4_placeOf c_X10_isAble c_X0_arePartsMixed c_X2_isWhole c_X0_isBarred c_X4_copyOwners c_X4_takeOff c_X4_give c_X4_isTooFine c_X10_isFull c_X0_recordSale k84 (fun r M => R (some (.inl r)) M) a1 x2 x3 xs0 M) : f_E sh t YX0_sell rm cs (f_Q sh t R) 61 [.inr (.inr (.inl (0, 7, 4423))), .inr (.inr (.inl (4, 9, a1))), .inl x2, .inl x3, .inr (.inr (.inr ())), .inr (.inr (.inr ())), .inr (.inr (.inr ())), .inr (.inr (.inr ())), .inr (.inr (.inr ())), .inr (.inr (.inr ()))] [.inl xs0] M :=
  f_go (KC := f_kc [(84, f_pl [(4433, 0, 7), (3, 4, 9), (1, 0, 0), (1, 0, 0), (1, 0, 0), (0, 0, 0), (0, 0, 0), (0, 0, 0), (0, 0, 0), (0, 0, 0)] [(2, 0, 0)] (fun ls st M => k84 (f_va (f_nth ls 1)) (f_vi (f_nth ls 2)) (f_vi (f_nth ls 3)) (f_vi (f_nth ls 4)) (f_vi (f_nth st 0)) M))]) C qX0_sellf (f_kc_cons (f_pl_ok rfl (fun ls st M h => h84 _ _ _ _ _ M h)) f_kc_nil) 173 35 h
set_option maxRecDepth 20000 in
theorem BX0_sell_84 {sh : Nat → Nat × Nat} {t : Nat} {rm : Nat × Nat × Nat} {cs : Nat × Nat} {R : f_Rt} {c_X10_lot : Nat → Int → e_M → (Nat → Prop) → Prop} {c_X4_placeOf : Nat → Int → e_M → (Int → Prop) → Prop} {c_X10_isAble : Nat → Int → e_M → (Int → Prop) → Prop} {c_X0_arePartsMixed : Int → Int → e_M → (Int → Prop) → Prop} {c_X2_isWhole : Nat → e_M → (Int → Prop) → Prop} {c_X0_isBarred : Int → Int → e_M → (Int → Prop) → Prop} {c_X4_copyOwners : Nat → Nat → e_M → (e_M → Prop) → Prop} {c_X4_takeOff : Nat → Int → Int → Int → e_M → (Int → e_M → Prop) → Prop} {c_X4_give : Nat → Int → Int → Int → e_M → (e_M → Prop) → Prop} {c_X4_isTooFine : Nat → e_M → (Int → Prop) → Prop} {c_X10_isFull : Nat → Int → e_M → (Int → Prop) → Prop} {c_X0_recordSale : Int → Int → e_M → (e_M → Prop) → Prop} {k107 : Nat → Int → Int → Int → Int → e_M → Prop} {a1 : Nat} {x2 : Int} {x3 : Int} {x4 : Int} {xs0 : Int} {M : e_M} (C : f_Hy sh t yX0_sell rm cs 8 (lX0_sell c_X10_lot c_X4_placeOf c_X10_isAble c_X0_arePartsMixed c_X2_isWhole c_X0_isBarred c_X4_copyOwners c_X4_takeOff c_X4_give c_X4_isTooFine c_X10_isFull c_X0_recordSale) R) (h107 : ∀ (a1 : Nat) (x2 : Int) (x3 : Int) (x5 : Int) (xs0 : Int) (M : e_M), k107 a1 x2 x3 x5 xs0 M → f_E sh t YX0_sell rm cs (f_Q sh t R) 107 [.inr (.inr (.inl (0, 7, 4423))), .inr (.inr (.inl (4, 9, a1))), .inl x2, .inl x3, .inr (.inr (.inr ())), .inr (.inl x5), .inr (.inr (.inr ())), .inr (.inr (.inr ())), .inr (.inr (.inr ())), .inr (.inr (.inr ()))] [.inr (.inl xs0)] M) (h : VX0_sell_84 c_X10_lot c_X4_placeOf c_X10_isAble c_X0_arePartsMixed c_X2_isWhole c_X0_isBarred c_X4_copyOwners c_X4_takeOff c_X4_give c_X4_isTooFine c_X10_isFull c_X0_recordSale k107 (fun r M => R (some (.inl r)) M) a1 x2 x3 x4 xs0 M) : f_E sh t YX0_sell rm cs (f_Q sh t R) 84 [.inr (.inr (.inl (0, 7, 4423))), .inr (.inr (.inl (4, 9, a1))), .inl x2, .inl x3, .inl x4, .inr (.inr (.inr ())), .inr (.inr (.inr ())), .inr (.inr (.inr ())), .inr (.inr (.inr ())), .inr (.inr (.inr ()))] [.inr (.inl xs0)] M :=
  f_go (KC := f_kc [(107, f_pl [(4433, 0, 7), (3, 4, 9), (1, 0, 0), (1, 0, 0), (0, 0, 0), (2, 0, 0), (0, 0, 0), (0, 0, 0), (0, 0, 0), (0, 0, 0)] [(2, 0, 0)] (fun ls st M => k107 (f_va (f_nth ls 1)) (f_vi (f_nth ls 2)) (f_vi (f_nth ls 3)) (f_vi (f_nth ls 5)) (f_vi (f_nth st 0)) M))]) C qX0_sellf (f_kc_cons (f_pl_ok rfl (fun ls st M h => h107 _ _ _ _ _ M h)) f_kc_nil) 173 47 h
set_option maxRecDepth 20000 in
theorem BX0_sell_107 {sh : Nat → Nat × Nat} {t : Nat} {rm : Nat × Nat × Nat} {cs : Nat × Nat} {R : f_Rt} {c_X10_lot : Nat → Int → e_M → (Nat → Prop) → Prop} {c_X4_placeOf : Nat → Int → e_M → (Int → Prop) → Prop} {c_X10_isAble : Nat → Int → e_M → (Int → Prop) → Prop} {c_X0_arePartsMixed : Int → Int → e_M → (Int → Prop) → Prop} {c_X2_isWhole : Nat → e_M → (Int → Prop) → Prop} {c_X0_isBarred : Int → Int → e_M → (Int → Prop) → Prop} {c_X4_copyOwners : Nat → Nat → e_M → (e_M → Prop) → Prop} {c_X4_takeOff : Nat → Int → Int → Int → e_M → (Int → e_M → Prop) → Prop} {c_X4_give : Nat → Int → Int → Int → e_M → (e_M → Prop) → Prop} {c_X4_isTooFine : Nat → e_M → (Int → Prop) → Prop} {c_X10_isFull : Nat → Int → e_M → (Int → Prop) → Prop} {c_X0_recordSale : Int → Int → e_M → (e_M → Prop) → Prop} {k193 : Nat → Int → Int → Int → e_M → Prop} {a1 : Nat} {x2 : Int} {x3 : Int} {x5 : Int} {xs0 : Int} {M : e_M} (C : f_Hy sh t yX0_sell rm cs 8 (lX0_sell c_X10_lot c_X4_placeOf c_X10_isAble c_X0_arePartsMixed c_X2_isWhole c_X0_isBarred c_X4_copyOwners c_X4_takeOff c_X4_give c_X4_isTooFine c_X10_isFull c_X0_recordSale) R) (h193 : ∀ (a1 : Nat) (x5 : Int) (x7 : Int) (x9 : Int) (M : e_M), k193 a1 x5 x7 x9 M → f_E sh t YX0_sell rm cs (f_Q sh t R) 193 [.inr (.inr (.inl (0, 7, 4423))), .inr (.inr (.inl (4, 9, a1))), .inr (.inr (.inr ())), .inr (.inr (.inr ())), .inr (.inr (.inr ())), .inr (.inl x5), .inr (.inr (.inr ())), .inr (.inl x7), .inr (.inr (.inr ())), .inl x9] [] M) (h : VX0_sell_107 c_X10_lot c_X4_placeOf c_X10_isAble c_X0_arePartsMixed c_X2_isWhole c_X0_isBarred c_X4_copyOwners c_X4_takeOff c_X4_give c_X4_isTooFine c_X10_isFull c_X0_recordSale k193 (fun r M => R (some (.inl r)) M) a1 x2 x3 x5 xs0 M) : f_E sh t YX0_sell rm cs (f_Q sh t R) 107 [.inr (.inr (.inl (0, 7, 4423))), .inr (.inr (.inl (4, 9, a1))), .inl x2, .inl x3, .inr (.inr (.inr ())), .inr (.inl x5), .inr (.inr (.inr ())), .inr (.inr (.inr ())), .inr (.inr (.inr ())), .inr (.inr (.inr ()))] [.inr (.inl xs0)] M :=
  f_go (KC := f_kc [(193, f_pl [(4433, 0, 7), (3, 4, 9), (0, 0, 0), (0, 0, 0), (0, 0, 0), (2, 0, 0), (0, 0, 0), (2, 0, 0), (0, 0, 0), (1, 0, 0)] [] (fun ls st M => k193 (f_va (f_nth ls 1)) (f_vi (f_nth ls 5)) (f_vi (f_nth ls 7)) (f_vi (f_nth ls 9)) M))]) C qX0_sellf (f_kc_cons (f_pl_ok rfl (fun ls st M h => h193 _ _ _ _ M h)) f_kc_nil) 173 59 h
set_option maxRecDepth 20000 in
theorem BX0_sell_193 {sh : Nat → Nat × Nat} {t : Nat} {rm : Nat × Nat × Nat} {cs : Nat × Nat} {R : f_Rt} {c_X10_lot : Nat → Int → e_M → (Nat → Prop) → Prop} {c_X4_placeOf : Nat → Int → e_M → (Int → Prop) → Prop} {c_X10_isAble : Nat → Int → e_M → (Int → Prop) → Prop} {c_X0_arePartsMixed : Int → Int → e_M → (Int → Prop) → Prop} {c_X2_isWhole : Nat → e_M → (Int → Prop) → Prop} {c_X0_isBarred : Int → Int → e_M → (Int → Prop) → Prop} {c_X4_copyOwners : Nat → Nat → e_M → (e_M → Prop) → Prop} {c_X4_takeOff : Nat → Int → Int → Int → e_M → (Int → e_M → Prop) → Prop} {c_X4_give : Nat → Int → Int → Int → e_M → (e_M → Prop) → Prop} {c_X4_isTooFine : Nat → e_M → (Int → Prop) → Prop} {c_X10_isFull : Nat → Int → e_M → (Int → Prop) → Prop} {c_X0_recordSale : Int → Int → e_M → (e_M → Prop) → Prop} {k193 : Nat → Int → Int → Int → e_M → Prop} {a1 : Nat} {x5 : Int} {x7 : Int} {x9 : Int} {M : e_M} (C : f_Hy sh t yX0_sell rm cs 8 (lX0_sell c_X10_lot c_X4_placeOf c_X10_isAble c_X0_arePartsMixed c_X2_isWhole c_X0_isBarred c_X4_copyOwners c_X4_takeOff c_X4_give c_X4_isTooFine c_X10_isFull c_X0_recordSale) R) (h193 : ∀ (a1 : Nat) (x5 : Int) (x7 : Int) (x9 : Int) (M : e_M), k193 a1 x5 x7 x9 M → f_E sh t YX0_sell rm cs (f_Q sh t R) 193 [.inr (.inr (.inl (0, 7, 4423))), .inr (.inr (.inl (4, 9, a1))), .inr (.inr (.inr ())), .inr (.inr (.inr ())), .inr (.inr (.inr ())), .inr (.inl x5), .inr (.inr (.inr ())), .inr (.inl x7), .inr (.inr (.inr ())), .inl x9] [] M) (h : VX0_sell_193 c_X10_lot c_X4_placeOf c_X10_isAble c_X0_arePartsMixed c_X2_isWhole c_X0_isBarred c_X4_copyOwners c_X4_takeOff c_X4_give c_X4_isTooFine c_X10_isFull c_X0_recordSale k193 (fun r M => R (some (.inl r)) M) a1 x5 x7 x9 M) : f_E sh t YX0_sell rm cs (f_Q sh t R) 193 [.inr (.inr (.inl (0, 7, 4423))), .inr (.inr (.inl (4, 9, a1))), .inr (.inr (.inr ())), .inr (.inr (.inr ())), .inr (.inr (.inr ())), .inr (.inl x5), .inr (.inr (.inr ())), .inr (.inl x7), .inr (.inr (.inr ())), .inl x9] [] M :=
  f_go (KC := f_kc [(193, f_pl [(4433, 0, 7), (3, 4, 9), (0, 0, 0), (0, 0, 0), (0, 0, 0), (2, 0, 0), (0, 0, 0), (2, 0, 0), (0, 0, 0), (1, 0, 0)] [] (fun ls st M => k193 (f_va (f_nth ls 1)) (f_vi (f_nth ls 5)) (f_vi (f_nth ls 7)) (f_vi (f_nth ls 9)) M))]) C qX0_sellf (f_kc_cons (f_pl_ok rfl (fun ls st M h => h193 _ _ _ _ M h)) f_kc_nil) 173 108 h
set_option maxRecDepth 20000 in
theorem BX0_sell {sh : Nat → Nat × Nat} {t : Nat} {rm : Nat × Nat × Nat} {cs : Nat × Nat} {R : f_Rt} {c_X10_lot : Nat → Int → e_M → (Nat → Prop) → Prop} {c_X4_placeOf : Nat → Int → e_M → (Int → Prop) → Prop} {c_X10_isAble : Nat → Int → e_M → (Int → Prop) → Prop} {c_X0_arePartsMixed : Int → Int → e_M → (Int → Prop) → Prop} {c_X2_isWhole : Nat → e_M → (Int → Prop) → Prop} {c_X0_isBarred : Int → Int → e_M → (Int → Prop) → Prop} {c_X4_copyOwners : Nat → Nat → e_M → (e_M → Prop) → Prop} {c_X4_takeOff : Nat → Int → Int → Int → e_M → (Int → e_M → Prop) → Prop} {c_X4_give : Nat → Int → Int → Int → e_M → (e_M → Prop) → Prop} {c_X4_isTooFine : Nat → e_M → (Int → Prop) → Prop} {c_X10_isFull : Nat → Int → e_M → (Int → Prop) → Prop} {c_X0_recordSale : Int → Int → e_M → (e_M → Prop) → Prop} {k61 : Nat → Int → Int → Int → e_M → Prop} {M : e_M} (C : f_Hy sh t yX0_sell rm cs 8 (lX0_sell c_X10_lot c_X4_placeOf c_X10_isAble c_X0_arePartsMixed c_X2_isWhole c_X0_isBarred c_X4_copyOwners c_X4_takeOff c_X4_give c_X4_isTooFine c_X10_isFull c_X0_recordSale) R) (h61 : ∀ (a1 : Nat) (x2 : Int) (x3 : Int) (xs0 : Int) (M : e_M), k61 a1 x2 x3 xs0 M → f_E sh t YX0_sell rm cs (f_Q sh t R) 61 [.inr (.inr (.inl (0, 7, 4423))), .inr (.inr (.inl (4, 9, a1))), .inl x2, .inl x3, .inr (.inr (.inr ())), .inr (.inr (.inr ())), .inr (.inr (.inr ())), .inr (.inr (.inr ())), .inr (.inr (.inr ())), .inr (.inr (.inr ()))] [.inl xs0] M) (h : VX0_sell c_X10_lot c_X4_placeOf c_X10_isAble c_X0_arePartsMixed c_X2_isWhole c_X0_isBarred c_X4_copyOwners c_X4_takeOff c_X4_give c_X4_isTooFine c_X10_isFull c_X0_recordSale k61 (fun r M => R (some (.inl r)) M) M) : f_E sh t YX0_sell rm cs (f_Q sh t R) 0 [.inr (.inr (.inl (0, 7, 4423))), .inr (.inr (.inr ())), .inr (.inr (.inr ())), .inr (.inr (.inr ())), .inr (.inr (.inr ())), .inr (.inr (.inr ())), .inr (.inr (.inr ())), .inr (.inr (.inr ())), .inr (.inr (.inr ())), .inr (.inr (.inr ()))] [] M :=
  f_go (KC := f_kc [(61, f_pl [(4433, 0, 7), (3, 4, 9), (1, 0, 0), (1, 0, 0), (0, 0, 0), (0, 0, 0), (0, 0, 0), (0, 0, 0), (0, 0, 0), (0, 0, 0)] [(1, 0, 0)] (fun ls st M => k61 (f_va (f_nth ls 1)) (f_vi (f_nth ls 2)) (f_vi (f_nth ls 3)) (f_vi (f_nth st 0)) M))]) C qX0_sellf (f_kc_cons (f_pl_ok rfl (fun ls st M h => h61 _ _ _ _ M h)) f_kc_nil) 173 0 h
def WX0_sell_193 (Q : Int → e_M → Prop) : Nat → Nat → Int → Int → Int → e_M → Prop
  | 0, _, _, _, _, _ => False
  | n + 1, a1, x5, x7, x9, M =>
    VX0_sell_193 WX10_lot WX4_placeOf WX10_isAble WX0_arePartsMixed WX2_isWhole WX0_isBarred WX4_copyOwners WX4_takeOff WX4_give WX4_isTooFine WX10_isFull WX0_recordSale (WX0_sell_193 Q n) Q a1 x5 x7 x9 M
def WX0_sell_107 (Q : Int → e_M → Prop) (a1 : Nat) (x2 : Int) (x3 : Int) (x5 : Int) (xs0 : Int) (M : e_M) : Prop :=
  VX0_sell_107 WX10_lot WX4_placeOf WX10_isAble WX0_arePartsMixed WX2_isWhole WX0_isBarred WX4_copyOwners WX4_takeOff WX4_give WX4_isTooFine WX10_isFull WX0_recordSale (fun a1 x5 x7 x9 M => ∃ j, WX0_sell_193 Q j a1 x5 x7 x9 M) Q a1 x2 x3 x5 xs0 M
def WX0_sell_84 (Q : Int → e_M → Prop) (a1 : Nat) (x2 : Int) (x3 : Int) (x4 : Int) (xs0 : Int) (M : e_M) : Prop :=
  VX0_sell_84 WX10_lot WX4_placeOf WX10_isAble WX0_arePartsMixed WX2_isWhole WX0_isBarred WX4_copyOwners WX4_takeOff WX4_give WX4_isTooFine WX10_isFull WX0_recordSale (WX0_sell_107 Q) Q a1 x2 x3 x4 xs0 M
def WX0_sell_61 (Q : Int → e_M → Prop) (a1 : Nat) (x2 : Int) (x3 : Int) (xs0 : Int) (M : e_M) : Prop :=
  VX0_sell_61 WX10_lot WX4_placeOf WX10_isAble WX0_arePartsMixed WX2_isWhole WX0_isBarred WX4_copyOwners WX4_takeOff WX4_give WX4_isTooFine WX10_isFull WX0_recordSale (WX0_sell_84 Q) Q a1 x2 x3 xs0 M
def WX0_sell (M : e_M) (Q : Int → e_M → Prop) : Prop :=
  VX0_sell WX10_lot WX4_placeOf WX10_isAble WX0_arePartsMixed WX2_isWhole WX0_isBarred WX4_copyOwners WX4_takeOff WX4_give WX4_isTooFine WX10_isFull WX0_recordSale (WX0_sell_61 Q) Q M
theorem PX0_sell_193 {sh : Nat → Nat × Nat} {t : Nat} {rm : Nat × Nat × Nat} {cs : Nat × Nat} {R : f_Rt} (C : f_Hy sh t yX0_sell rm cs 8 (lX0_sell WX10_lot WX4_placeOf WX10_isAble WX0_arePartsMixed WX2_isWhole WX0_isBarred WX4_copyOwners WX4_takeOff WX4_give WX4_isTooFine WX10_isFull WX0_recordSale) R) : ∀ (n : Nat) (a1 : Nat) (x5 : Int) (x7 : Int) (x9 : Int) (M : e_M), WX0_sell_193 (fun r M => R (some (.inl r)) M) n a1 x5 x7 x9 M → f_E sh t YX0_sell rm cs (f_Q sh t R) 193 [.inr (.inr (.inl (0, 7, 4423))), .inr (.inr (.inl (4, 9, a1))), .inr (.inr (.inr ())), .inr (.inr (.inr ())), .inr (.inr (.inr ())), .inr (.inl x5), .inr (.inr (.inr ())), .inr (.inl x7), .inr (.inr (.inr ())), .inl x9] [] M := by
  intro n
  induction n with
  | zero => intro a1 x5 x7 x9 M h; exact h.elim
  | succ n ih => intro a1 x5 x7 x9 M h; exact BX0_sell_193 C ih h
theorem PX0_sell_107 {sh : Nat → Nat × Nat} {t : Nat} {rm : Nat × Nat × Nat} {cs : Nat × Nat} {R : f_Rt} {a1 : Nat} {x2 : Int} {x3 : Int} {x5 : Int} {xs0 : Int} {M : e_M} (C : f_Hy sh t yX0_sell rm cs 8 (lX0_sell WX10_lot WX4_placeOf WX10_isAble WX0_arePartsMixed WX2_isWhole WX0_isBarred WX4_copyOwners WX4_takeOff WX4_give WX4_isTooFine WX10_isFull WX0_recordSale) R) (h : WX0_sell_107 (fun r M => R (some (.inl r)) M) a1 x2 x3 x5 xs0 M) : f_E sh t YX0_sell rm cs (f_Q sh t R) 107 [.inr (.inr (.inl (0, 7, 4423))), .inr (.inr (.inl (4, 9, a1))), .inl x2, .inl x3, .inr (.inr (.inr ())), .inr (.inl x5), .inr (.inr (.inr ())), .inr (.inr (.inr ())), .inr (.inr (.inr ())), .inr (.inr (.inr ()))] [.inr (.inl xs0)] M :=
  BX0_sell_107 C (fun a1 x5 x7 x9 M ⟨j, h⟩ => PX0_sell_193 C j _ _ _ _ _ h) h
theorem PX0_sell_84 {sh : Nat → Nat × Nat} {t : Nat} {rm : Nat × Nat × Nat} {cs : Nat × Nat} {R : f_Rt} {a1 : Nat} {x2 : Int} {x3 : Int} {x4 : Int} {xs0 : Int} {M : e_M} (C : f_Hy sh t yX0_sell rm cs 8 (lX0_sell WX10_lot WX4_placeOf WX10_isAble WX0_arePartsMixed WX2_isWhole WX0_isBarred WX4_copyOwners WX4_takeOff WX4_give WX4_isTooFine WX10_isFull WX0_recordSale) R) (h : WX0_sell_84 (fun r M => R (some (.inl r)) M) a1 x2 x3 x4 xs0 M) : f_E sh t YX0_sell rm cs (f_Q sh t R) 84 [.inr (.inr (.inl (0, 7, 4423))), .inr (.inr (.inl (4, 9, a1))), .inl x2, .inl x3, .inl x4, .inr (.inr (.inr ())), .inr (.inr (.inr ())), .inr (.inr (.inr ())), .inr (.inr (.inr ())), .inr (.inr (.inr ()))] [.inr (.inl xs0)] M :=
  BX0_sell_84 C (fun a1 x2 x3 x5 xs0 M h => PX0_sell_107 C h) h
theorem PX0_sell_61 {sh : Nat → Nat × Nat} {t : Nat} {rm : Nat × Nat × Nat} {cs : Nat × Nat} {R : f_Rt} {a1 : Nat} {x2 : Int} {x3 : Int} {xs0 : Int} {M : e_M} (C : f_Hy sh t yX0_sell rm cs 8 (lX0_sell WX10_lot WX4_placeOf WX10_isAble WX0_arePartsMixed WX2_isWhole WX0_isBarred WX4_copyOwners WX4_takeOff WX4_give WX4_isTooFine WX10_isFull WX0_recordSale) R) (h : WX0_sell_61 (fun r M => R (some (.inl r)) M) a1 x2 x3 xs0 M) : f_E sh t YX0_sell rm cs (f_Q sh t R) 61 [.inr (.inr (.inl (0, 7, 4423))), .inr (.inr (.inl (4, 9, a1))), .inl x2, .inl x3, .inr (.inr (.inr ())), .inr (.inr (.inr ())), .inr (.inr (.inr ())), .inr (.inr (.inr ())), .inr (.inr (.inr ())), .inr (.inr (.inr ()))] [.inl xs0] M :=
  BX0_sell_61 C (fun a1 x2 x3 x4 xs0 M h => PX0_sell_84 C h) h
theorem PX0_sell {sh : Nat → Nat × Nat} {t : Nat} {rm : Nat × Nat × Nat} {cs : Nat × Nat} {R : f_Rt} {M : e_M} (C : f_Hy sh t yX0_sell rm cs 8 (lX0_sell WX10_lot WX4_placeOf WX10_isAble WX0_arePartsMixed WX2_isWhole WX0_isBarred WX4_copyOwners WX4_takeOff WX4_give WX4_isTooFine WX10_isFull WX0_recordSale) R) (h : WX0_sell M (fun r M => R (some (.inl r)) M)) : f_E sh t YX0_sell rm cs (f_Q sh t R) 0 [.inr (.inr (.inl (0, 7, 4423))), .inr (.inr (.inr ())), .inr (.inr (.inr ())), .inr (.inr (.inr ())), .inr (.inr (.inr ())), .inr (.inr (.inr ())), .inr (.inr (.inr ())), .inr (.inr (.inr ())), .inr (.inr (.inr ())), .inr (.inr (.inr ()))] [] M :=
  BX0_sell C (fun a1 x2 x3 xs0 M h => PX0_sell_61 C h) h
def wX0_sell : f_Wt := f_wm [(4433, 0, 7)] (fun ar M R => WX0_sell M (fun r M => R (some (.inl r)) M))
theorem TX0_sell {sh : Nat → Nat × Nat} {t : Nat} : f_Mt sh t YX0_sell 8 (wX0_sell) :=
  f_Mt_of (k := 9) (Nat.le_of_ble_eq_true rfl) rfl rfl (fun ar M R rm cs h1 h2 h3 hX h => PX0_sell ⟨Nat.le_of_ble_eq_true rfl, h1, h2, h3, ⟨(f_Mt.up (Nat.le_of_ble_eq_true rfl) TX10_lot), (f_Mt.up (Nat.le_of_ble_eq_true rfl) TX4_placeOf), (f_Mt.up (Nat.le_of_ble_eq_true rfl) TX10_isAble), (f_Mt.up (Nat.le_of_ble_eq_true rfl) TX0_arePartsMixed), (f_Mt.up (Nat.le_of_ble_eq_true rfl) TX2_isWhole), (f_Mt.up (Nat.le_of_ble_eq_true rfl) TX0_isBarred), (f_Mt.up (Nat.le_of_ble_eq_true rfl) TX4_copyOwners), (f_Mt.up (Nat.le_of_ble_eq_true rfl) TX4_takeOff), (f_Mt.up (Nat.le_of_ble_eq_true rfl) TX4_give), (f_Mt.up (Nat.le_of_ble_eq_true rfl) TX4_isTooFine), (f_Mt.up (Nat.le_of_ble_eq_true rfl) TX10_isFull), (f_Mt.up (Nat.le_of_ble_eq_true rfl) TX0_recordSale), trivial⟩, hX⟩ h)
def VX0_areOwnersAble_11 (c_X10_lot : Nat → Int → e_M → (Nat → Prop) → Prop) (c_X10_isAble : Nat → Int → e_M → (Int → Prop) → Prop) (k11 : Nat → Int → Prop) (Q : Int → Prop) (a2 : Nat) (x3 : Int) (M : e_M) : Prop :=
  (((M a2 8) ≤ x3 → (Q 1)) ∧ (x3 < (M a2 8) → ((0 ≤ x3 ∧ x3 < 14) ∧ (c_X10_isAble ((M 4423 0).toNat) (M (a2 + 6) (x3.toNat)) M (fun r1 => ((¬ r1 = 0 → (k11 a2 (e_w32 (x3 + 1)))) ∧ (r1 = 0 → (Q 0))))))))
def VX0_areOwnersAble (c_X10_lot : Nat → Int → e_M → (Nat → Prop) → Prop) (c_X10_isAble : Nat → Int → e_M → (Int → Prop) → Prop) (k11 : Nat → Int → Prop) (Q : Int → Prop) (x1 : Int) (M : e_M) : Prop :=
  (c_X10_lot ((M 4423 0).toNat) x1 M (fun r1 => (k11 r1 0)))
def yX0_areOwnersAble (i : Nat) : e_Y := x_get YX0_areOwnersAble [YX10_lot, YX10_isAble] i
def pX0_areOwnersAblef : List x_I := [(0, 4, 1, 0, 0, 0, []), (1, 25, 0, 0, 4, 0, [(0, 10, 15), (0, 0, 0)]), (4, 2, 1, 1, 0, 0, []), (5, 40, 0, 2, 12, 0, []), (8, 7, 1, 2, 0, 0, []), (9, 0, 1, 0, 0, 0, []), (10, 5, 1, 3, 0, 0, []), (11, 49, 0, 0, 0, 0, []), (11, 2, 1, 3, 0, 0, []), (12, 4, 1, 2, 0, 0, []), (13, 25, 4, 8, 0, 0, []), (16, 18, 43, 3, 25, 0, []), (19, 4, 1, 0, 0, 0, []), (20, 25, 0, 0, 4, 0, [(0, 10, 15), (0, 0, 0)]), (23, 4, 1, 2, 0, 0, []), (24, 25, 4, 5, 4, 0, [(0, 20, 14), (0, 1, 6)]), (27, 2, 1, 3, 0, 0, []), (28, 27, 0, 0, 0, 0, []), (29, 40, 1, 2, 12, 0, []), (32, 17, 37, 1, 23, 0, []), (35, 0, 1, 0, 0, 0, []), (36, 48, 0, 0, 0, 0, []), (37, 8, 0, 3, 0, 1, []), (40, 19, 11, 0, 8, 0, []), (43, 0, 1, 0, 0, 1, []), (44, 48, 0, 0, 0, 0, [])]
set_option maxRecDepth 20000 in
theorem qX0_areOwnersAblef : f_all yX0_areOwnersAble YX0_areOwnersAble pX0_areOwnersAblef :=
  ⟨f_aload_n (n := 0) (e_dx DX0_areOwnersAble_0 0 rfl) rfl,
  f_getA (e_dx DX0_areOwnersAble_0 1 rfl) fX0_36 rfl (by decide) (Nat.le_of_ble_eq_true rfl) rfl (by decide),
  f_iload_n (n := 1) (e_dx DX0_areOwnersAble_0 2 rfl) rfl,
  x_callV (e_dx DX0_areOwnersAble_0 3 rfl) mwX10_lot vwX10_lot cX0_161 rfl,
  f_astore_n (n := 2) (e_dx DX0_areOwnersAble_0 4 rfl) rfl (by decide),
  f_iconst (e_dx DX0_areOwnersAble_0 5 rfl) ⟨by decide, by decide⟩,
  f_istore_n (n := 3) (e_dx DX0_areOwnersAble_0 6 rfl) rfl (by decide),
  trivial,
  f_iload_n (n := 3) (e_dx DX0_areOwnersAble_0 7 rfl) rfl,
  f_aload_n (n := 2) (e_dx DX0_areOwnersAble_0 8 rfl) rfl,
  f_getf (e_dx DX0_areOwnersAble_0 9 rfl) fX0_165 rfl (by decide) (by decide) (by decide),
  f_icmp_ge (e_dx DX0_areOwnersAble_0 10 rfl) rfl,
  f_aload_n (n := 0) (e_dx DX0_areOwnersAble_0 11 rfl) rfl,
  f_getA (e_dx DX0_areOwnersAble_0 12 rfl) fX0_36 rfl (by decide) (Nat.le_of_ble_eq_true rfl) rfl (by decide),
  f_aload_n (n := 2) (e_dx DX0_areOwnersAble_0 13 rfl) rfl,
  f_getA (e_dx DX0_areOwnersAble_0 14 rfl) fX0_168 rfl (by decide) (Nat.le_of_ble_eq_true rfl) rfl (by decide),
  f_iload_n (n := 3) (e_dx DX0_areOwnersAble_0 15 rfl) rfl,
  f_iaload (e_dx DX0_areOwnersAble_0 16 rfl),
  x_callV (e_dx DX0_areOwnersAble_0 17 rfl) mwX10_isAble vwX10_isAble cX0_171 rfl,
  f_if_ne (e_dx DX0_areOwnersAble_0 18 rfl) rfl,
  f_iconst (e_dx DX0_areOwnersAble_0 19 rfl) ⟨by decide, by decide⟩,
  ⟨(e_dx DX0_areOwnersAble_0 20 rfl), rfl⟩,
  f_g8 (e_dx DX0_areOwnersAble_0 21 rfl) ⟨by decide, by decide⟩,
  f_g19 (e_dx DX0_areOwnersAble_0 22 rfl) rfl,
  f_iconst (e_dx DX0_areOwnersAble_0 23 rfl) ⟨by decide, by decide⟩,
  ⟨(e_dx DX0_areOwnersAble_0 24 rfl), rfl⟩, trivial⟩
def lX0_areOwnersAble (c_X10_lot : Nat → Int → e_M → (Nat → Prop) → Prop) (c_X10_isAble : Nat → Int → e_M → (Int → Prop) → Prop) : List (Nat × f_Wt) := [(0, f_wm [(3, 10, 15), (1, 0, 0)] (fun ar M R => c_X10_lot (f_va (f_nth ar 0)) (f_vi (f_nth ar 1)) M (fun r => R (some (.inr (.inr (.inl (4, 9, r))))) M))), (1, f_wm [(3, 10, 15), (1, 0, 0)] (fun ar M R => c_X10_isAble (f_va (f_nth ar 0)) (f_vi (f_nth ar 1)) M (fun r => R (some (.inl r)) M)))]
set_option maxRecDepth 20000 in
theorem BX0_areOwnersAble_11 {sh : Nat → Nat × Nat} {t : Nat} {rm : Nat × Nat × Nat} {cs : Nat × Nat} {R : f_Rt} {c_X10_lot : Nat → Int → e_M → (Nat → Prop) → Prop} {c_X10_isAble : Nat → Int → e_M → (Int → Prop) → Prop} {k11 : Nat → Int → Prop} {a2 : Nat} {x3 : Int} {M : e_M} (C : f_Hy sh t yX0_areOwnersAble rm cs 7 (lX0_areOwnersAble c_X10_lot c_X10_isAble) R) (h11 : ∀ (a2 : Nat) (x3 : Int), k11 a2 x3 → f_E sh t YX0_areOwnersAble rm cs (f_Q sh t R) 11 [.inr (.inr (.inl (0, 7, 4423))), .inr (.inr (.inr ())), .inr (.inr (.inl (4, 9, a2))), .inl x3] [] M) (h : VX0_areOwnersAble_11 c_X10_lot c_X10_isAble k11 (fun r => R (some (.inl r)) M) a2 x3 M) : f_E sh t YX0_areOwnersAble rm cs (f_Q sh t R) 11 [.inr (.inr (.inl (0, 7, 4423))), .inr (.inr (.inr ())), .inr (.inr (.inl (4, 9, a2))), .inl x3] [] M := by
  rw [f_kk2 M k11] at h
  exact f_go (KC := f_kc [(11, f_pl [(4433, 0, 7), (0, 0, 0), (3, 4, 9), (1, 0, 0)] [] (fun ls st M2 => M2 = M ∧ (k11 (f_va (f_nth ls 2)) (f_vi (f_nth ls 3)))))]) C qX0_areOwnersAblef (f_kc_cons (f_pl_ok rfl (fun ls st M2 ⟨e, hh⟩ => by subst e; exact h11 _ _ hh)) f_kc_nil) 28 8 h
set_option maxRecDepth 20000 in
theorem BX0_areOwnersAble {sh : Nat → Nat × Nat} {t : Nat} {rm : Nat × Nat × Nat} {cs : Nat × Nat} {R : f_Rt} {c_X10_lot : Nat → Int → e_M → (Nat → Prop) → Prop} {c_X10_isAble : Nat → Int → e_M → (Int → Prop) → Prop} {k11 : Nat → Int → Prop} {x1 : Int} {M : e_M} (C : f_Hy sh t yX0_areOwnersAble rm cs 7 (lX0_areOwnersAble c_X10_lot c_X10_isAble) R) (h11 : ∀ (a2 : Nat) (x3 : Int), k11 a2 x3 → f_E sh t YX0_areOwnersAble rm cs (f_Q sh t R) 11 [.inr (.inr (.inl (0, 7, 4423))), .inr (.inr (.inr ())), .inr (.inr (.inl (4, 9, a2))), .inl x3] [] M) (h : VX0_areOwnersAble c_X10_lot c_X10_isAble k11 (fun r => R (some (.inl r)) M) x1 M) : f_E sh t YX0_areOwnersAble rm cs (f_Q sh t R) 0 [.inr (.inr (.inl (0, 7, 4423))), .inl x1, .inr (.inr (.inr ())), .inr (.inr (.inr ()))] [] M := by
  rw [f_kk2 M k11] at h
  exact f_go (KC := f_kc [(11, f_pl [(4433, 0, 7), (0, 0, 0), (3, 4, 9), (1, 0, 0)] [] (fun ls st M2 => M2 = M ∧ (k11 (f_va (f_nth ls 2)) (f_vi (f_nth ls 3)))))]) C qX0_areOwnersAblef (f_kc_cons (f_pl_ok rfl (fun ls st M2 ⟨e, hh⟩ => by subst e; exact h11 _ _ hh)) f_kc_nil) 28 0 h
def WX0_areOwnersAble_11 (M : e_M) (Q : Int → Prop) : Nat → Nat → Int → Prop
  | 0, _, _ => False
  | n + 1, a2, x3 =>
    VX0_areOwnersAble_11 WX10_lot WX10_isAble (WX0_areOwnersAble_11 M Q n) Q a2 x3 M
def WX0_areOwnersAble (x1 : Int) (M : e_M) (Q : Int → Prop) : Prop :=
  VX0_areOwnersAble WX10_lot WX10_isAble (fun a2 x3 => ∃ j, WX0_areOwnersAble_11 M Q j a2 x3) Q x1 M
theorem PX0_areOwnersAble_11 {sh : Nat → Nat × Nat} {t : Nat} {rm : Nat × Nat × Nat} {cs : Nat × Nat} {R : f_Rt} {M : e_M} (C : f_Hy sh t yX0_areOwnersAble rm cs 7 (lX0_areOwnersAble WX10_lot WX10_isAble) R) : ∀ (n : Nat) (a2 : Nat) (x3 : Int), WX0_areOwnersAble_11 M (fun r => R (some (.inl r)) M) n a2 x3 → f_E sh t YX0_areOwnersAble rm cs (f_Q sh t R) 11 [.inr (.inr (.inl (0, 7, 4423))), .inr (.inr (.inr ())), .inr (.inr (.inl (4, 9, a2))), .inl x3] [] M := by
  intro n
  induction n with
  | zero => intro a2 x3 h; exact h.elim
  | succ n ih => intro a2 x3 h; exact BX0_areOwnersAble_11 C ih h
theorem PX0_areOwnersAble {sh : Nat → Nat × Nat} {t : Nat} {rm : Nat × Nat × Nat} {cs : Nat × Nat} {R : f_Rt} {x1 : Int} {M : e_M} (C : f_Hy sh t yX0_areOwnersAble rm cs 7 (lX0_areOwnersAble WX10_lot WX10_isAble) R) (h : WX0_areOwnersAble x1 M (fun r => R (some (.inl r)) M)) : f_E sh t YX0_areOwnersAble rm cs (f_Q sh t R) 0 [.inr (.inr (.inl (0, 7, 4423))), .inl x1, .inr (.inr (.inr ())), .inr (.inr (.inr ()))] [] M :=
  BX0_areOwnersAble C (fun a2 x3 ⟨j, h⟩ => PX0_areOwnersAble_11 C j _ _ h) h
def wX0_areOwnersAble : f_Wt := f_wm [(4433, 0, 7), (1, 0, 0)] (fun ar M R => WX0_areOwnersAble (f_vi (f_nth ar 1)) M (fun r => R (some (.inl r)) M))
theorem TX0_areOwnersAble {sh : Nat → Nat × Nat} {t : Nat} : f_Mt sh t YX0_areOwnersAble 7 (wX0_areOwnersAble) :=
  f_Mt_of (k := 2) (Nat.le_of_ble_eq_true rfl) rfl rfl (fun ar M R rm cs h1 h2 h3 hX h => PX0_areOwnersAble ⟨Nat.le_of_ble_eq_true rfl, h1, h2, h3, ⟨(f_Mt.up (Nat.le_of_ble_eq_true rfl) TX10_lot), (f_Mt.up (Nat.le_of_ble_eq_true rfl) TX10_isAble), trivial⟩, hX⟩ h)
def VX3_next (Q : Int → Prop) (a0 : Nat) (x1 : Int) (M : e_M) : Prop :=
  (((M a0 2) ≤ (e_w32 (x1 + 1)) → (Q 0)) ∧ ((e_w32 (x1 + 1)) < (M a0 2) → (Q (e_w32 (x1 + 1)))))
def yX3_next (i : Nat) : e_Y := x_get YX3_next [] i
def pX3_nextf : List x_I := [(0, 2, 1, 1, 0, 0, []), (1, 0, 1, 0, 0, 1, []), (2, 9, 0, 0, 0, 0, []), (3, 4, 1, 0, 0, 0, []), (4, 25, 3, 2, 0, 0, []), (7, 18, 16, 3, 11, 0, []), (10, 2, 1, 1, 0, 0, []), (11, 0, 1, 0, 0, 1, []), (12, 9, 0, 0, 0, 0, []), (13, 19, 17, 0, 12, 0, []), (16, 0, 1, 0, 0, 0, []), (17, 41, 0, 0, 0, 0, [])]
set_option maxRecDepth 20000 in
theorem qX3_nextf : f_all yX3_next YX3_next pX3_nextf :=
  ⟨f_iload_n (n := 1) (e_dx DX3_next_0 0 rfl) rfl,
  f_iconst (e_dx DX3_next_0 1 rfl) ⟨by decide, by decide⟩,
  f_iadd (e_dx DX3_next_0 2 rfl),
  f_aload_n (n := 0) (e_dx DX3_next_0 3 rfl) rfl,
  f_getf (e_dx DX3_next_0 4 rfl) fX3_18 rfl (by decide) (by decide) (by decide),
  f_icmp_ge (e_dx DX3_next_0 5 rfl) rfl,
  f_iload_n (n := 1) (e_dx DX3_next_0 6 rfl) rfl,
  f_iconst (e_dx DX3_next_0 7 rfl) ⟨by decide, by decide⟩,
  f_iadd (e_dx DX3_next_0 8 rfl),
  f_g19 (e_dx DX3_next_0 9 rfl) rfl,
  f_iconst (e_dx DX3_next_0 10 rfl) ⟨by decide, by decide⟩,
  ⟨(e_dx DX3_next_0 11 rfl), rfl⟩, trivial⟩
def lX3_next : List (Nat × f_Wt) := []
set_option maxRecDepth 20000 in
theorem BX3_next {sh : Nat → Nat × Nat} {t : Nat} {rm : Nat × Nat × Nat} {cs : Nat × Nat} {R : f_Rt} {a0 : Nat} {x1 : Int} {M : e_M} (C : f_Hy sh t yX3_next rm cs 4 (lX3_next) R) (h : VX3_next (fun r => R (some (.inl r)) M) a0 x1 M) : f_E sh t YX3_next rm cs (f_Q sh t R) 0 [.inr (.inr (.inl (3, 3, a0))), .inl x1] [] M :=
  f_go (KC := f_kc []) C qX3_nextf f_kc_nil 14 0 h
def WX3_next (a0 : Nat) (x1 : Int) (M : e_M) (Q : Int → Prop) : Prop :=
  VX3_next Q a0 x1 M
theorem PX3_next {sh : Nat → Nat × Nat} {t : Nat} {rm : Nat × Nat × Nat} {cs : Nat × Nat} {R : f_Rt} {a0 : Nat} {x1 : Int} {M : e_M} (C : f_Hy sh t yX3_next rm cs 4 (lX3_next) R) (h : WX3_next a0 x1 M (fun r => R (some (.inl r)) M)) : f_E sh t YX3_next rm cs (f_Q sh t R) 0 [.inr (.inr (.inl (3, 3, a0))), .inl x1] [] M :=
  BX3_next C h
def wX3_next : f_Wt := f_wm [(3, 3, 3), (1, 0, 0)] (fun ar M R => WX3_next (f_va (f_nth ar 0)) (f_vi (f_nth ar 1)) M (fun r => R (some (.inl r)) M))
theorem TX3_next {sh : Nat → Nat × Nat} {t : Nat} : f_Mt sh t YX3_next 4 (wX3_next) :=
  f_Mt_of (k := 0) (Nat.le_of_ble_eq_true rfl) rfl rfl (fun ar M R rm cs h1 h2 h3 hX h => PX3_next ⟨Nat.le_of_ble_eq_true rfl, h1, h2, h3, trivial, hX⟩ h)
def VX3_where_6 (c_X3_next : Nat → Int → e_M → (Int → Prop) → Prop) (k159 : Nat → Int → Int → Int → Int → Int → Int → Int → Int → Prop) (Q : Int → Prop) (a0 : Nat) (x1 : Int) (x3 : Int) (x5 : Int) (x6 : Int) (x7 : Int) (M : e_M) : Prop :=
  (((M a0 2) ≤ x7 → ((x6 = 0 → (Q 0)) ∧ (¬ x6 = 0 → (Q 2)))) ∧ (x7 < (M a0 2) → (c_X3_next a0 x7 M (fun r1 => ((0 ≤ x7 ∧ x7 < 40) ∧ (∀ y2 : Int, y2 = e_w64 ((M (a0 + 1) (x7.toNat)) * x5) → ((0 ≤ x7 ∧ x7 < 40) ∧ (∀ y3 : Int, y3 = e_w64 ((M (a0 + 2) (x7.toNat)) * x5) → ((0 ≤ r1 ∧ r1 < 40) ∧ (∀ y4 : Int, y4 = e_w64 ((M (a0 + 1) (r1.toNat)) * x5) → ((0 ≤ r1 ∧ r1 < 40) ∧ (∀ y5 : Int, y5 = e_w64 ((M (a0 + 2) (r1.toNat)) * x5) → (∀ y6 : Int, y6 = e_w64 ((e_w64 ((e_w64 (y4 - y2)) * (e_w64 (x3 - y3)))) - (e_w64 ((e_w64 (y5 - y3)) * (e_w64 (x1 - y2))))) → ((¬ y6 = 0 → (k159 a0 x1 x3 x5 x6 x7 y3 y5 y6)) ∧ (y6 = 0 → ((x1 < (e_min y2 y4) → (k159 a0 x1 x3 x5 x6 x7 y3 y5 y6)) ∧ ((e_min y2 y4) ≤ x1 → (((e_max y2 y4) < x1 → (k159 a0 x1 x3 x5 x6 x7 y3 y5 y6)) ∧ (x1 ≤ (e_max y2 y4) → ((x3 < (e_min y3 y5) → (k159 a0 x1 x3 x5 x6 x7 y3 y5 y6)) ∧ ((e_min y3 y5) ≤ x3 → (((e_max y3 y5) < x3 → (k159 a0 x1 x3 x5 x6 x7 y3 y5 y6)) ∧ (x3 ≤ (e_max y3 y5) → (Q 1))))))))))))))))))))))))
def VX3_where_159 (c_X3_next : Nat → Int → e_M → (Int → Prop) → Prop) (k171 : Nat → Int → Int → Int → Int → Int → Int → Int → Int → Int → Prop) (Q : Int → Prop) (a0 : Nat) (x1 : Int) (x3 : Int) (x5 : Int) (x6 : Int) (x7 : Int) (x11 : Int) (x15 : Int) (x17 : Int) (M : e_M) : Prop :=
  ((x11 ≤ x3 → (k171 a0 x1 x3 x5 x6 x7 x11 x15 x17 0)) ∧ (x3 < x11 → (k171 a0 x1 x3 x5 x6 x7 x11 x15 x17 1)))
def VX3_where_171 (c_X3_next : Nat → Int → e_M → (Int → Prop) → Prop) (k183 : Nat → Int → Int → Int → Int → Int → Int → Int → Int → Int → Int → Prop) (Q : Int → Prop) (a0 : Nat) (x1 : Int) (x3 : Int) (x5 : Int) (x6 : Int) (x7 : Int) (x11 : Int) (x15 : Int) (x17 : Int) (xs0 : Int) (M : e_M) : Prop :=
  ((x15 ≤ x3 → (k183 a0 x1 x3 x5 x6 x7 x11 x15 x17 0 xs0)) ∧ (x3 < x15 → (k183 a0 x1 x3 x5 x6 x7 x11 x15 x17 1 xs0)))
def VX3_where_183 (c_X3_next : Nat → Int → e_M → (Int → Prop) → Prop) (k191 : Nat → Int → Int → Int → Int → Int → Int → Int → Int → Int → Prop) (Q : Int → Prop) (a0 : Nat) (x1 : Int) (x3 : Int) (x5 : Int) (x6 : Int) (x7 : Int) (x11 : Int) (x15 : Int) (x17 : Int) (xs1 : Int) (xs0 : Int) (M : e_M) : Prop :=
  ((xs0 = xs1 → (k191 a0 x1 x3 x5 x6 x7 x11 x15 x17 0)) ∧ (¬ xs0 = xs1 → (k191 a0 x1 x3 x5 x6 x7 x11 x15 x17 1)))
def VX3_where_191 (c_X3_next : Nat → Int → e_M → (Int → Prop) → Prop) (k235 : Nat → Int → Int → Int → Int → Int → Prop) (k223 : Nat → Int → Int → Int → Int → Int → Prop) (Q : Int → Prop) (a0 : Nat) (x1 : Int) (x3 : Int) (x5 : Int) (x6 : Int) (x7 : Int) (x11 : Int) (x15 : Int) (x17 : Int) (xs0 : Int) (M : e_M) : Prop :=
  ((xs0 = 0 → (k235 a0 x1 x3 x5 x6 x7)) ∧ (¬ xs0 = 0 → ((x15 ≤ x11 → ((0 ≤ x17 → (k235 a0 x1 x3 x5 x6 x7)) ∧ (x17 < 0 → (k223 a0 x1 x3 x5 x6 x7)))) ∧ (x11 < x15 → ((x17 ≤ 0 → (k235 a0 x1 x3 x5 x6 x7)) ∧ (0 < x17 → (k223 a0 x1 x3 x5 x6 x7)))))))
def VX3_where_223 (c_X3_next : Nat → Int → e_M → (Int → Prop) → Prop) (k233 : Nat → Int → Int → Int → Int → Int → Prop) (Q : Int → Prop) (a0 : Nat) (x1 : Int) (x3 : Int) (x5 : Int) (x6 : Int) (x7 : Int) (M : e_M) : Prop :=
  ((¬ x6 = 0 → (k233 a0 x1 x3 x5 x7 0)) ∧ (x6 = 0 → (k233 a0 x1 x3 x5 x7 1)))
def VX3_where_233 (c_X3_next : Nat → Int → e_M → (Int → Prop) → Prop) (k235 : Nat → Int → Int → Int → Int → Int → Prop) (Q : Int → Prop) (a0 : Nat) (x1 : Int) (x3 : Int) (x5 : Int) (x7 : Int) (xs0 : Int) (M : e_M) : Prop :=
  (k235 a0 x1 x3 x5 xs0 x7)
def VX3_where_235 (c_X3_next : Nat → Int → e_M → (Int → Prop) → Prop) (k6 : Nat → Int → Int → Int → Int → Int → Prop) (Q : Int → Prop) (a0 : Nat) (x1 : Int) (x3 : Int) (x5 : Int) (x6 : Int) (x7 : Int) (M : e_M) : Prop :=
  (k6 a0 x1 x3 x5 x6 (e_w32 (x7 + 1)))
def VX3_where (c_X3_next : Nat → Int → e_M → (Int → Prop) → Prop) (k6 : Nat → Int → Int → Int → Int → Int → Prop) (Q : Int → Prop) (a0 : Nat) (x1 : Int) (x3 : Int) (x5 : Int) (M : e_M) : Prop :=
  (k6 a0 x1 x3 x5 0 0)
def yX3_where (i : Nat) : e_Y := x_get YX3_where [YX3_next] i
def pX3_wheref : List x_I := [(0, 0, 1, 0, 0, 0, []), (1, 5, 2, 6, 0, 0, []), (3, 0, 1, 0, 0, 0, []), (4, 5, 2, 7, 0, 0, []), (6, 49, 0, 0, 0, 0, []), (6, 2, 2, 7, 0, 0, []), (8, 4, 1, 0, 0, 0, []), (9, 25, 3, 2, 0, 0, []), (12, 18, 241, 3, 140, 0, []), (15, 4, 1, 0, 0, 0, []), (16, 2, 2, 7, 0, 0, []), (18, 40, 0, 2, 5, 0, []), (21, 5, 2, 8, 0, 0, []), (23, 4, 1, 0, 0, 0, []), (24, 25, 3, 0, 4, 0, [(0, 20, 40), (0, 1, 1)]), (27, 2, 2, 7, 0, 0, []), (29, 27, 0, 0, 0, 0, []), (30, 14, 0, 0, 0, 0, []), (31, 2, 2, 5, 0, 0, []), (33, 14, 0, 0, 0, 0, []), (34, 10, 0, 2, 0, 0, []), (35, 33, 0, 0, 0, 0, []), (35, 6, 2, 9, 0, 0, []), (37, 4, 1, 0, 0, 0, []), (38, 25, 3, 1, 4, 0, [(0, 20, 40), (0, 1, 2)]), (41, 2, 2, 7, 0, 0, []), (43, 27, 0, 0, 0, 0, []), (44, 14, 0, 0, 0, 0, []), (45, 2, 2, 5, 0, 0, []), (47, 14, 0, 0, 0, 0, []), (48, 10, 0, 2, 0, 0, []), (49, 33, 0, 0, 0, 0, []), (49, 6, 2, 11, 0, 0, []), (51, 4, 1, 0, 0, 0, []), (52, 25, 3, 0, 4, 0, [(0, 20, 40), (0, 1, 1)]), (55, 2, 2, 8, 0, 0, []), (57, 27, 0, 0, 0, 0, []), (58, 14, 0, 0, 0, 0, []), (59, 2, 2, 5, 0, 0, []), (61, 14, 0, 0, 0, 0, []), (62, 10, 0, 2, 0, 0, []), (63, 33, 0, 0, 0, 0, []), (63, 6, 2, 13, 0, 0, []), (65, 4, 1, 0, 0, 0, []), (66, 25, 3, 1, 4, 0, [(0, 20, 40), (0, 1, 2)]), (69, 2, 2, 8, 0, 0, []), (71, 27, 0, 0, 0, 0, []), (72, 14, 0, 0, 0, 0, []), (73, 2, 2, 5, 0, 0, []), (75, 14, 0, 0, 0, 0, []), (76, 10, 0, 2, 0, 0, []), (77, 33, 0, 0, 0, 0, []), (77, 6, 2, 15, 0, 0, []), (79, 3, 2, 13, 0, 0, []), (81, 3, 2, 9, 0, 0, []), (83, 10, 0, 1, 0, 0, []), (84, 3, 1, 3, 0, 0, []), (85, 3, 2, 11, 0, 0, []), (87, 10, 0, 1, 0, 0, []), (88, 10, 0, 2, 0, 0, []), (89, 3, 2, 15, 0, 0, []), (91, 3, 2, 11, 0, 0, []), (93, 10, 0, 1, 0, 0, []), (94, 3, 1, 1, 0, 0, []), (95, 3, 2, 9, 0, 0, []), (97, 10, 0, 1, 0, 0, []), (98, 10, 0, 2, 0, 0, []), (99, 10, 0, 1, 0, 0, []), (100, 33, 0, 0, 0, 0, []), (100, 6, 2, 17, 0, 0, []), (102, 3, 2, 17, 0, 0, []), (104, 1, 1, 0, 0, 0, []), (105, 32, 159, 1, 96, 0, []), (109, 3, 1, 1, 0, 0, []), (110, 3, 2, 9, 0, 0, []), (112, 3, 2, 13, 0, 0, []), (114, 39, 0, 0, 3, 0, []), (117, 32, 159, 2, 96, 0, []), (121, 3, 1, 1, 0, 0, []), (122, 3, 2, 9, 0, 0, []), (124, 3, 2, 13, 0, 0, []), (126, 39, 0, 1, 3, 0, []), (129, 32, 159, 4, 96, 0, []), (133, 3, 1, 3, 0, 0, []), (134, 3, 2, 11, 0, 0, []), (136, 3, 2, 15, 0, 0, []), (138, 39, 0, 0, 3, 0, []), (141, 32, 159, 2, 96, 0, []), (145, 3, 1, 3, 0, 0, []), (146, 3, 2, 11, 0, 0, []), (148, 3, 2, 15, 0, 0, []), (150, 39, 0, 1, 3, 0, []), (153, 32, 159, 4, 96, 0, []), (157, 0, 1, 0, 0, 1, []), (158, 41, 0, 0, 0, 0, []), (159, 49, 0, 0, 0, 0, []), (159, 3, 2, 11, 0, 0, []), (161, 3, 1, 3, 0, 0, []), (162, 32, 170, 5, 102, 0, []), (166, 0, 1, 0, 0, 1, []), (167, 19, 171, 0, 103, 0, []), (170, 0, 1, 0, 0, 0, []), (171, 49, 0, 0, 0, 0, []), (171, 3, 2, 15, 0, 0, []), (173, 3, 1, 3, 0, 0, []), (174, 32, 182, 5, 109, 0, []), (178, 0, 1, 0, 0, 1, []), (179, 19, 183, 0, 110, 0, []), (182, 0, 1, 0, 0, 0, []), (183, 49, 0, 0, 0, 0, []), (183, 18, 190, 0, 114, 0, []), (186, 0, 1, 0, 0, 1, []), (187, 19, 191, 0, 115, 0, []), (190, 0, 1, 0, 0, 0, []), (191, 49, 0, 0, 0, 0, []), (191, 5, 2, 19, 0, 0, []), (193, 2, 2, 19, 0, 0, []), (195, 17, 235, 0, 137, 0, []), (198, 3, 2, 15, 0, 0, []), (200, 3, 2, 11, 0, 0, []), (202, 32, 216, 5, 126, 0, []), (206, 3, 2, 17, 0, 0, []), (208, 1, 1, 0, 0, 0, []), (209, 32, 235, 5, 137, 0, []), (213, 19, 223, 0, 129, 0, []), (216, 3, 2, 17, 0, 0, []), (218, 1, 1, 0, 0, 0, []), (219, 32, 235, 3, 137, 0, []), (223, 49, 0, 0, 0, 0, []), (223, 2, 2, 6, 0, 0, []), (225, 17, 232, 1, 134, 0, []), (228, 0, 1, 0, 0, 1, []), (229, 19, 233, 0, 135, 0, []), (232, 0, 1, 0, 0, 0, []), (233, 49, 0, 0, 0, 0, []), (233, 5, 2, 6, 0, 0, []), (235, 49, 0, 0, 0, 0, []), (235, 8, 0, 7, 0, 1, []), (238, 19, 6, 0, 5, 0, []), (241, 2, 2, 6, 0, 0, []), (243, 17, 250, 0, 144, 0, []), (246, 0, 1, 0, 0, 2, []), (247, 19, 251, 0, 145, 0, []), (250, 0, 1, 0, 0, 0, []), (251, 41, 0, 0, 0, 0, [])]
set_option maxRecDepth 20000 in
theorem qX3_wheref : f_all yX3_where YX3_where pX3_wheref :=
  ⟨f_iconst (e_dx DX3_where_0 0 rfl) ⟨by decide, by decide⟩,
  f_istore (e_dx DX3_where_0 1 rfl) (by decide),
  f_iconst (e_dx DX3_where_0 2 rfl) ⟨by decide, by decide⟩,
  f_istore (e_dx DX3_where_0 3 rfl) (by decide),
  trivial,
  f_iload (e_dx DX3_where_0 4 rfl),
  f_aload_n (n := 0) (e_dx DX3_where_0 5 rfl) rfl,
  f_getf (e_dx DX3_where_0 6 rfl) fX3_18 rfl (by decide) (by decide) (by decide),
  f_icmp_ge (e_dx DX3_where_0 7 rfl) rfl,
  f_aload_n (n := 0) (e_dx DX3_where_0 8 rfl) rfl,
  f_iload (e_dx DX3_where_0 9 rfl),
  x_callV (e_dx DX3_where_0 10 rfl) mwX3_next vwX3_next cX3_29 rfl,
  f_istore (e_dx DX3_where_0 11 rfl) (by decide),
  f_aload_n (n := 0) (e_dx DX3_where_0 12 rfl) rfl,
  f_getA (e_dx DX3_where_0 13 rfl) fX3_9 rfl (by decide) (Nat.le_of_ble_eq_true rfl) rfl (by decide),
  f_iload (e_dx DX3_where_0 14 rfl),
  f_iaload (e_dx DX3_where_0 15 rfl),
  f_g14 (e_dx DX3_where_0 16 rfl),
  f_iload (e_dx DX3_where_0 17 rfl),
  f_g14 (e_dx DX3_where_0 18 rfl),
  f_lmul (e_dx DX3_where_0 19 rfl),
  f_g33,
  f_lstore (e_dx DX3_where_0 20 rfl) (by decide),
  f_aload_n (n := 0) (e_dx DX3_where_0 21 rfl) rfl,
  f_getA (e_dx DX3_where_0 22 rfl) fX3_15 rfl (by decide) (Nat.le_of_ble_eq_true rfl) rfl (by decide),
  f_iload (e_dx DX3_where_0 23 rfl),
  f_iaload (e_dx DX3_where_0 24 rfl),
  f_g14 (e_dx DX3_where_0 25 rfl),
  f_iload (e_dx DX3_where_0 26 rfl),
  f_g14 (e_dx DX3_where_0 27 rfl),
  f_lmul (e_dx DX3_where_0 28 rfl),
  f_g33,
  f_lstore (e_dx DX3_where_0 29 rfl) (by decide),
  f_aload_n (n := 0) (e_dx DX3_where_0 30 rfl) rfl,
  f_getA (e_dx DX3_where_0 31 rfl) fX3_9 rfl (by decide) (Nat.le_of_ble_eq_true rfl) rfl (by decide),
  f_iload (e_dx DX3_where_0 32 rfl),
  f_iaload (e_dx DX3_where_0 33 rfl),
  f_g14 (e_dx DX3_where_0 34 rfl),
  f_iload (e_dx DX3_where_0 35 rfl),
  f_g14 (e_dx DX3_where_0 36 rfl),
  f_lmul (e_dx DX3_where_0 37 rfl),
  f_g33,
  f_lstore (e_dx DX3_where_0 38 rfl) (by decide),
  f_aload_n (n := 0) (e_dx DX3_where_0 39 rfl) rfl,
  f_getA (e_dx DX3_where_1 0 rfl) fX3_15 rfl (by decide) (Nat.le_of_ble_eq_true rfl) rfl (by decide),
  f_iload (e_dx DX3_where_1 1 rfl),
  f_iaload (e_dx DX3_where_1 2 rfl),
  f_g14 (e_dx DX3_where_1 3 rfl),
  f_iload (e_dx DX3_where_1 4 rfl),
  f_g14 (e_dx DX3_where_1 5 rfl),
  f_lmul (e_dx DX3_where_1 6 rfl),
  f_g33,
  f_lstore (e_dx DX3_where_1 7 rfl) (by decide),
  f_lload (e_dx DX3_where_1 8 rfl),
  f_lload (e_dx DX3_where_1 9 rfl),
  f_lsub (e_dx DX3_where_1 10 rfl),
  f_lload_n (n := 3) (e_dx DX3_where_1 11 rfl) rfl,
  f_lload (e_dx DX3_where_1 12 rfl),
  f_lsub (e_dx DX3_where_1 13 rfl),
  f_lmul (e_dx DX3_where_1 14 rfl),
  f_lload (e_dx DX3_where_1 15 rfl),
  f_lload (e_dx DX3_where_1 16 rfl),
  f_lsub (e_dx DX3_where_1 17 rfl),
  f_lload_n (n := 1) (e_dx DX3_where_1 18 rfl) rfl,
  f_lload (e_dx DX3_where_1 19 rfl),
  f_lsub (e_dx DX3_where_1 20 rfl),
  f_lmul (e_dx DX3_where_1 21 rfl),
  f_lsub (e_dx DX3_where_1 22 rfl),
  f_g33,
  f_lstore (e_dx DX3_where_1 23 rfl) (by decide),
  f_lload (e_dx DX3_where_1 24 rfl),
  f_lconst (n := 0) (e_dx DX3_where_1 25 rfl) rfl,
  f_lif_ne (e_dx DX3_where_1 26 rfl) (e_dx DX3_where_1 27 rfl) rfl,
  f_lload_n (n := 1) (e_dx DX3_where_1 28 rfl) rfl,
  f_lload (e_dx DX3_where_1 29 rfl),
  f_lload (e_dx DX3_where_1 30 rfl),
  f_mminJ (e_dx DX3_where_1 31 rfl) cX3_33 fm_s_mminJ fm_i fm_c_mminJ,
  f_lif_lt (e_dx DX3_where_1 32 rfl) (e_dx DX3_where_1 33 rfl) rfl,
  f_lload_n (n := 1) (e_dx DX3_where_1 34 rfl) rfl,
  f_lload (e_dx DX3_where_1 35 rfl),
  f_lload (e_dx DX3_where_1 36 rfl),
  f_mmaxJ (e_dx DX3_where_1 37 rfl) cX3_39 fm_s_mmaxJ fm_i fm_c_mmaxJ,
  f_lif_gt (e_dx DX3_where_1 38 rfl) (e_dx DX3_where_1 39 rfl) rfl,
  f_lload_n (n := 3) (e_dx DX3_where_2 0 rfl) rfl,
  f_lload (e_dx DX3_where_2 1 rfl),
  f_lload (e_dx DX3_where_2 2 rfl),
  f_mminJ (e_dx DX3_where_2 3 rfl) cX3_33 fm_s_mminJ fm_i fm_c_mminJ,
  f_lif_lt (e_dx DX3_where_2 4 rfl) (e_dx DX3_where_2 5 rfl) rfl,
  f_lload_n (n := 3) (e_dx DX3_where_2 6 rfl) rfl,
  f_lload (e_dx DX3_where_2 7 rfl),
  f_lload (e_dx DX3_where_2 8 rfl),
  f_mmaxJ (e_dx DX3_where_2 9 rfl) cX3_39 fm_s_mmaxJ fm_i fm_c_mmaxJ,
  f_lif_gt (e_dx DX3_where_2 10 rfl) (e_dx DX3_where_2 11 rfl) rfl,
  f_iconst (e_dx DX3_where_2 12 rfl) ⟨by decide, by decide⟩,
  ⟨(e_dx DX3_where_2 13 rfl), rfl⟩,
  trivial,
  f_lload (e_dx DX3_where_2 14 rfl),
  f_lload_n (n := 3) (e_dx DX3_where_2 15 rfl) rfl,
  f_lif_le (e_dx DX3_where_2 16 rfl) (e_dx DX3_where_2 17 rfl) rfl,
  f_iconst (e_dx DX3_where_2 18 rfl) ⟨by decide, by decide⟩,
  f_g19 (e_dx DX3_where_2 19 rfl) rfl,
  f_iconst (e_dx DX3_where_2 20 rfl) ⟨by decide, by decide⟩,
  trivial,
  f_lload (e_dx DX3_where_2 21 rfl),
  f_lload_n (n := 3) (e_dx DX3_where_2 22 rfl) rfl,
  f_lif_le (e_dx DX3_where_2 23 rfl) (e_dx DX3_where_2 24 rfl) rfl,
  f_iconst (e_dx DX3_where_2 25 rfl) ⟨by decide, by decide⟩,
  f_g19 (e_dx DX3_where_2 26 rfl) rfl,
  f_iconst (e_dx DX3_where_2 27 rfl) ⟨by decide, by decide⟩,
  trivial,
  f_icmp_eq (e_dx DX3_where_2 28 rfl) rfl,
  f_iconst (e_dx DX3_where_2 29 rfl) ⟨by decide, by decide⟩,
  f_g19 (e_dx DX3_where_2 30 rfl) rfl,
  f_iconst (e_dx DX3_where_2 31 rfl) ⟨by decide, by decide⟩,
  trivial,
  f_istore (e_dx DX3_where_2 32 rfl) (by decide),
  f_iload (e_dx DX3_where_2 33 rfl),
  f_if_eq (e_dx DX3_where_2 34 rfl) rfl,
  f_lload (e_dx DX3_where_2 35 rfl),
  f_lload (e_dx DX3_where_2 36 rfl),
  f_lif_le (e_dx DX3_where_2 37 rfl) (e_dx DX3_where_2 38 rfl) rfl,
  f_lload (e_dx DX3_where_2 39 rfl),
  f_lconst (n := 0) (e_dx DX3_where_3 0 rfl) rfl,
  f_lif_le (e_dx DX3_where_3 1 rfl) (e_dx DX3_where_3 2 rfl) rfl,
  f_g19 (e_dx DX3_where_3 3 rfl) rfl,
  f_lload (e_dx DX3_where_3 4 rfl),
  f_lconst (n := 0) (e_dx DX3_where_3 5 rfl) rfl,
  f_lif_ge (e_dx DX3_where_3 6 rfl) (e_dx DX3_where_3 7 rfl) rfl,
  trivial,
  f_iload (e_dx DX3_where_3 8 rfl),
  f_if_ne (e_dx DX3_where_3 9 rfl) rfl,
  f_iconst (e_dx DX3_where_3 10 rfl) ⟨by decide, by decide⟩,
  f_g19 (e_dx DX3_where_3 11 rfl) rfl,
  f_iconst (e_dx DX3_where_3 12 rfl) ⟨by decide, by decide⟩,
  trivial,
  f_istore (e_dx DX3_where_3 13 rfl) (by decide),
  trivial,
  f_g8 (e_dx DX3_where_3 14 rfl) ⟨by decide, by decide⟩,
  f_g19 (e_dx DX3_where_3 15 rfl) rfl,
  f_iload (e_dx DX3_where_3 16 rfl),
  f_if_eq (e_dx DX3_where_3 17 rfl) rfl,
  f_iconst (e_dx DX3_where_3 18 rfl) ⟨by decide, by decide⟩,
  f_g19 (e_dx DX3_where_3 19 rfl) rfl,
  f_iconst (e_dx DX3_where_3 20 rfl) ⟨by decide, by decide⟩,
  ⟨(e_dx DX3_where_3 21 rfl), rfl⟩, trivial⟩
def lX3_where (c_X3_next : Nat → Int → e_M → (Int → Prop) → Prop) : List (Nat × f_Wt) := [(0, f_wm [(3, 3, 3), (1, 0, 0)] (fun ar M R => c_X3_next (f_va (f_nth ar 0)) (f_vi (f_nth ar 1)) M (fun r => R (some (.inl r)) M)))]
set_option maxRecDepth 20000 in
theorem BX3_where_6 {sh : Nat → Nat × Nat} {t : Nat} {rm : Nat × Nat × Nat} {cs : Nat × Nat} {R : f_Rt} {c_X3_next : Nat → Int → e_M → (Int → Prop) → Prop} {k159 : Nat → Int → Int → Int → Int → Int → Int → Int → Int → Prop} {a0 : Nat} {x1 : Int} {x3 : Int} {x5 : Int} {x6 : Int} {x7 : Int} {M : e_M} (C : f_Hy sh t yX3_where rm cs 5 (lX3_where c_X3_next) R) (h159 : ∀ (a0 : Nat) (x1 : Int) (x3 : Int) (x5 : Int) (x6 : Int) (x7 : Int) (x11 : Int) (x15 : Int) (x17 : Int), k159 a0 x1 x3 x5 x6 x7 x11 x15 x17 → f_E sh t YX3_where rm cs (f_Q sh t R) 159 [.inr (.inr (.inl (3, 3, a0))), .inr (.inl x1), .inr (.inr (.inr ())), .inr (.inl x3), .inr (.inr (.inr ())), .inl x5, .inl x6, .inl x7, .inr (.inr (.inr ())), .inr (.inr (.inr ())), .inr (.inr (.inr ())), .inr (.inl x11), .inr (.inr (.inr ())), .inr (.inr (.inr ())), .inr (.inr (.inr ())), .inr (.inl x15), .inr (.inr (.inr ())), .inr (.inl x17), .inr (.inr (.inr ())), .inr (.inr (.inr ()))] [] M) (h : VX3_where_6 c_X3_next k159 (fun r => R (some (.inl r)) M) a0 x1 x3 x5 x6 x7 M) : f_E sh t YX3_where rm cs (f_Q sh t R) 6 [.inr (.inr (.inl (3, 3, a0))), .inr (.inl x1), .inr (.inr (.inr ())), .inr (.inl x3), .inr (.inr (.inr ())), .inl x5, .inl x6, .inl x7, .inr (.inr (.inr ())), .inr (.inr (.inr ())), .inr (.inr (.inr ())), .inr (.inr (.inr ())), .inr (.inr (.inr ())), .inr (.inr (.inr ())), .inr (.inr (.inr ())), .inr (.inr (.inr ())), .inr (.inr (.inr ())), .inr (.inr (.inr ())), .inr (.inr (.inr ())), .inr (.inr (.inr ()))] [] M := by
  rw [f_kk9 M k159] at h
  exact f_go (KC := f_kc [(159, f_pl [(3, 3, 3), (2, 0, 0), (0, 0, 0), (2, 0, 0), (0, 0, 0), (1, 0, 0), (1, 0, 0), (1, 0, 0), (0, 0, 0), (0, 0, 0), (0, 0, 0), (2, 0, 0), (0, 0, 0), (0, 0, 0), (0, 0, 0), (2, 0, 0), (0, 0, 0), (2, 0, 0), (0, 0, 0), (0, 0, 0)] [] (fun ls st M2 => M2 = M ∧ (k159 (f_va (f_nth ls 0)) (f_vi (f_nth ls 1)) (f_vi (f_nth ls 3)) (f_vi (f_nth ls 5)) (f_vi (f_nth ls 6)) (f_vi (f_nth ls 7)) (f_vi (f_nth ls 11)) (f_vi (f_nth ls 15)) (f_vi (f_nth ls 17)))))]) C qX3_wheref (f_kc_cons (f_pl_ok rfl (fun ls st M2 ⟨e, hh⟩ => by subst e; exact h159 _ _ _ _ _ _ _ _ _ hh)) f_kc_nil) 147 5 h
set_option maxRecDepth 20000 in
theorem BX3_where_159 {sh : Nat → Nat × Nat} {t : Nat} {rm : Nat × Nat × Nat} {cs : Nat × Nat} {R : f_Rt} {c_X3_next : Nat → Int → e_M → (Int → Prop) → Prop} {k171 : Nat → Int → Int → Int → Int → Int → Int → Int → Int → Int → Prop} {a0 : Nat} {x1 : Int} {x3 : Int} {x5 : Int} {x6 : Int} {x7 : Int} {x11 : Int} {x15 : Int} {x17 : Int} {M : e_M} (C : f_Hy sh t yX3_where rm cs 5 (lX3_where c_X3_next) R) (h171 : ∀ (a0 : Nat) (x1 : Int) (x3 : Int) (x5 : Int) (x6 : Int) (x7 : Int) (x11 : Int) (x15 : Int) (x17 : Int) (xs0 : Int), k171 a0 x1 x3 x5 x6 x7 x11 x15 x17 xs0 → f_E sh t YX3_where rm cs (f_Q sh t R) 171 [.inr (.inr (.inl (3, 3, a0))), .inr (.inl x1), .inr (.inr (.inr ())), .inr (.inl x3), .inr (.inr (.inr ())), .inl x5, .inl x6, .inl x7, .inr (.inr (.inr ())), .inr (.inr (.inr ())), .inr (.inr (.inr ())), .inr (.inl x11), .inr (.inr (.inr ())), .inr (.inr (.inr ())), .inr (.inr (.inr ())), .inr (.inl x15), .inr (.inr (.inr ())), .inr (.inl x17), .inr (.inr (.inr ())), .inr (.inr (.inr ()))] [.inl xs0] M) (h : VX3_where_159 c_X3_next k171 (fun r => R (some (.inl r)) M) a0 x1 x3 x5 x6 x7 x11 x15 x17 M) : f_E sh t YX3_where rm cs (f_Q sh t R) 159 [.inr (.inr (.inl (3, 3, a0))), .inr (.inl x1), .inr (.inr (.inr ())), .inr (.inl x3), .inr (.inr (.inr ())), .inl x5, .inl x6, .inl x7, .inr (.inr (.inr ())), .inr (.inr (.inr ())), .inr (.inr (.inr ())), .inr (.inl x11), .inr (.inr (.inr ())), .inr (.inr (.inr ())), .inr (.inr (.inr ())), .inr (.inl x15), .inr (.inr (.inr ())), .inr (.inl x17), .inr (.inr (.inr ())), .inr (.inr (.inr ()))] [] M := by
  rw [f_kk10 M k171] at h
  exact f_go (KC := f_kc [(171, f_pl [(3, 3, 3), (2, 0, 0), (0, 0, 0), (2, 0, 0), (0, 0, 0), (1, 0, 0), (1, 0, 0), (1, 0, 0), (0, 0, 0), (0, 0, 0), (0, 0, 0), (2, 0, 0), (0, 0, 0), (0, 0, 0), (0, 0, 0), (2, 0, 0), (0, 0, 0), (2, 0, 0), (0, 0, 0), (0, 0, 0)] [(1, 0, 0)] (fun ls st M2 => M2 = M ∧ (k171 (f_va (f_nth ls 0)) (f_vi (f_nth ls 1)) (f_vi (f_nth ls 3)) (f_vi (f_nth ls 5)) (f_vi (f_nth ls 6)) (f_vi (f_nth ls 7)) (f_vi (f_nth ls 11)) (f_vi (f_nth ls 15)) (f_vi (f_nth ls 17)) (f_vi (f_nth st 0)))))]) C qX3_wheref (f_kc_cons (f_pl_ok rfl (fun ls st M2 ⟨e, hh⟩ => by subst e; exact h171 _ _ _ _ _ _ _ _ _ _ hh)) f_kc_nil) 147 96 h
set_option maxRecDepth 20000 in
theorem BX3_where_171 {sh : Nat → Nat × Nat} {t : Nat} {rm : Nat × Nat × Nat} {cs : Nat × Nat} {R : f_Rt} {c_X3_next : Nat → Int → e_M → (Int → Prop) → Prop} {k183 : Nat → Int → Int → Int → Int → Int → Int → Int → Int → Int → Int → Prop} {a0 : Nat} {x1 : Int} {x3 : Int} {x5 : Int} {x6 : Int} {x7 : Int} {x11 : Int} {x15 : Int} {x17 : Int} {xs0 : Int} {M : e_M} (C : f_Hy sh t yX3_where rm cs 5 (lX3_where c_X3_next) R) (h183 : ∀ (a0 : Nat) (x1 : Int) (x3 : Int) (x5 : Int) (x6 : Int) (x7 : Int) (x11 : Int) (x15 : Int) (x17 : Int) (xs1 : Int) (xs0 : Int), k183 a0 x1 x3 x5 x6 x7 x11 x15 x17 xs1 xs0 → f_E sh t YX3_where rm cs (f_Q sh t R) 183 [.inr (.inr (.inl (3, 3, a0))), .inr (.inl x1), .inr (.inr (.inr ())), .inr (.inl x3), .inr (.inr (.inr ())), .inl x5, .inl x6, .inl x7, .inr (.inr (.inr ())), .inr (.inr (.inr ())), .inr (.inr (.inr ())), .inr (.inl x11), .inr (.inr (.inr ())), .inr (.inr (.inr ())), .inr (.inr (.inr ())), .inr (.inl x15), .inr (.inr (.inr ())), .inr (.inl x17), .inr (.inr (.inr ())), .inr (.inr (.inr ()))] [.inl xs1, .inl xs0] M) (h : VX3_where_171 c_X3_next k183 (fun r => R (some (.inl r)) M) a0 x1 x3 x5 x6 x7 x11 x15 x17 xs0 M) : f_E sh t YX3_where rm cs (f_Q sh t R) 171 [.inr (.inr (.inl (3, 3, a0))), .inr (.inl x1), .inr (.inr (.inr ())), .inr (.inl x3), .inr (.inr (.inr ())), .inl x5, .inl x6, .inl x7, .inr (.inr (.inr ())), .inr (.inr (.inr ())), .inr (.inr (.inr ())), .inr (.inl x11), .inr (.inr (.inr ())), .inr (.inr (.inr ())), .inr (.inr (.inr ())), .inr (.inl x15), .inr (.inr (.inr ())), .inr (.inl x17), .inr (.inr (.inr ())), .inr (.inr (.inr ()))] [.inl xs0] M := by
  rw [f_kk11 M k183] at h
  exact f_go (KC := f_kc [(183, f_pl [(3, 3, 3), (2, 0, 0), (0, 0, 0), (2, 0, 0), (0, 0, 0), (1, 0, 0), (1, 0, 0), (1, 0, 0), (0, 0, 0), (0, 0, 0), (0, 0, 0), (2, 0, 0), (0, 0, 0), (0, 0, 0), (0, 0, 0), (2, 0, 0), (0, 0, 0), (2, 0, 0), (0, 0, 0), (0, 0, 0)] [(1, 0, 0), (1, 0, 0)] (fun ls st M2 => M2 = M ∧ (k183 (f_va (f_nth ls 0)) (f_vi (f_nth ls 1)) (f_vi (f_nth ls 3)) (f_vi (f_nth ls 5)) (f_vi (f_nth ls 6)) (f_vi (f_nth ls 7)) (f_vi (f_nth ls 11)) (f_vi (f_nth ls 15)) (f_vi (f_nth ls 17)) (f_vi (f_nth st 0)) (f_vi (f_nth st 1)))))]) C qX3_wheref (f_kc_cons (f_pl_ok rfl (fun ls st M2 ⟨e, hh⟩ => by subst e; exact h183 _ _ _ _ _ _ _ _ _ _ _ hh)) f_kc_nil) 147 103 h
set_option maxRecDepth 20000 in
theorem BX3_where_183 {sh : Nat → Nat × Nat} {t : Nat} {rm : Nat × Nat × Nat} {cs : Nat × Nat} {R : f_Rt} {c_X3_next : Nat → Int → e_M → (Int → Prop) → Prop} {k191 : Nat → Int → Int → Int → Int → Int → Int → Int → Int → Int → Prop} {a0 : Nat} {x1 : Int} {x3 : Int} {x5 : Int} {x6 : Int} {x7 : Int} {x11 : Int} {x15 : Int} {x17 : Int} {xs1 : Int} {xs0 : Int} {M : e_M} (C : f_Hy sh t yX3_where rm cs 5 (lX3_where c_X3_next) R) (h191 : ∀ (a0 : Nat) (x1 : Int) (x3 : Int) (x5 : Int) (x6 : Int) (x7 : Int) (x11 : Int) (x15 : Int) (x17 : Int) (xs0 : Int), k191 a0 x1 x3 x5 x6 x7 x11 x15 x17 xs0 → f_E sh t YX3_where rm cs (f_Q sh t R) 191 [.inr (.inr (.inl (3, 3, a0))), .inr (.inl x1), .inr (.inr (.inr ())), .inr (.inl x3), .inr (.inr (.inr ())), .inl x5, .inl x6, .inl x7, .inr (.inr (.inr ())), .inr (.inr (.inr ())), .inr (.inr (.inr ())), .inr (.inl x11), .inr (.inr (.inr ())), .inr (.inr (.inr ())), .inr (.inr (.inr ())), .inr (.inl x15), .inr (.inr (.inr ())), .inr (.inl x17), .inr (.inr (.inr ())), .inr (.inr (.inr ()))] [.inl xs0] M) (h : VX3_where_183 c_X3_next k191 (fun r => R (some (.inl r)) M) a0 x1 x3 x5 x6 x7 x11 x15 x17 xs1 xs0 M) : f_E sh t YX3_where rm cs (f_Q sh t R) 183 [.inr (.inr (.inl (3, 3, a0))), .inr (.inl x1), .inr (.inr (.inr ())), .inr (.inl x3), .inr (.inr (.inr ())), .inl x5, .inl x6, .inl x7, .inr (.inr (.inr ())), .inr (.inr (.inr ())), .inr (.inr (.inr ())), .inr (.inl x11), .inr (.inr (.inr ())), .inr (.inr (.inr ())), .inr (.inr (.inr ())), .inr (.inl x15), .inr (.inr (.inr ())), .inr (.inl x17), .inr (.inr (.inr ())), .inr (.inr (.inr ()))] [.inl xs1, .inl xs0] M := by
  rw [f_kk10 M k191] at h
  exact f_go (KC := f_kc [(191, f_pl [(3, 3, 3), (2, 0, 0), (0, 0, 0), (2, 0, 0), (0, 0, 0), (1, 0, 0), (1, 0, 0), (1, 0, 0), (0, 0, 0), (0, 0, 0), (0, 0, 0), (2, 0, 0), (0, 0, 0), (0, 0, 0), (0, 0, 0), (2, 0, 0), (0, 0, 0), (2, 0, 0), (0, 0, 0), (0, 0, 0)] [(1, 0, 0)] (fun ls st M2 => M2 = M ∧ (k191 (f_va (f_nth ls 0)) (f_vi (f_nth ls 1)) (f_vi (f_nth ls 3)) (f_vi (f_nth ls 5)) (f_vi (f_nth ls 6)) (f_vi (f_nth ls 7)) (f_vi (f_nth ls 11)) (f_vi (f_nth ls 15)) (f_vi (f_nth ls 17)) (f_vi (f_nth st 0)))))]) C qX3_wheref (f_kc_cons (f_pl_ok rfl (fun ls st M2 ⟨e, hh⟩ => by subst e; exact h191 _ _ _ _ _ _ _ _ _ _ hh)) f_kc_nil) 147 110 h
set_option maxRecDepth 20000 in
theorem BX3_where_191 {sh : Nat → Nat × Nat} {t : Nat} {rm : Nat × Nat × Nat} {cs : Nat × Nat} {R : f_Rt} {c_X3_next : Nat → Int → e_M → (Int → Prop) → Prop} {k235 : Nat → Int → Int → Int → Int → Int → Prop} {k223 : Nat → Int → Int → Int → Int → Int → Prop} {a0 : Nat} {x1 : Int} {x3 : Int} {x5 : Int} {x6 : Int} {x7 : Int} {x11 : Int} {x15 : Int} {x17 : Int} {xs0 : Int} {M : e_M} (C : f_Hy sh t yX3_where rm cs 5 (lX3_where c_X3_next) R) (h235 : ∀ (a0 : Nat) (x1 : Int) (x3 : Int) (x5 : Int) (x6 : Int) (x7 : Int), k235 a0 x1 x3 x5 x6 x7 → f_E sh t YX3_where rm cs (f_Q sh t R) 235 [.inr (.inr (.inl (3, 3, a0))), .inr (.inl x1), .inr (.inr (.inr ())), .inr (.inl x3), .inr (.inr (.inr ())), .inl x5, .inl x6, .inl x7, .inr (.inr (.inr ())), .inr (.inr (.inr ())), .inr (.inr (.inr ())), .inr (.inr (.inr ())), .inr (.inr (.inr ())), .inr (.inr (.inr ())), .inr (.inr (.inr ())), .inr (.inr (.inr ())), .inr (.inr (.inr ())), .inr (.inr (.inr ())), .inr (.inr (.inr ())), .inr (.inr (.inr ()))] [] M) (h223 : ∀ (a0 : Nat) (x1 : Int) (x3 : Int) (x5 : Int) (x6 : Int) (x7 : Int), k223 a0 x1 x3 x5 x6 x7 → f_E sh t YX3_where rm cs (f_Q sh t R) 223 [.inr (.inr (.inl (3, 3, a0))), .inr (.inl x1), .inr (.inr (.inr ())), .inr (.inl x3), .inr (.inr (.inr ())), .inl x5, .inl x6, .inl x7, .inr (.inr (.inr ())), .inr (.inr (.inr ())), .inr (.inr (.inr ())), .inr (.inr (.inr ())), .inr (.inr (.inr ())), .inr (.inr (.inr ())), .inr (.inr (.inr ())), .inr (.inr (.inr ())), .inr (.inr (.inr ())), .inr (.inr (.inr ())), .inr (.inr (.inr ())), .inr (.inr (.inr ()))] [] M) (h : VX3_where_191 c_X3_next k235 k223 (fun r => R (some (.inl r)) M) a0 x1 x3 x5 x6 x7 x11 x15 x17 xs0 M) : f_E sh t YX3_where rm cs (f_Q sh t R) 191 [.inr (.inr (.inl (3, 3, a0))), .inr (.inl x1), .inr (.inr (.inr ())), .inr (.inl x3), .inr (.inr (.inr ())), .inl x5, .inl x6, .inl x7, .inr (.inr (.inr ())), .inr (.inr (.inr ())), .inr (.inr (.inr ())), .inr (.inl x11), .inr (.inr (.inr ())), .inr (.inr (.inr ())), .inr (.inr (.inr ())), .inr (.inl x15), .inr (.inr (.inr ())), .inr (.inl x17), .inr (.inr (.inr ())), .inr (.inr (.inr ()))] [.inl xs0] M := by
  rw [f_kk6 M k235] at h
  rw [f_kk6 M k223] at h
  exact f_go (KC := f_kc [(235, f_pl [(3, 3, 3), (2, 0, 0), (0, 0, 0), (2, 0, 0), (0, 0, 0), (1, 0, 0), (1, 0, 0), (1, 0, 0), (0, 0, 0), (0, 0, 0), (0, 0, 0), (0, 0, 0), (0, 0, 0), (0, 0, 0), (0, 0, 0), (0, 0, 0), (0, 0, 0), (0, 0, 0), (0, 0, 0), (0, 0, 0)] [] (fun ls st M2 => M2 = M ∧ (k235 (f_va (f_nth ls 0)) (f_vi (f_nth ls 1)) (f_vi (f_nth ls 3)) (f_vi (f_nth ls 5)) (f_vi (f_nth ls 6)) (f_vi (f_nth ls 7))))), (223, f_pl [(3, 3, 3), (2, 0, 0), (0, 0, 0), (2, 0, 0), (0, 0, 0), (1, 0, 0), (1, 0, 0), (1, 0, 0), (0, 0, 0), (0, 0, 0), (0, 0, 0), (0, 0, 0), (0, 0, 0), (0, 0, 0), (0, 0, 0), (0, 0, 0), (0, 0, 0), (0, 0, 0), (0, 0, 0), (0, 0, 0)] [] (fun ls st M2 => M2 = M ∧ (k223 (f_va (f_nth ls 0)) (f_vi (f_nth ls 1)) (f_vi (f_nth ls 3)) (f_vi (f_nth ls 5)) (f_vi (f_nth ls 6)) (f_vi (f_nth ls 7)))))]) C qX3_wheref (f_kc_cons (f_pl_ok rfl (fun ls st M2 ⟨e, hh⟩ => by subst e; exact h235 _ _ _ _ _ _ hh)) (f_kc_cons (f_pl_ok rfl (fun ls st M2 ⟨e, hh⟩ => by subst e; exact h223 _ _ _ _ _ _ hh)) f_kc_nil)) 147 115 h
set_option maxRecDepth 20000 in
theorem BX3_where_223 {sh : Nat → Nat × Nat} {t : Nat} {rm : Nat × Nat × Nat} {cs : Nat × Nat} {R : f_Rt} {c_X3_next : Nat → Int → e_M → (Int → Prop) → Prop} {k233 : Nat → Int → Int → Int → Int → Int → Prop} {a0 : Nat} {x1 : Int} {x3 : Int} {x5 : Int} {x6 : Int} {x7 : Int} {M : e_M} (C : f_Hy sh t yX3_where rm cs 5 (lX3_where c_X3_next) R) (h233 : ∀ (a0 : Nat) (x1 : Int) (x3 : Int) (x5 : Int) (x7 : Int) (xs0 : Int), k233 a0 x1 x3 x5 x7 xs0 → f_E sh t YX3_where rm cs (f_Q sh t R) 233 [.inr (.inr (.inl (3, 3, a0))), .inr (.inl x1), .inr (.inr (.inr ())), .inr (.inl x3), .inr (.inr (.inr ())), .inl x5, .inr (.inr (.inr ())), .inl x7, .inr (.inr (.inr ())), .inr (.inr (.inr ())), .inr (.inr (.inr ())), .inr (.inr (.inr ())), .inr (.inr (.inr ())), .inr (.inr (.inr ())), .inr (.inr (.inr ())), .inr (.inr (.inr ())), .inr (.inr (.inr ())), .inr (.inr (.inr ())), .inr (.inr (.inr ())), .inr (.inr (.inr ()))] [.inl xs0] M) (h : VX3_where_223 c_X3_next k233 (fun r => R (some (.inl r)) M) a0 x1 x3 x5 x6 x7 M) : f_E sh t YX3_where rm cs (f_Q sh t R) 223 [.inr (.inr (.inl (3, 3, a0))), .inr (.inl x1), .inr (.inr (.inr ())), .inr (.inl x3), .inr (.inr (.inr ())), .inl x5, .inl x6, .inl x7, .inr (.inr (.inr ())), .inr (.inr (.inr ())), .inr (.inr (.inr ())), .inr (.inr (.inr ())), .inr (.inr (.inr ())), .inr (.inr (.inr ())), .inr (.inr (.inr ())), .inr (.inr (.inr ())), .inr (.inr (.inr ())), .inr (.inr (.inr ())), .inr (.inr (.inr ())), .inr (.inr (.inr ()))] [] M := by
  rw [f_kk6 M k233] at h
  exact f_go (KC := f_kc [(233, f_pl [(3, 3, 3), (2, 0, 0), (0, 0, 0), (2, 0, 0), (0, 0, 0), (1, 0, 0), (0, 0, 0), (1, 0, 0), (0, 0, 0), (0, 0, 0), (0, 0, 0), (0, 0, 0), (0, 0, 0), (0, 0, 0), (0, 0, 0), (0, 0, 0), (0, 0, 0), (0, 0, 0), (0, 0, 0), (0, 0, 0)] [(1, 0, 0)] (fun ls st M2 => M2 = M ∧ (k233 (f_va (f_nth ls 0)) (f_vi (f_nth ls 1)) (f_vi (f_nth ls 3)) (f_vi (f_nth ls 5)) (f_vi (f_nth ls 7)) (f_vi (f_nth st 0)))))]) C qX3_wheref (f_kc_cons (f_pl_ok rfl (fun ls st M2 ⟨e, hh⟩ => by subst e; exact h233 _ _ _ _ _ _ hh)) f_kc_nil) 147 129 h
set_option maxRecDepth 20000 in
theorem BX3_where_233 {sh : Nat → Nat × Nat} {t : Nat} {rm : Nat × Nat × Nat} {cs : Nat × Nat} {R : f_Rt} {c_X3_next : Nat → Int → e_M → (Int → Prop) → Prop} {k235 : Nat → Int → Int → Int → Int → Int → Prop} {a0 : Nat} {x1 : Int} {x3 : Int} {x5 : Int} {x7 : Int} {xs0 : Int} {M : e_M} (C : f_Hy sh t yX3_where rm cs 5 (lX3_where c_X3_next) R) (h235 : ∀ (a0 : Nat) (x1 : Int) (x3 : Int) (x5 : Int) (x6 : Int) (x7 : Int), k235 a0 x1 x3 x5 x6 x7 → f_E sh t YX3_where rm cs (f_Q sh t R) 235 [.inr (.inr (.inl (3, 3, a0))), .inr (.inl x1), .inr (.inr (.inr ())), .inr (.inl x3), .inr (.inr (.inr ())), .inl x5, .inl x6, .inl x7, .inr (.inr (.inr ())), .inr (.inr (.inr ())), .inr (.inr (.inr ())), .inr (.inr (.inr ())), .inr (.inr (.inr ())), .inr (.inr (.inr ())), .inr (.inr (.inr ())), .inr (.inr (.inr ())), .inr (.inr (.inr ())), .inr (.inr (.inr ())), .inr (.inr (.inr ())), .inr (.inr (.inr ()))] [] M) (h : VX3_where_233 c_X3_next k235 (fun r => R (some (.inl r)) M) a0 x1 x3 x5 x7 xs0 M) : f_E sh t YX3_where rm cs (f_Q sh t R) 233 [.inr (.inr (.inl (3, 3, a0))), .inr (.inl x1), .inr (.inr (.inr ())), .inr (.inl x3), .inr (.inr (.inr ())), .inl x5, .inr (.inr (.inr ())), .inl x7, .inr (.inr (.inr ())), .inr (.inr (.inr ())), .inr (.inr (.inr ())), .inr (.inr (.inr ())), .inr (.inr (.inr ())), .inr (.inr (.inr ())), .inr (.inr (.inr ())), .inr (.inr (.inr ())), .inr (.inr (.inr ())), .inr (.inr (.inr ())), .inr (.inr (.inr ())), .inr (.inr (.inr ()))] [.inl xs0] M := by
  rw [f_kk6 M k235] at h
  exact f_go (KC := f_kc [(235, f_pl [(3, 3, 3), (2, 0, 0), (0, 0, 0), (2, 0, 0), (0, 0, 0), (1, 0, 0), (1, 0, 0), (1, 0, 0), (0, 0, 0), (0, 0, 0), (0, 0, 0), (0, 0, 0), (0, 0, 0), (0, 0, 0), (0, 0, 0), (0, 0, 0), (0, 0, 0), (0, 0, 0), (0, 0, 0), (0, 0, 0)] [] (fun ls st M2 => M2 = M ∧ (k235 (f_va (f_nth ls 0)) (f_vi (f_nth ls 1)) (f_vi (f_nth ls 3)) (f_vi (f_nth ls 5)) (f_vi (f_nth ls 6)) (f_vi (f_nth ls 7)))))]) C qX3_wheref (f_kc_cons (f_pl_ok rfl (fun ls st M2 ⟨e, hh⟩ => by subst e; exact h235 _ _ _ _ _ _ hh)) f_kc_nil) 147 135 h
set_option maxRecDepth 20000 in
theorem BX3_where_235 {sh : Nat → Nat × Nat} {t : Nat} {rm : Nat × Nat × Nat} {cs : Nat × Nat} {R : f_Rt} {c_X3_next : Nat → Int → e_M → (Int → Prop) → Prop} {k6 : Nat → Int → Int → Int → Int → Int → Prop} {a0 : Nat} {x1 : Int} {x3 : Int} {x5 : Int} {x6 : Int} {x7 : Int} {M : e_M} (C : f_Hy sh t yX3_where rm cs 5 (lX3_where c_X3_next) R) (h6 : ∀ (a0 : Nat) (x1 : Int) (x3 : Int) (x5 : Int) (x6 : Int) (x7 : Int), k6 a0 x1 x3 x5 x6 x7 → f_E sh t YX3_where rm cs (f_Q sh t R) 6 [.inr (.inr (.inl (3, 3, a0))), .inr (.inl x1), .inr (.inr (.inr ())), .inr (.inl x3), .inr (.inr (.inr ())), .inl x5, .inl x6, .inl x7, .inr (.inr (.inr ())), .inr (.inr (.inr ())), .inr (.inr (.inr ())), .inr (.inr (.inr ())), .inr (.inr (.inr ())), .inr (.inr (.inr ())), .inr (.inr (.inr ())), .inr (.inr (.inr ())), .inr (.inr (.inr ())), .inr (.inr (.inr ())), .inr (.inr (.inr ())), .inr (.inr (.inr ()))] [] M) (h : VX3_where_235 c_X3_next k6 (fun r => R (some (.inl r)) M) a0 x1 x3 x5 x6 x7 M) : f_E sh t YX3_where rm cs (f_Q sh t R) 235 [.inr (.inr (.inl (3, 3, a0))), .inr (.inl x1), .inr (.inr (.inr ())), .inr (.inl x3), .inr (.inr (.inr ())), .inl x5, .inl x6, .inl x7, .inr (.inr (.inr ())), .inr (.inr (.inr ())), .inr (.inr (.inr ())), .inr (.inr (.inr ())), .inr (.inr (.inr ())), .inr (.inr (.inr ())), .inr (.inr (.inr ())), .inr (.inr (.inr ())), .inr (.inr (.inr ())), .inr (.inr (.inr ())), .inr (.inr (.inr ())), .inr (.inr (.inr ()))] [] M := by
  rw [f_kk6 M k6] at h
  exact f_go (KC := f_kc [(6, f_pl [(3, 3, 3), (2, 0, 0), (0, 0, 0), (2, 0, 0), (0, 0, 0), (1, 0, 0), (1, 0, 0), (1, 0, 0), (0, 0, 0), (0, 0, 0), (0, 0, 0), (0, 0, 0), (0, 0, 0), (0, 0, 0), (0, 0, 0), (0, 0, 0), (0, 0, 0), (0, 0, 0), (0, 0, 0), (0, 0, 0)] [] (fun ls st M2 => M2 = M ∧ (k6 (f_va (f_nth ls 0)) (f_vi (f_nth ls 1)) (f_vi (f_nth ls 3)) (f_vi (f_nth ls 5)) (f_vi (f_nth ls 6)) (f_vi (f_nth ls 7)))))]) C qX3_wheref (f_kc_cons (f_pl_ok rfl (fun ls st M2 ⟨e, hh⟩ => by subst e; exact h6 _ _ _ _ _ _ hh)) f_kc_nil) 147 137 h
set_option maxRecDepth 20000 in
theorem BX3_where {sh : Nat → Nat × Nat} {t : Nat} {rm : Nat × Nat × Nat} {cs : Nat × Nat} {R : f_Rt} {c_X3_next : Nat → Int → e_M → (Int → Prop) → Prop} {k6 : Nat → Int → Int → Int → Int → Int → Prop} {a0 : Nat} {x1 : Int} {x3 : Int} {x5 : Int} {M : e_M} (C : f_Hy sh t yX3_where rm cs 5 (lX3_where c_X3_next) R) (h6 : ∀ (a0 : Nat) (x1 : Int) (x3 : Int) (x5 : Int) (x6 : Int) (x7 : Int), k6 a0 x1 x3 x5 x6 x7 → f_E sh t YX3_where rm cs (f_Q sh t R) 6 [.inr (.inr (.inl (3, 3, a0))), .inr (.inl x1), .inr (.inr (.inr ())), .inr (.inl x3), .inr (.inr (.inr ())), .inl x5, .inl x6, .inl x7, .inr (.inr (.inr ())), .inr (.inr (.inr ())), .inr (.inr (.inr ())), .inr (.inr (.inr ())), .inr (.inr (.inr ())), .inr (.inr (.inr ())), .inr (.inr (.inr ())), .inr (.inr (.inr ())), .inr (.inr (.inr ())), .inr (.inr (.inr ())), .inr (.inr (.inr ())), .inr (.inr (.inr ()))] [] M) (h : VX3_where c_X3_next k6 (fun r => R (some (.inl r)) M) a0 x1 x3 x5 M) : f_E sh t YX3_where rm cs (f_Q sh t R) 0 [.inr (.inr (.inl (3, 3, a0))), .inr (.inl x1), .inr (.inr (.inr ())), .inr (.inl x3), .inr (.inr (.inr ())), .inl x5, .inr (.inr (.inr ())), .inr (.inr (.inr ())), .inr (.inr (.inr ())), .inr (.inr (.inr ())), .inr (.inr (.inr ())), .inr (.inr (.inr ())), .inr (.inr (.inr ())), .inr (.inr (.inr ())), .inr (.inr (.inr ())), .inr (.inr (.inr ())), .inr (.inr (.inr ())), .inr (.inr (.inr ())), .inr (.inr (.inr ())), .inr (.inr (.inr ()))] [] M := by
  rw [f_kk6 M k6] at h
  exact f_go (KC := f_kc [(6, f_pl [(3, 3, 3), (2, 0, 0), (0, 0, 0), (2, 0, 0), (0, 0, 0), (1, 0, 0), (1, 0, 0), (1, 0, 0), (0, 0, 0), (0, 0, 0), (0, 0, 0), (0, 0, 0), (0, 0, 0), (0, 0, 0), (0, 0, 0), (0, 0, 0), (0, 0, 0), (0, 0, 0), (0, 0, 0), (0, 0, 0)] [] (fun ls st M2 => M2 = M ∧ (k6 (f_va (f_nth ls 0)) (f_vi (f_nth ls 1)) (f_vi (f_nth ls 3)) (f_vi (f_nth ls 5)) (f_vi (f_nth ls 6)) (f_vi (f_nth ls 7)))))]) C qX3_wheref (f_kc_cons (f_pl_ok rfl (fun ls st M2 ⟨e, hh⟩ => by subst e; exact h6 _ _ _ _ _ _ hh)) f_kc_nil) 147 0 h
def WX3_where_235 (M : e_M) (H6 : Nat → Int → Int → Int → Int → Int → Prop) (Q : Int → Prop) (a0 : Nat) (x1 : Int) (x3 : Int) (x5 : Int) (x6 : Int) (x7 : Int) : Prop :=
  VX3_where_235 WX3_next H6 Q a0 x1 x3 x5 x6 x7 M
def WX3_where_233 (M : e_M) (H6 : Nat → Int → Int → Int → Int → Int → Prop) (Q : Int → Prop) (a0 : Nat) (x1 : Int) (x3 : Int) (x5 : Int) (x7 : Int) (xs0 : Int) : Prop :=
  VX3_where_233 WX3_next (WX3_where_235 M H6 Q) Q a0 x1 x3 x5 x7 xs0 M
def WX3_where_223 (M : e_M) (H6 : Nat → Int → Int → Int → Int → Int → Prop) (Q : Int → Prop) (a0 : Nat) (x1 : Int) (x3 : Int) (x5 : Int) (x6 : Int) (x7 : Int) : Prop :=
  VX3_where_223 WX3_next (WX3_where_233 M H6 Q) Q a0 x1 x3 x5 x6 x7 M
def WX3_where_191 (M : e_M) (H6 : Nat → Int → Int → Int → Int → Int → Prop) (Q : Int → Prop) (a0 : Nat) (x1 : Int) (x3 : Int) (x5 : Int) (x6 : Int) (x7 : Int) (x11 : Int) (x15 : Int) (x17 : Int) (xs0 : Int) : Prop :=
  VX3_where_191 WX3_next (WX3_where_235 M H6 Q) (WX3_where_223 M H6 Q) Q a0 x1 x3 x5 x6 x7 x11 x15 x17 xs0 M
def WX3_where_183 (M : e_M) (H6 : Nat → Int → Int → Int → Int → Int → Prop) (Q : Int → Prop) (a0 : Nat) (x1 : Int) (x3 : Int) (x5 : Int) (x6 : Int) (x7 : Int) (x11 : Int) (x15 : Int) (x17 : Int) (xs1 : Int) (xs0 : Int) : Prop :=
  VX3_where_183 WX3_next (WX3_where_191 M H6 Q) Q a0 x1 x3 x5 x6 x7 x11 x15 x17 xs1 xs0 M
def WX3_where_171 (M : e_M) (H6 : Nat → Int → Int → Int → Int → Int → Prop) (Q : Int → Prop) (a0 : Nat) (x1 : Int) (x3 : Int) (x5 : Int) (x6 : Int) (x7 : Int) (x11 : Int) (x15 : Int) (x17 : Int) (xs0 : Int) : Prop :=
  VX3_where_171 WX3_next (WX3_where_183 M H6 Q) Q a0 x1 x3 x5 x6 x7 x11 x15 x17 xs0 M
def WX3_where_159 (M : e_M) (H6 : Nat → Int → Int → Int → Int → Int → Prop) (Q : Int → Prop) (a0 : Nat) (x1 : Int) (x3 : Int) (x5 : Int) (x6 : Int) (x7 : Int) (x11 : Int) (x15 : Int) (x17 : Int) : Prop :=
  VX3_where_159 WX3_next (WX3_where_171 M H6 Q) Q a0 x1 x3 x5 x6 x7 x11 x15 x17 M
def WX3_where_6 (M : e_M) (Q : Int → Prop) : Nat → Nat → Int → Int → Int → Int → Int → Prop
  | 0, _, _, _, _, _, _ => False
  | n + 1, a0, x1, x3, x5, x6, x7 =>
    VX3_where_6 WX3_next (WX3_where_159 M (WX3_where_6 M Q n) Q) Q a0 x1 x3 x5 x6 x7 M
def WX3_where (a0 : Nat) (x1 : Int) (x3 : Int) (x5 : Int) (M : e_M) (Q : Int → Prop) : Prop :=
  VX3_where WX3_next (fun a0 x1 x3 x5 x6 x7 => ∃ j, WX3_where_6 M Q j a0 x1 x3 x5 x6 x7) Q a0 x1 x3 x5 M
theorem PX3_where_235 {sh : Nat → Nat × Nat} {t : Nat} {rm : Nat × Nat × Nat} {cs : Nat × Nat} {R : f_Rt} {H6 : Nat → Int → Int → Int → Int → Int → Prop} {a0 : Nat} {x1 : Int} {x3 : Int} {x5 : Int} {x6 : Int} {x7 : Int} {M : e_M} (C : f_Hy sh t yX3_where rm cs 5 (lX3_where WX3_next) R) (g6 : ∀ (a0 : Nat) (x1 : Int) (x3 : Int) (x5 : Int) (x6 : Int) (x7 : Int), H6 a0 x1 x3 x5 x6 x7 → f_E sh t YX3_where rm cs (f_Q sh t R) 6 [.inr (.inr (.inl (3, 3, a0))), .inr (.inl x1), .inr (.inr (.inr ())), .inr (.inl x3), .inr (.inr (.inr ())), .inl x5, .inl x6, .inl x7, .inr (.inr (.inr ())), .inr (.inr (.inr ())), .inr (.inr (.inr ())), .inr (.inr (.inr ())), .inr (.inr (.inr ())), .inr (.inr (.inr ())), .inr (.inr (.inr ())), .inr (.inr (.inr ())), .inr (.inr (.inr ())), .inr (.inr (.inr ())), .inr (.inr (.inr ())), .inr (.inr (.inr ()))] [] M) (h : WX3_where_235 M H6 (fun r => R (some (.inl r)) M) a0 x1 x3 x5 x6 x7) : f_E sh t YX3_where rm cs (f_Q sh t R) 235 [.inr (.inr (.inl (3, 3, a0))), .inr (.inl x1), .inr (.inr (.inr ())), .inr (.inl x3), .inr (.inr (.inr ())), .inl x5, .inl x6, .inl x7, .inr (.inr (.inr ())), .inr (.inr (.inr ())), .inr (.inr (.inr ())), .inr (.inr (.inr ())), .inr (.inr (.inr ())), .inr (.inr (.inr ())), .inr (.inr (.inr ())), .inr (.inr (.inr ())), .inr (.inr (.inr ())), .inr (.inr (.inr ())), .inr (.inr (.inr ())), .inr (.inr (.inr ()))] [] M :=
  BX3_where_235 C g6 h
theorem PX3_where_233 {sh : Nat → Nat × Nat} {t : Nat} {rm : Nat × Nat × Nat} {cs : Nat × Nat} {R : f_Rt} {H6 : Nat → Int → Int → Int → Int → Int → Prop} {a0 : Nat} {x1 : Int} {x3 : Int} {x5 : Int} {x7 : Int} {xs0 : Int} {M : e_M} (C : f_Hy sh t yX3_where rm cs 5 (lX3_where WX3_next) R) (g6 : ∀ (a0 : Nat) (x1 : Int) (x3 : Int) (x5 : Int) (x6 : Int) (x7 : Int), H6 a0 x1 x3 x5 x6 x7 → f_E sh t YX3_where rm cs (f_Q sh t R) 6 [.inr (.inr (.inl (3, 3, a0))), .inr (.inl x1), .inr (.inr (.inr ())), .inr (.inl x3), .inr (.inr (.inr ())), .inl x5, .inl x6, .inl x7, .inr (.inr (.inr ())), .inr (.inr (.inr ())), .inr (.inr (.inr ())), .inr (.inr (.inr ())), .inr (.inr (.inr ())), .inr (.inr (.inr ())), .inr (.inr (.inr ())), .inr (.inr (.inr ())), .inr (.inr (.inr ())), .inr (.inr (.inr ())), .inr (.inr (.inr ())), .inr (.inr (.inr ()))] [] M) (h : WX3_where_233 M H6 (fun r => R (some (.inl r)) M) a0 x1 x3 x5 x7 xs0) : f_E sh t YX3_where rm cs (f_Q sh t R) 233 [.inr (.inr (.inl (3, 3, a0))), .inr (.inl x1), .inr (.inr (.inr ())), .inr (.inl x3), .inr (.inr (.inr ())), .inl x5, .inr (.inr (.inr ())), .inl x7, .inr (.inr (.inr ())), .inr (.inr (.inr ())), .inr (.inr (.inr ())), .inr (.inr (.inr ())), .inr (.inr (.inr ())), .inr (.inr (.inr ())), .inr (.inr (.inr ())), .inr (.inr (.inr ())), .inr (.inr (.inr ())), .inr (.inr (.inr ())), .inr (.inr (.inr ())), .inr (.inr (.inr ()))] [.inl xs0] M :=
  BX3_where_233 C (fun a0 x1 x3 x5 x6 x7 h => PX3_where_235 C g6 h) h
theorem PX3_where_223 {sh : Nat → Nat × Nat} {t : Nat} {rm : Nat × Nat × Nat} {cs : Nat × Nat} {R : f_Rt} {H6 : Nat → Int → Int → Int → Int → Int → Prop} {a0 : Nat} {x1 : Int} {x3 : Int} {x5 : Int} {x6 : Int} {x7 : Int} {M : e_M} (C : f_Hy sh t yX3_where rm cs 5 (lX3_where WX3_next) R) (g6 : ∀ (a0 : Nat) (x1 : Int) (x3 : Int) (x5 : Int) (x6 : Int) (x7 : Int), H6 a0 x1 x3 x5 x6 x7 → f_E sh t YX3_where rm cs (f_Q sh t R) 6 [.inr (.inr (.inl (3, 3, a0))), .inr (.inl x1), .inr (.inr (.inr ())), .inr (.inl x3), .inr (.inr (.inr ())), .inl x5, .inl x6, .inl x7, .inr (.inr (.inr ())), .inr (.inr (.inr ())), .inr (.inr (.inr ())), .inr (.inr (.inr ())), .inr (.inr (.inr ())), .inr (.inr (.inr ())), .inr (.inr (.inr ())), .inr (.inr (.inr ())), .inr (.inr (.inr ())), .inr (.inr (.inr ())), .inr (.inr (.inr ())), .inr (.inr (.inr ()))] [] M) (h : WX3_where_223 M H6 (fun r => R (some (.inl r)) M) a0 x1 x3 x5 x6 x7) : f_E sh t YX3_where rm cs (f_Q sh t R) 223 [.inr (.inr (.inl (3, 3, a0))), .inr (.inl x1), .inr (.inr (.inr ())), .inr (.inl x3), .inr (.inr (.inr ())), .inl x5, .inl x6, .inl x7, .inr (.inr (.inr ())), .inr (.inr (.inr ())), .inr (.inr (.inr ())), .inr (.inr (.inr ())), .inr (.inr (.inr ())), .inr (.inr (.inr ())), .inr (.inr (.inr ())), .inr (.inr (.inr ())), .inr (.inr (.inr ())), .inr (.inr (.inr ())), .inr (.inr (.inr ())), .inr (.inr (.inr ()))] [] M :=
  BX3_where_223 C (fun a0 x1 x3 x5 x7 xs0 h => PX3_where_233 C g6 h) h
theorem PX3_where_191 {sh : Nat → Nat × Nat} {t : Nat} {rm : Nat × Nat × Nat} {cs : Nat × Nat} {R : f_Rt} {H6 : Nat → Int → Int → Int → Int → Int → Prop} {a0 : Nat} {x1 : Int} {x3 : Int} {x5 : Int} {x6 : Int} {x7 : Int} {x11 : Int} {x15 : Int} {x17 : Int} {xs0 : Int} {M : e_M} (C : f_Hy sh t yX3_where rm cs 5 (lX3_where WX3_next) R) (g6 : ∀ (a0 : Nat) (x1 : Int) (x3 : Int) (x5 : Int) (x6 : Int) (x7 : Int), H6 a0 x1 x3 x5 x6 x7 → f_E sh t YX3_where rm cs (f_Q sh t R) 6 [.inr (.inr (.inl (3, 3, a0))), .inr (.inl x1), .inr (.inr (.inr ())), .inr (.inl x3), .inr (.inr (.inr ())), .inl x5, .inl x6, .inl x7, .inr (.inr (.inr ())), .inr (.inr (.inr ())), .inr (.inr (.inr ())), .inr (.inr (.inr ())), .inr (.inr (.inr ())), .inr (.inr (.inr ())), .inr (.inr (.inr ())), .inr (.inr (.inr ())), .inr (.inr (.inr ())), .inr (.inr (.inr ())), .inr (.inr (.inr ())), .inr (.inr (.inr ()))] [] M) (h : WX3_where_191 M H6 (fun r => R (some (.inl r)) M) a0 x1 x3 x5 x6 x7 x11 x15 x17 xs0) : f_E sh t YX3_where rm cs (f_Q sh t R) 191 [.inr (.inr (.inl (3, 3, a0))), .inr (.inl x1), .inr (.inr (.inr ())), .inr (.inl x3), .inr (.inr (.inr ())), .inl x5, .inl x6, .inl x7, .inr (.inr (.inr ())), .inr (.inr (.inr ())), .inr (.inr (.inr ())), .inr (.inl x11), .inr (.inr (.inr ())), .inr (.inr (.inr ())), .inr (.inr (.inr ())), .inr (.inl x15), .inr (.inr (.inr ())), .inr (.inl x17), .inr (.inr (.inr ())), .inr (.inr (.inr ()))] [.inl xs0] M :=
  BX3_where_191 C (fun a0 x1 x3 x5 x6 x7 h => PX3_where_235 C g6 h) (fun a0 x1 x3 x5 x6 x7 h => PX3_where_223 C g6 h) h
theorem PX3_where_183 {sh : Nat → Nat × Nat} {t : Nat} {rm : Nat × Nat × Nat} {cs : Nat × Nat} {R : f_Rt} {H6 : Nat → Int → Int → Int → Int → Int → Prop} {a0 : Nat} {x1 : Int} {x3 : Int} {x5 : Int} {x6 : Int} {x7 : Int} {x11 : Int} {x15 : Int} {x17 : Int} {xs1 : Int} {xs0 : Int} {M : e_M} (C : f_Hy sh t yX3_where rm cs 5 (lX3_where WX3_next) R) (g6 : ∀ (a0 : Nat) (x1 : Int) (x3 : Int) (x5 : Int) (x6 : Int) (x7 : Int), H6 a0 x1 x3 x5 x6 x7 → f_E sh t YX3_where rm cs (f_Q sh t R) 6 [.inr (.inr (.inl (3, 3, a0))), .inr (.inl x1), .inr (.inr (.inr ())), .inr (.inl x3), .inr (.inr (.inr ())), .inl x5, .inl x6, .inl x7, .inr (.inr (.inr ())), .inr (.inr (.inr ())), .inr (.inr (.inr ())), .inr (.inr (.inr ())), .inr (.inr (.inr ())), .inr (.inr (.inr ())), .inr (.inr (.inr ())), .inr (.inr (.inr ())), .inr (.inr (.inr ())), .inr (.inr (.inr ())), .inr (.inr (.inr ())), .inr (.inr (.inr ()))] [] M) (h : WX3_where_183 M H6 (fun r => R (some (.inl r)) M) a0 x1 x3 x5 x6 x7 x11 x15 x17 xs1 xs0) : f_E sh t YX3_where rm cs (f_Q sh t R) 183 [.inr (.inr (.inl (3, 3, a0))), .inr (.inl x1), .inr (.inr (.inr ())), .inr (.inl x3), .inr (.inr (.inr ())), .inl x5, .inl x6, .inl x7, .inr (.inr (.inr ())), .inr (.inr (.inr ())), .inr (.inr (.inr ())), .inr (.inl x11), .inr (.inr (.inr ())), .inr (.inr (.inr ())), .inr (.inr (.inr ())), .inr (.inl x15), .inr (.inr (.inr ())), .inr (.inl x17), .inr (.inr (.inr ())), .inr (.inr (.inr ()))] [.inl xs1, .inl xs0] M :=
  BX3_where_183 C (fun a0 x1 x3 x5 x6 x7 x11 x15 x17 xs0 h => PX3_where_191 C g6 h) h
theorem PX3_where_171 {sh : Nat → Nat × Nat} {t : Nat} {rm : Nat × Nat × Nat} {cs : Nat × Nat} {R : f_Rt} {H6 : Nat → Int → Int → Int → Int → Int → Prop} {a0 : Nat} {x1 : Int} {x3 : Int} {x5 : Int} {x6 : Int} {x7 : Int} {x11 : Int} {x15 : Int} {x17 : Int} {xs0 : Int} {M : e_M} (C : f_Hy sh t yX3_where rm cs 5 (lX3_where WX3_next) R) (g6 : ∀ (a0 : Nat) (x1 : Int) (x3 : Int) (x5 : Int) (x6 : Int) (x7 : Int), H6 a0 x1 x3 x5 x6 x7 → f_E sh t YX3_where rm cs (f_Q sh t R) 6 [.inr (.inr (.inl (3, 3, a0))), .inr (.inl x1), .inr (.inr (.inr ())), .inr (.inl x3), .inr (.inr (.inr ())), .inl x5, .inl x6, .inl x7, .inr (.inr (.inr ())), .inr (.inr (.inr ())), .inr (.inr (.inr ())), .inr (.inr (.inr ())), .inr (.inr (.inr ())), .inr (.inr (.inr ())), .inr (.inr (.inr ())), .inr (.inr (.inr ())), .inr (.inr (.inr ())), .inr (.inr (.inr ())), .inr (.inr (.inr ())), .inr (.inr (.inr ()))] [] M) (h : WX3_where_171 M H6 (fun r => R (some (.inl r)) M) a0 x1 x3 x5 x6 x7 x11 x15 x17 xs0) : f_E sh t YX3_where rm cs (f_Q sh t R) 171 [.inr (.inr (.inl (3, 3, a0))), .inr (.inl x1), .inr (.inr (.inr ())), .inr (.inl x3), .inr (.inr (.inr ())), .inl x5, .inl x6, .inl x7, .inr (.inr (.inr ())), .inr (.inr (.inr ())), .inr (.inr (.inr ())), .inr (.inl x11), .inr (.inr (.inr ())), .inr (.inr (.inr ())), .inr (.inr (.inr ())), .inr (.inl x15), .inr (.inr (.inr ())), .inr (.inl x17), .inr (.inr (.inr ())), .inr (.inr (.inr ()))] [.inl xs0] M :=
  BX3_where_171 C (fun a0 x1 x3 x5 x6 x7 x11 x15 x17 xs1 xs0 h => PX3_where_183 C g6 h) h
theorem PX3_where_159 {sh : Nat → Nat × Nat} {t : Nat} {rm : Nat × Nat × Nat} {cs : Nat × Nat} {R : f_Rt} {H6 : Nat → Int → Int → Int → Int → Int → Prop} {a0 : Nat} {x1 : Int} {x3 : Int} {x5 : Int} {x6 : Int} {x7 : Int} {x11 : Int} {x15 : Int} {x17 : Int} {M : e_M} (C : f_Hy sh t yX3_where rm cs 5 (lX3_where WX3_next) R) (g6 : ∀ (a0 : Nat) (x1 : Int) (x3 : Int) (x5 : Int) (x6 : Int) (x7 : Int), H6 a0 x1 x3 x5 x6 x7 → f_E sh t YX3_where rm cs (f_Q sh t R) 6 [.inr (.inr (.inl (3, 3, a0))), .inr (.inl x1), .inr (.inr (.inr ())), .inr (.inl x3), .inr (.inr (.inr ())), .inl x5, .inl x6, .inl x7, .inr (.inr (.inr ())), .inr (.inr (.inr ())), .inr (.inr (.inr ())), .inr (.inr (.inr ())), .inr (.inr (.inr ())), .inr (.inr (.inr ())), .inr (.inr (.inr ())), .inr (.inr (.inr ())), .inr (.inr (.inr ())), .inr (.inr (.inr ())), .inr (.inr (.inr ())), .inr (.inr (.inr ()))] [] M) (h : WX3_where_159 M H6 (fun r => R (some (.inl r)) M) a0 x1 x3 x5 x6 x7 x11 x15 x17) : f_E sh t YX3_where rm cs (f_Q sh t R) 159 [.inr (.inr (.inl (3, 3, a0))), .inr (.inl x1), .inr (.inr (.inr ())), .inr (.inl x3), .inr (.inr (.inr ())), .inl x5, .inl x6, .inl x7, .inr (.inr (.inr ())), .inr (.inr (.inr ())), .inr (.inr (.inr ())), .inr (.inl x11), .inr (.inr (.inr ())), .inr (.inr (.inr ())), .inr (.inr (.inr ())), .inr (.inl x15), .inr (.inr (.inr ())), .inr (.inl x17), .inr (.inr (.inr ())), .inr (.inr (.inr ()))] [] M :=
  BX3_where_159 C (fun a0 x1 x3 x5 x6 x7 x11 x15 x17 xs0 h => PX3_where_171 C g6 h) h
theorem PX3_where_6 {sh : Nat → Nat × Nat} {t : Nat} {rm : Nat × Nat × Nat} {cs : Nat × Nat} {R : f_Rt} {M : e_M} (C : f_Hy sh t yX3_where rm cs 5 (lX3_where WX3_next) R) : ∀ (n : Nat) (a0 : Nat) (x1 : Int) (x3 : Int) (x5 : Int) (x6 : Int) (x7 : Int), WX3_where_6 M (fun r => R (some (.inl r)) M) n a0 x1 x3 x5 x6 x7 → f_E sh t YX3_where rm cs (f_Q sh t R) 6 [.inr (.inr (.inl (3, 3, a0))), .inr (.inl x1), .inr (.inr (.inr ())), .inr (.inl x3), .inr (.inr (.inr ())), .inl x5, .inl x6, .inl x7, .inr (.inr (.inr ())), .inr (.inr (.inr ())), .inr (.inr (.inr ())), .inr (.inr (.inr ())), .inr (.inr (.inr ())), .inr (.inr (.inr ())), .inr (.inr (.inr ())), .inr (.inr (.inr ())), .inr (.inr (.inr ())), .inr (.inr (.inr ())), .inr (.inr (.inr ())), .inr (.inr (.inr ()))] [] M := by
  intro n
  induction n with
  | zero => intro a0 x1 x3 x5 x6 x7 h; exact h.elim
  | succ n ih => intro a0 x1 x3 x5 x6 x7 h; exact BX3_where_6 C (fun a0 x1 x3 x5 x6 x7 x11 x15 x17 h => PX3_where_159 C ih h) h
theorem PX3_where {sh : Nat → Nat × Nat} {t : Nat} {rm : Nat × Nat × Nat} {cs : Nat × Nat} {R : f_Rt} {a0 : Nat} {x1 : Int} {x3 : Int} {x5 : Int} {M : e_M} (C : f_Hy sh t yX3_where rm cs 5 (lX3_where WX3_next) R) (h : WX3_where a0 x1 x3 x5 M (fun r => R (some (.inl r)) M)) : f_E sh t YX3_where rm cs (f_Q sh t R) 0 [.inr (.inr (.inl (3, 3, a0))), .inr (.inl x1), .inr (.inr (.inr ())), .inr (.inl x3), .inr (.inr (.inr ())), .inl x5, .inr (.inr (.inr ())), .inr (.inr (.inr ())), .inr (.inr (.inr ())), .inr (.inr (.inr ())), .inr (.inr (.inr ())), .inr (.inr (.inr ())), .inr (.inr (.inr ())), .inr (.inr (.inr ())), .inr (.inr (.inr ())), .inr (.inr (.inr ())), .inr (.inr (.inr ())), .inr (.inr (.inr ())), .inr (.inr (.inr ())), .inr (.inr (.inr ()))] [] M :=
  BX3_where C (fun a0 x1 x3 x5 x6 x7 ⟨j, h⟩ => PX3_where_6 C j _ _ _ _ _ _ h) h
def wX3_where : f_Wt := f_wm [(3, 3, 3), (2, 0, 0), (2, 0, 0), (1, 0, 0)] (fun ar M R => WX3_where (f_va (f_nth ar 0)) (f_vi (f_nth ar 1)) (f_vi (f_nth ar 2)) (f_vi (f_nth ar 3)) M (fun r => R (some (.inl r)) M))
theorem TX3_where {sh : Nat → Nat × Nat} {t : Nat} : f_Mt sh t YX3_where 5 (wX3_where) :=
  f_Mt_of (k := 14) (Nat.le_of_ble_eq_true rfl) rfl rfl (fun ar M R rm cs h1 h2 h3 hX h => PX3_where ⟨Nat.le_of_ble_eq_true rfl, h1, h2, h3, ⟨(f_Mt.up (Nat.le_of_ble_eq_true rfl) TX3_next), trivial⟩, hX⟩ h)
def VX11_isOn (Q : Int → Prop) (x0 : Int) (x1 : Int) (x2 : Int) (x3 : Int) (x4 : Int) (x5 : Int) (M : e_M) : Prop :=
  ((x4 < (e_min x0 x2) → (Q 0)) ∧ ((e_min x0 x2) ≤ x4 → (((e_max x0 x2) < x4 → (Q 0)) ∧ (x4 ≤ (e_max x0 x2) → ((x5 < (e_min x1 x3) → (Q 0)) ∧ ((e_min x1 x3) ≤ x5 → (((e_max x1 x3) < x5 → (Q 0)) ∧ (x5 ≤ (e_max x1 x3) → ((¬ (e_w64 ((e_w32 (x2 - x0)) * (e_w32 (x5 - x1)))) = (e_w64 ((e_w32 (x3 - x1)) * (e_w32 (x4 - x0)))) → (Q 0)) ∧ ((e_w64 ((e_w32 (x2 - x0)) * (e_w32 (x5 - x1)))) = (e_w64 ((e_w32 (x3 - x1)) * (e_w32 (x4 - x0)))) → (Q 1)))))))))))
def yX11_isOn (i : Nat) : e_Y := x_get YX11_isOn [] i
def pX11_isOnf : List x_I := [(0, 2, 2, 4, 0, 0, []), (2, 2, 1, 0, 0, 0, []), (3, 2, 1, 2, 0, 0, []), (4, 39, 0, 0, 0, 0, []), (7, 18, 68, 2, 42, 0, []), (10, 2, 2, 4, 0, 0, []), (12, 2, 1, 0, 0, 0, []), (13, 2, 1, 2, 0, 0, []), (14, 39, 0, 1, 0, 0, []), (17, 18, 68, 4, 42, 0, []), (20, 2, 2, 5, 0, 0, []), (22, 2, 1, 1, 0, 0, []), (23, 2, 1, 3, 0, 0, []), (24, 39, 0, 0, 0, 0, []), (27, 18, 68, 2, 42, 0, []), (30, 2, 2, 5, 0, 0, []), (32, 2, 1, 1, 0, 0, []), (33, 2, 1, 3, 0, 0, []), (34, 39, 0, 1, 0, 0, []), (37, 18, 68, 4, 42, 0, []), (40, 2, 1, 2, 0, 0, []), (41, 2, 1, 0, 0, 0, []), (42, 9, 0, 1, 0, 0, []), (43, 14, 0, 0, 0, 0, []), (44, 2, 2, 5, 0, 0, []), (46, 2, 1, 1, 0, 0, []), (47, 9, 0, 1, 0, 0, []), (48, 14, 0, 0, 0, 0, []), (49, 10, 0, 2, 0, 0, []), (50, 2, 1, 3, 0, 0, []), (51, 2, 1, 1, 0, 0, []), (52, 9, 0, 1, 0, 0, []), (53, 14, 0, 0, 0, 0, []), (54, 2, 2, 4, 0, 0, []), (56, 2, 1, 0, 0, 0, []), (57, 9, 0, 1, 0, 0, []), (58, 14, 0, 0, 0, 0, []), (59, 10, 0, 2, 0, 0, []), (60, 32, 68, 1, 42, 0, []), (64, 0, 1, 0, 0, 1, []), (65, 19, 69, 0, 43, 0, []), (68, 0, 1, 0, 0, 0, []), (69, 48, 0, 0, 0, 0, [])]
set_option maxRecDepth 20000 in
theorem qX11_isOnf : f_all yX11_isOn YX11_isOn pX11_isOnf :=
  ⟨f_iload (e_dx DX11_isOn_0 0 rfl),
  f_iload_n (n := 0) (e_dx DX11_isOn_0 1 rfl) rfl,
  f_iload_n (n := 2) (e_dx DX11_isOn_0 2 rfl) rfl,
  f_mminI (e_dx DX11_isOn_0 3 rfl) cX11_171 fm_s_mminI fm_i fm_c_mminI,
  f_icmp_lt (e_dx DX11_isOn_0 4 rfl) rfl,
  f_iload (e_dx DX11_isOn_0 5 rfl),
  f_iload_n (n := 0) (e_dx DX11_isOn_0 6 rfl) rfl,
  f_iload_n (n := 2) (e_dx DX11_isOn_0 7 rfl) rfl,
  f_mmaxI (e_dx DX11_isOn_0 8 rfl) cX11_270 fm_s_mmaxI fm_i fm_c_mmaxI,
  f_icmp_gt (e_dx DX11_isOn_0 9 rfl) rfl,
  f_iload (e_dx DX11_isOn_0 10 rfl),
  f_iload_n (n := 1) (e_dx DX11_isOn_0 11 rfl) rfl,
  f_iload_n (n := 3) (e_dx DX11_isOn_0 12 rfl) rfl,
  f_mminI (e_dx DX11_isOn_0 13 rfl) cX11_171 fm_s_mminI fm_i fm_c_mminI,
  f_icmp_lt (e_dx DX11_isOn_0 14 rfl) rfl,
  f_iload (e_dx DX11_isOn_0 15 rfl),
  f_iload_n (n := 1) (e_dx DX11_isOn_0 16 rfl) rfl,
  f_iload_n (n := 3) (e_dx DX11_isOn_0 17 rfl) rfl,
  f_mmaxI (e_dx DX11_isOn_0 18 rfl) cX11_270 fm_s_mmaxI fm_i fm_c_mmaxI,
  f_icmp_gt (e_dx DX11_isOn_0 19 rfl) rfl,
  f_iload_n (n := 2) (e_dx DX11_isOn_0 20 rfl) rfl,
  f_iload_n (n := 0) (e_dx DX11_isOn_0 21 rfl) rfl,
  f_isub (e_dx DX11_isOn_0 22 rfl),
  f_g14 (e_dx DX11_isOn_0 23 rfl),
  f_iload (e_dx DX11_isOn_0 24 rfl),
  f_iload_n (n := 1) (e_dx DX11_isOn_0 25 rfl) rfl,
  f_isub (e_dx DX11_isOn_0 26 rfl),
  f_g14 (e_dx DX11_isOn_0 27 rfl),
  f_lmul (e_dx DX11_isOn_0 28 rfl),
  f_iload_n (n := 3) (e_dx DX11_isOn_0 29 rfl) rfl,
  f_iload_n (n := 1) (e_dx DX11_isOn_0 30 rfl) rfl,
  f_isub (e_dx DX11_isOn_0 31 rfl),
  f_g14 (e_dx DX11_isOn_0 32 rfl),
  f_iload (e_dx DX11_isOn_0 33 rfl),
  f_iload_n (n := 0) (e_dx DX11_isOn_0 34 rfl) rfl,
  f_isub (e_dx DX11_isOn_0 35 rfl),
  f_g14 (e_dx DX11_isOn_0 36 rfl),
  f_lmul (e_dx DX11_isOn_0 37 rfl),
  f_lif_ne (e_dx DX11_isOn_0 38 rfl) (e_dx DX11_isOn_0 39 rfl) rfl,
  f_iconst (e_dx DX11_isOn_1 0 rfl) ⟨by decide, by decide⟩,
  f_g19 (e_dx DX11_isOn_1 1 rfl) rfl,
  f_iconst (e_dx DX11_isOn_1 2 rfl) ⟨by decide, by decide⟩,
  ⟨(e_dx DX11_isOn_1 3 rfl), rfl⟩, trivial⟩
def lX11_isOn : List (Nat × f_Wt) := []
set_option maxRecDepth 20000 in
theorem BX11_isOn {sh : Nat → Nat × Nat} {t : Nat} {rm : Nat × Nat × Nat} {cs : Nat × Nat} {R : f_Rt} {x0 : Int} {x1 : Int} {x2 : Int} {x3 : Int} {x4 : Int} {x5 : Int} {M : e_M} (C : f_Hy sh t yX11_isOn rm cs 4 (lX11_isOn) R) (h : VX11_isOn (fun r => R (some (.inl r)) M) x0 x1 x2 x3 x4 x5 M) : f_E sh t YX11_isOn rm cs (f_Q sh t R) 0 [.inl x0, .inl x1, .inl x2, .inl x3, .inl x4, .inl x5] [] M :=
  f_go (KC := f_kc []) C qX11_isOnf f_kc_nil 45 0 h
def WX11_isOn (x0 : Int) (x1 : Int) (x2 : Int) (x3 : Int) (x4 : Int) (x5 : Int) (M : e_M) (Q : Int → Prop) : Prop :=
  VX11_isOn Q x0 x1 x2 x3 x4 x5 M
theorem PX11_isOn {sh : Nat → Nat × Nat} {t : Nat} {rm : Nat × Nat × Nat} {cs : Nat × Nat} {R : f_Rt} {x0 : Int} {x1 : Int} {x2 : Int} {x3 : Int} {x4 : Int} {x5 : Int} {M : e_M} (C : f_Hy sh t yX11_isOn rm cs 4 (lX11_isOn) R) (h : WX11_isOn x0 x1 x2 x3 x4 x5 M (fun r => R (some (.inl r)) M)) : f_E sh t YX11_isOn rm cs (f_Q sh t R) 0 [.inl x0, .inl x1, .inl x2, .inl x3, .inl x4, .inl x5] [] M :=
  BX11_isOn C h
def wX11_isOn : f_Wt := f_wm [(1, 0, 0), (1, 0, 0), (1, 0, 0), (1, 0, 0), (1, 0, 0), (1, 0, 0)] (fun ar M R => WX11_isOn (f_vi (f_nth ar 0)) (f_vi (f_nth ar 1)) (f_vi (f_nth ar 2)) (f_vi (f_nth ar 3)) (f_vi (f_nth ar 4)) (f_vi (f_nth ar 5)) M (fun r => R (some (.inl r)) M))
theorem TX11_isOn {sh : Nat → Nat × Nat} {t : Nat} : f_Mt sh t YX11_isOn 4 (wX11_isOn) :=
  f_Mt_of (k := 0) (Nat.le_of_ble_eq_true rfl) rfl rfl (fun ar M R rm cs h1 h2 h3 hX h => PX11_isOn ⟨Nat.le_of_ble_eq_true rfl, h1, h2, h3, trivial, hX⟩ h)
def VX11_turn (Q : Int → Prop) (x0 : Int) (x1 : Int) (x2 : Int) (x3 : Int) (x4 : Int) (x5 : Int) (M : e_M) : Prop :=
  (Q (e_w64 ((e_w64 ((e_w32 (x2 - x0)) * (e_w32 (x5 - x1)))) - (e_w64 ((e_w32 (x3 - x1)) * (e_w32 (x4 - x0)))))))
def yX11_turn (i : Nat) : e_Y := x_get YX11_turn [] i
def pX11_turnf : List x_I := [(0, 2, 1, 2, 0, 0, []), (1, 2, 1, 0, 0, 0, []), (2, 9, 0, 1, 0, 0, []), (3, 14, 0, 0, 0, 0, []), (4, 2, 2, 5, 0, 0, []), (6, 2, 1, 1, 0, 0, []), (7, 9, 0, 1, 0, 0, []), (8, 14, 0, 0, 0, 0, []), (9, 10, 0, 2, 0, 0, []), (10, 2, 1, 3, 0, 0, []), (11, 2, 1, 1, 0, 0, []), (12, 9, 0, 1, 0, 0, []), (13, 14, 0, 0, 0, 0, []), (14, 2, 2, 4, 0, 0, []), (16, 2, 1, 0, 0, 0, []), (17, 9, 0, 1, 0, 0, []), (18, 14, 0, 0, 0, 0, []), (19, 10, 0, 2, 0, 0, []), (20, 10, 0, 1, 0, 0, []), (21, 43, 0, 0, 0, 0, [])]
set_option maxRecDepth 20000 in
theorem qX11_turnf : f_all yX11_turn YX11_turn pX11_turnf :=
  ⟨f_iload_n (n := 2) (e_dx DX11_turn_0 0 rfl) rfl,
  f_iload_n (n := 0) (e_dx DX11_turn_0 1 rfl) rfl,
  f_isub (e_dx DX11_turn_0 2 rfl),
  f_g14 (e_dx DX11_turn_0 3 rfl),
  f_iload (e_dx DX11_turn_0 4 rfl),
  f_iload_n (n := 1) (e_dx DX11_turn_0 5 rfl) rfl,
  f_isub (e_dx DX11_turn_0 6 rfl),
  f_g14 (e_dx DX11_turn_0 7 rfl),
  f_lmul (e_dx DX11_turn_0 8 rfl),
  f_iload_n (n := 3) (e_dx DX11_turn_0 9 rfl) rfl,
  f_iload_n (n := 1) (e_dx DX11_turn_0 10 rfl) rfl,
  f_isub (e_dx DX11_turn_0 11 rfl),
  f_g14 (e_dx DX11_turn_0 12 rfl),
  f_iload (e_dx DX11_turn_0 13 rfl),
  f_iload_n (n := 0) (e_dx DX11_turn_0 14 rfl) rfl,
  f_isub (e_dx DX11_turn_0 15 rfl),
  f_g14 (e_dx DX11_turn_0 16 rfl),
  f_lmul (e_dx DX11_turn_0 17 rfl),
  f_lsub (e_dx DX11_turn_0 18 rfl),
  ⟨(e_dx DX11_turn_0 19 rfl), rfl⟩, trivial⟩
def lX11_turn : List (Nat × f_Wt) := []
set_option maxRecDepth 20000 in
theorem BX11_turn {sh : Nat → Nat × Nat} {t : Nat} {rm : Nat × Nat × Nat} {cs : Nat × Nat} {R : f_Rt} {x0 : Int} {x1 : Int} {x2 : Int} {x3 : Int} {x4 : Int} {x5 : Int} {M : e_M} (C : f_Hy sh t yX11_turn rm cs 4 (lX11_turn) R) (h : VX11_turn (fun r => R (some (.inr (.inl r))) M) x0 x1 x2 x3 x4 x5 M) : f_E sh t YX11_turn rm cs (f_Q sh t R) 0 [.inl x0, .inl x1, .inl x2, .inl x3, .inl x4, .inl x5] [] M :=
  f_go (KC := f_kc []) C qX11_turnf f_kc_nil 22 0 h
def WX11_turn (x0 : Int) (x1 : Int) (x2 : Int) (x3 : Int) (x4 : Int) (x5 : Int) (M : e_M) (Q : Int → Prop) : Prop :=
  VX11_turn Q x0 x1 x2 x3 x4 x5 M
theorem PX11_turn {sh : Nat → Nat × Nat} {t : Nat} {rm : Nat × Nat × Nat} {cs : Nat × Nat} {R : f_Rt} {x0 : Int} {x1 : Int} {x2 : Int} {x3 : Int} {x4 : Int} {x5 : Int} {M : e_M} (C : f_Hy sh t yX11_turn rm cs 4 (lX11_turn) R) (h : WX11_turn x0 x1 x2 x3 x4 x5 M (fun r => R (some (.inr (.inl r))) M)) : f_E sh t YX11_turn rm cs (f_Q sh t R) 0 [.inl x0, .inl x1, .inl x2, .inl x3, .inl x4, .inl x5] [] M :=
  BX11_turn C h
def wX11_turn : f_Wt := f_wm [(1, 0, 0), (1, 0, 0), (1, 0, 0), (1, 0, 0), (1, 0, 0), (1, 0, 0)] (fun ar M R => WX11_turn (f_vi (f_nth ar 0)) (f_vi (f_nth ar 1)) (f_vi (f_nth ar 2)) (f_vi (f_nth ar 3)) (f_vi (f_nth ar 4)) (f_vi (f_nth ar 5)) M (fun r => R (some (.inr (.inl r))) M))
theorem TX11_turn {sh : Nat → Nat × Nat} {t : Nat} : f_Mt sh t YX11_turn 4 (wX11_turn) :=
  f_Mt_of (k := 0) (Nat.le_of_ble_eq_true rfl) rfl rfl (fun ar M R rm cs h1 h2 h3 hX h => PX11_turn ⟨Nat.le_of_ble_eq_true rfl, h1, h2, h3, trivial, hX⟩ h)
def VX5_isInside_39 (c_X3_next : Nat → Int → e_M → (Int → Prop) → Prop) (c_X11_isOn : Int → Int → Int → Int → Int → Int → e_M → (Int → Prop) → Prop) (c_X11_turn : Int → Int → Int → Int → Int → Int → e_M → (Int → Prop) → Prop) (c_X3_where : Nat → Int → Int → Int → e_M → (Int → Prop) → Prop) (k88 : Nat → Int → Int → Int → Int → Int → Int → Int → Int → Prop) (k102 : Nat → Int → Int → Int → Int → Int → Int → Int → Int → Prop) (Q : Int → Prop) (a1 : Nat) (x4 : Int) (x5 : Int) (x6 : Int) (x7 : Int) (x8 : Int) (M : e_M) : Prop :=
  (((M a1 2) ≤ x8 → (c_X3_where a1 (e_w32 (x4 + x6)) (e_w32 (x5 + x7)) 2 M (fun r1 => ((¬ r1 = 2 → (Q 0)) ∧ (r1 = 2 → (Q 1)))))) ∧ (x8 < (M a1 2) → (c_X3_next a1 x8 M (fun r2 => ((0 ≤ x8 ∧ x8 < 40) ∧ ((0 ≤ x8 ∧ x8 < 40) ∧ ((¬ (M (a1 + 1) (x8.toNat)) = x4 → (k88 a1 x4 x5 x6 x7 x8 r2 (M (a1 + 1) (x8.toNat)) (M (a1 + 2) (x8.toNat)))) ∧ ((M (a1 + 1) (x8.toNat)) = x4 → (((M (a1 + 2) (x8.toNat)) = x5 → (k102 a1 x4 x5 x6 x7 x8 r2 (M (a1 + 1) (x8.toNat)) (M (a1 + 2) (x8.toNat)))) ∧ (¬ (M (a1 + 2) (x8.toNat)) = x5 → (k88 a1 x4 x5 x6 x7 x8 r2 (M (a1 + 1) (x8.toNat)) (M (a1 + 2) (x8.toNat)))))))))))))
def VX5_isInside_88 (c_X3_next : Nat → Int → e_M → (Int → Prop) → Prop) (c_X11_isOn : Int → Int → Int → Int → Int → Int → e_M → (Int → Prop) → Prop) (c_X11_turn : Int → Int → Int → Int → Int → Int → e_M → (Int → Prop) → Prop) (c_X3_where : Nat → Int → Int → Int → e_M → (Int → Prop) → Prop) (k106 : Nat → Int → Int → Int → Int → Int → Int → Int → Int → Prop) (k102 : Nat → Int → Int → Int → Int → Int → Int → Int → Int → Prop) (Q : Int → Prop) (a1 : Nat) (x4 : Int) (x5 : Int) (x6 : Int) (x7 : Int) (x8 : Int) (x9 : Int) (x10 : Int) (x11 : Int) (M : e_M) : Prop :=
  ((¬ x10 = x6 → (k106 a1 x4 x5 x6 x7 x8 x9 x10 x11)) ∧ (x10 = x6 → ((¬ x11 = x7 → (k106 a1 x4 x5 x6 x7 x8 x9 x10 x11)) ∧ (x11 = x7 → (k102 a1 x4 x5 x6 x7 x8 x9 x10 x11)))))
def VX5_isInside_102 (c_X3_next : Nat → Int → e_M → (Int → Prop) → Prop) (c_X11_isOn : Int → Int → Int → Int → Int → Int → e_M → (Int → Prop) → Prop) (c_X11_turn : Int → Int → Int → Int → Int → Int → e_M → (Int → Prop) → Prop) (c_X3_where : Nat → Int → Int → Int → e_M → (Int → Prop) → Prop) (k107 : Nat → Int → Int → Int → Int → Int → Int → Int → Int → Int → Prop) (Q : Int → Prop) (a1 : Nat) (x4 : Int) (x5 : Int) (x6 : Int) (x7 : Int) (x8 : Int) (x9 : Int) (x10 : Int) (x11 : Int) (M : e_M) : Prop :=
  (k107 a1 x4 x5 x6 x7 x8 x9 x10 x11 1)
def VX5_isInside_106 (c_X3_next : Nat → Int → e_M → (Int → Prop) → Prop) (c_X11_isOn : Int → Int → Int → Int → Int → Int → e_M → (Int → Prop) → Prop) (c_X11_turn : Int → Int → Int → Int → Int → Int → e_M → (Int → Prop) → Prop) (c_X3_where : Nat → Int → Int → Int → e_M → (Int → Prop) → Prop) (k107 : Nat → Int → Int → Int → Int → Int → Int → Int → Int → Int → Prop) (Q : Int → Prop) (a1 : Nat) (x4 : Int) (x5 : Int) (x6 : Int) (x7 : Int) (x8 : Int) (x9 : Int) (x10 : Int) (x11 : Int) (M : e_M) : Prop :=
  (k107 a1 x4 x5 x6 x7 x8 x9 x10 x11 0)
def VX5_isInside_107 (c_X3_next : Nat → Int → e_M → (Int → Prop) → Prop) (c_X11_isOn : Int → Int → Int → Int → Int → Int → e_M → (Int → Prop) → Prop) (c_X11_turn : Int → Int → Int → Int → Int → Int → e_M → (Int → Prop) → Prop) (c_X3_where : Nat → Int → Int → Int → e_M → (Int → Prop) → Prop) (k134 : Nat → Int → Int → Int → Int → Int → Int → Int → Int → Prop) (Q : Int → Prop) (a1 : Nat) (x4 : Int) (x5 : Int) (x6 : Int) (x7 : Int) (x8 : Int) (x9 : Int) (x10 : Int) (x11 : Int) (xs0 : Int) (M : e_M) : Prop :=
  ((¬ xs0 = 0 → (k134 a1 x4 x5 x6 x7 x8 x9 x10 x11)) ∧ (xs0 = 0 → (c_X11_isOn x4 x5 x6 x7 x10 x11 M (fun r1 => ((r1 = 0 → (k134 a1 x4 x5 x6 x7 x8 x9 x10 x11)) ∧ (¬ r1 = 0 → (Q 0)))))))
def VX5_isInside_134 (c_X3_next : Nat → Int → e_M → (Int → Prop) → Prop) (c_X11_isOn : Int → Int → Int → Int → Int → Int → e_M → (Int → Prop) → Prop) (c_X11_turn : Int → Int → Int → Int → Int → Int → e_M → (Int → Prop) → Prop) (c_X3_where : Nat → Int → Int → Int → e_M → (Int → Prop) → Prop) (k226 : Nat → Int → Int → Int → Int → Int → Prop) (Q : Int → Prop) (a1 : Nat) (x4 : Int) (x5 : Int) (x6 : Int) (x7 : Int) (x8 : Int) (x9 : Int) (x10 : Int) (x11 : Int) (M : e_M) : Prop :=
  ((0 ≤ x9 ∧ x9 < 40) ∧ ((0 ≤ x9 ∧ x9 < 40) ∧ (c_X11_turn x4 x5 x6 x7 x10 x11 M (fun r1 => (c_X11_turn x4 x5 x6 x7 (M (a1 + 1) (x9.toNat)) (M (a1 + 2) (x9.toNat)) M (fun r2 => ((0 ≤ (e_w64 (r1 * r2)) → (k226 a1 x4 x5 x6 x7 x8)) ∧ ((e_w64 (r1 * r2)) < 0 → (c_X11_turn x10 x11 (M (a1 + 1) (x9.toNat)) (M (a1 + 2) (x9.toNat)) x4 x5 M (fun r3 => (c_X11_turn x10 x11 (M (a1 + 1) (x9.toNat)) (M (a1 + 2) (x9.toNat)) x6 x7 M (fun r4 => ((0 ≤ (e_w64 (r3 * r4)) → (k226 a1 x4 x5 x6 x7 x8)) ∧ ((e_w64 (r3 * r4)) < 0 → (Q 0)))))))))))))))
def VX5_isInside_226 (c_X3_next : Nat → Int → e_M → (Int → Prop) → Prop) (c_X11_isOn : Int → Int → Int → Int → Int → Int → e_M → (Int → Prop) → Prop) (c_X11_turn : Int → Int → Int → Int → Int → Int → e_M → (Int → Prop) → Prop) (c_X3_where : Nat → Int → Int → Int → e_M → (Int → Prop) → Prop) (k39 : Nat → Int → Int → Int → Int → Int → Prop) (Q : Int → Prop) (a1 : Nat) (x4 : Int) (x5 : Int) (x6 : Int) (x7 : Int) (x8 : Int) (M : e_M) : Prop :=
  (k39 a1 x4 x5 x6 x7 (e_w32 (x8 + 1)))
def VX5_isInside (c_X3_next : Nat → Int → e_M → (Int → Prop) → Prop) (c_X11_isOn : Int → Int → Int → Int → Int → Int → e_M → (Int → Prop) → Prop) (c_X11_turn : Int → Int → Int → Int → Int → Int → e_M → (Int → Prop) → Prop) (c_X3_where : Nat → Int → Int → Int → e_M → (Int → Prop) → Prop) (k39 : Nat → Int → Int → Int → Int → Int → Prop) (Q : Int → Prop) (a1 : Nat) (a2 : Nat) (x3 : Int) (M : e_M) : Prop :=
  ((0 ≤ x3 ∧ x3 < 12) ∧ ((0 ≤ x3 ∧ x3 < 12) ∧ ((0 ≤ (e_w32 (x3 + 1)) ∧ (e_w32 (x3 + 1)) < 12) ∧ (∀ y1 : Int, y1 = M (a2 + 5) ((e_w32 (x3 + 1)).toNat) → ((0 ≤ (e_w32 (x3 + 1)) ∧ (e_w32 (x3 + 1)) < 12) ∧ (∀ y2 : Int, y2 = M (a2 + 6) ((e_w32 (x3 + 1)).toNat) → (k39 a1 (M (a2 + 5) (x3.toNat)) (M (a2 + 6) (x3.toNat)) y1 y2 0)))))))
def yX5_isInside (i : Nat) : e_Y := x_get YX5_isInside [YX3_next, YX11_isOn, YX11_turn, YX3_where] i
def pX5_isInsidef : List x_I := [(0, 4, 1, 2, 0, 0, []), (1, 25, 2, 16, 4, 0, [(0, 20, 12), (0, 1, 5)]), (4, 2, 1, 3, 0, 0, []), (5, 27, 0, 0, 0, 0, []), (6, 5, 2, 4, 0, 0, []), (8, 4, 1, 2, 0, 0, []), (9, 25, 2, 17, 4, 0, [(0, 20, 12), (0, 1, 6)]), (12, 2, 1, 3, 0, 0, []), (13, 27, 0, 0, 0, 0, []), (14, 5, 2, 5, 0, 0, []), (16, 4, 1, 2, 0, 0, []), (17, 25, 2, 16, 4, 0, [(0, 20, 12), (0, 1, 5)]), (20, 2, 1, 3, 0, 0, []), (21, 0, 1, 0, 0, 1, []), (22, 9, 0, 0, 0, 0, []), (23, 27, 0, 0, 0, 0, []), (24, 33, 0, 0, 0, 0, []), (24, 5, 2, 6, 0, 0, []), (26, 4, 1, 2, 0, 0, []), (27, 25, 2, 17, 4, 0, [(0, 20, 12), (0, 1, 6)]), (30, 2, 1, 3, 0, 0, []), (31, 0, 1, 0, 0, 1, []), (32, 9, 0, 0, 0, 0, []), (33, 27, 0, 0, 0, 0, []), (34, 33, 0, 0, 0, 0, []), (34, 5, 2, 7, 0, 0, []), (36, 0, 1, 0, 0, 0, []), (37, 5, 2, 8, 0, 0, []), (39, 49, 0, 0, 0, 0, []), (39, 2, 2, 8, 0, 0, []), (41, 4, 1, 1, 0, 0, []), (42, 25, 3, 2, 0, 0, []), (45, 18, 232, 3, 130, 0, []), (48, 4, 1, 1, 0, 0, []), (49, 2, 2, 8, 0, 0, []), (51, 40, 0, 2, 5, 0, []), (54, 5, 2, 9, 0, 0, []), (56, 4, 1, 1, 0, 0, []), (57, 25, 3, 0, 4, 0, [(0, 20, 40), (0, 1, 1)]), (60, 2, 2, 8, 0, 0, []), (62, 27, 0, 0, 0, 0, []), (63, 5, 2, 10, 0, 0, []), (65, 4, 1, 1, 0, 0, []), (66, 25, 3, 1, 4, 0, [(0, 20, 40), (0, 1, 2)]), (69, 2, 2, 8, 0, 0, []), (71, 27, 0, 0, 0, 0, []), (72, 5, 2, 11, 0, 0, []), (74, 2, 2, 10, 0, 0, []), (76, 2, 2, 4, 0, 0, []), (78, 18, 88, 1, 54, 0, []), (81, 2, 2, 11, 0, 0, []), (83, 2, 2, 5, 0, 0, []), (85, 18, 102, 0, 61, 0, []), (88, 49, 0, 0, 0, 0, []), (88, 2, 2, 10, 0, 0, []), (90, 2, 2, 6, 0, 0, []), (92, 18, 106, 1, 64, 0, []), (95, 2, 2, 11, 0, 0, []), (97, 2, 2, 7, 0, 0, []), (99, 18, 106, 1, 64, 0, []), (102, 49, 0, 0, 0, 0, []), (102, 0, 1, 0, 0, 1, []), (103, 19, 107, 0, 66, 0, []), (106, 49, 0, 0, 0, 0, []), (106, 0, 1, 0, 0, 0, []), (107, 49, 0, 0, 0, 0, []), (107, 5, 2, 12, 0, 0, []), (109, 2, 2, 12, 0, 0, []), (111, 17, 134, 1, 80, 0, []), (114, 2, 2, 4, 0, 0, []), (116, 2, 2, 5, 0, 0, []), (118, 2, 2, 6, 0, 0, []), (120, 2, 2, 7, 0, 0, []), (122, 2, 2, 10, 0, 0, []), (124, 2, 2, 11, 0, 0, []), (126, 40, 1, 6, 0, 0, []), (129, 17, 134, 0, 80, 0, []), (132, 0, 1, 0, 0, 0, []), (133, 48, 0, 0, 0, 0, []), (134, 49, 0, 0, 0, 0, []), (134, 4, 1, 1, 0, 0, []), (135, 25, 3, 0, 4, 0, [(0, 20, 40), (0, 1, 1)]), (138, 2, 2, 9, 0, 0, []), (140, 27, 0, 0, 0, 0, []), (141, 5, 2, 13, 0, 0, []), (143, 4, 1, 1, 0, 0, []), (144, 25, 3, 1, 4, 0, [(0, 20, 40), (0, 1, 2)]), (147, 2, 2, 9, 0, 0, []), (149, 27, 0, 0, 0, 0, []), (150, 5, 2, 14, 0, 0, []), (152, 2, 2, 4, 0, 0, []), (154, 2, 2, 5, 0, 0, []), (156, 2, 2, 6, 0, 0, []), (158, 2, 2, 7, 0, 0, []), (160, 2, 2, 10, 0, 0, []), (162, 2, 2, 11, 0, 0, []), (164, 40, 2, 6, 0, 0, []), (167, 2, 2, 4, 0, 0, []), (169, 2, 2, 5, 0, 0, []), (171, 2, 2, 6, 0, 0, []), (173, 2, 2, 7, 0, 0, []), (175, 2, 2, 13, 0, 0, []), (177, 2, 2, 14, 0, 0, []), (179, 40, 2, 6, 0, 0, []), (182, 10, 0, 2, 0, 0, []), (183, 1, 1, 0, 0, 0, []), (184, 32, 226, 3, 127, 0, []), (188, 2, 2, 10, 0, 0, []), (190, 2, 2, 11, 0, 0, []), (192, 2, 2, 13, 0, 0, []), (194, 2, 2, 14, 0, 0, []), (196, 2, 2, 4, 0, 0, []), (198, 2, 2, 5, 0, 0, []), (200, 40, 2, 6, 0, 0, []), (203, 2, 2, 10, 0, 0, []), (205, 2, 2, 11, 0, 0, []), (207, 2, 2, 13, 0, 0, []), (209, 2, 2, 14, 0, 0, []), (211, 2, 2, 6, 0, 0, []), (213, 2, 2, 7, 0, 0, []), (215, 40, 2, 6, 0, 0, []), (218, 10, 0, 2, 0, 0, []), (219, 1, 1, 0, 0, 0, []), (220, 32, 226, 3, 127, 0, []), (224, 0, 1, 0, 0, 0, []), (225, 48, 0, 0, 0, 0, []), (226, 49, 0, 0, 0, 0, []), (226, 8, 0, 8, 0, 1, []), (229, 19, 39, 0, 29, 0, []), (232, 4, 1, 1, 0, 0, []), (233, 2, 2, 4, 0, 0, []), (235, 2, 2, 6, 0, 0, []), (237, 9, 0, 0, 0, 0, []), (238, 14, 0, 0, 0, 0, []), (239, 2, 2, 5, 0, 0, []), (241, 2, 2, 7, 0, 0, []), (243, 9, 0, 0, 0, 0, []), (244, 14, 0, 0, 0, 0, []), (245, 0, 1, 0, 0, 2, []), (246, 40, 3, 4, 5, 0, []), (249, 0, 1, 0, 0, 2, []), (250, 18, 257, 1, 145, 0, []), (253, 0, 1, 0, 0, 1, []), (254, 19, 258, 0, 146, 0, []), (257, 0, 1, 0, 0, 0, []), (258, 48, 0, 0, 0, 0, [])]
set_option maxRecDepth 20000 in
theorem qX5_isInsidef : f_all yX5_isInside YX5_isInside pX5_isInsidef :=
  ⟨f_aload_n (n := 2) (e_dx DX5_isInside_0 0 rfl) rfl,
  f_getA (e_dx DX5_isInside_0 1 rfl) fX5_59 rfl (by decide) (Nat.le_of_ble_eq_true rfl) rfl (by decide),
  f_iload_n (n := 3) (e_dx DX5_isInside_0 2 rfl) rfl,
  f_iaload (e_dx DX5_isInside_0 3 rfl),
  f_istore (e_dx DX5_isInside_0 4 rfl) (by decide),
  f_aload_n (n := 2) (e_dx DX5_isInside_0 5 rfl) rfl,
  f_getA (e_dx DX5_isInside_0 6 rfl) fX5_62 rfl (by decide) (Nat.le_of_ble_eq_true rfl) rfl (by decide),
  f_iload_n (n := 3) (e_dx DX5_isInside_0 7 rfl) rfl,
  f_iaload (e_dx DX5_isInside_0 8 rfl),
  f_istore (e_dx DX5_isInside_0 9 rfl) (by decide),
  f_aload_n (n := 2) (e_dx DX5_isInside_0 10 rfl) rfl,
  f_getA (e_dx DX5_isInside_0 11 rfl) fX5_59 rfl (by decide) (Nat.le_of_ble_eq_true rfl) rfl (by decide),
  f_iload_n (n := 3) (e_dx DX5_isInside_0 12 rfl) rfl,
  f_iconst (e_dx DX5_isInside_0 13 rfl) ⟨by decide, by decide⟩,
  f_iadd (e_dx DX5_isInside_0 14 rfl),
  f_iaload (e_dx DX5_isInside_0 15 rfl),
  f_g33,
  f_istore (e_dx DX5_isInside_0 16 rfl) (by decide),
  f_aload_n (n := 2) (e_dx DX5_isInside_0 17 rfl) rfl,
  f_getA (e_dx DX5_isInside_0 18 rfl) fX5_62 rfl (by decide) (Nat.le_of_ble_eq_true rfl) rfl (by decide),
  f_iload_n (n := 3) (e_dx DX5_isInside_0 19 rfl) rfl,
  f_iconst (e_dx DX5_isInside_0 20 rfl) ⟨by decide, by decide⟩,
  f_iadd (e_dx DX5_isInside_0 21 rfl),
  f_iaload (e_dx DX5_isInside_0 22 rfl),
  f_g33,
  f_istore (e_dx DX5_isInside_0 23 rfl) (by decide),
  f_iconst (e_dx DX5_isInside_0 24 rfl) ⟨by decide, by decide⟩,
  f_istore (e_dx DX5_isInside_0 25 rfl) (by decide),
  trivial,
  f_iload (e_dx DX5_isInside_0 26 rfl),
  f_aload_n (n := 1) (e_dx DX5_isInside_0 27 rfl) rfl,
  f_getf (e_dx DX5_isInside_0 28 rfl) fX5_89 rfl (by decide) (by decide) (by decide),
  f_icmp_ge (e_dx DX5_isInside_0 29 rfl) rfl,
  f_aload_n (n := 1) (e_dx DX5_isInside_0 30 rfl) rfl,
  f_iload (e_dx DX5_isInside_0 31 rfl),
  x_callV (e_dx DX5_isInside_0 32 rfl) mwX3_next vwX3_next cX5_92 rfl,
  f_istore (e_dx DX5_isInside_0 33 rfl) (by decide),
  f_aload_n (n := 1) (e_dx DX5_isInside_0 34 rfl) rfl,
  f_getA (e_dx DX5_isInside_0 35 rfl) fX5_96 rfl (by decide) (Nat.le_of_ble_eq_true rfl) rfl (by decide),
  f_iload (e_dx DX5_isInside_0 36 rfl),
  f_iaload (e_dx DX5_isInside_0 37 rfl),
  f_istore (e_dx DX5_isInside_0 38 rfl) (by decide),
  f_aload_n (n := 1) (e_dx DX5_isInside_0 39 rfl) rfl,
  f_getA (e_dx DX5_isInside_1 0 rfl) fX5_97 rfl (by decide) (Nat.le_of_ble_eq_true rfl) rfl (by decide),
  f_iload (e_dx DX5_isInside_1 1 rfl),
  f_iaload (e_dx DX5_isInside_1 2 rfl),
  f_istore (e_dx DX5_isInside_1 3 rfl) (by decide),
  f_iload (e_dx DX5_isInside_1 4 rfl),
  f_iload (e_dx DX5_isInside_1 5 rfl),
  f_icmp_ne (e_dx DX5_isInside_1 6 rfl) rfl,
  f_iload (e_dx DX5_isInside_1 7 rfl),
  f_iload (e_dx DX5_isInside_1 8 rfl),
  f_icmp_eq (e_dx DX5_isInside_1 9 rfl) rfl,
  trivial,
  f_iload (e_dx DX5_isInside_1 10 rfl),
  f_iload (e_dx DX5_isInside_1 11 rfl),
  f_icmp_ne (e_dx DX5_isInside_1 12 rfl) rfl,
  f_iload (e_dx DX5_isInside_1 13 rfl),
  f_iload (e_dx DX5_isInside_1 14 rfl),
  f_icmp_ne (e_dx DX5_isInside_1 15 rfl) rfl,
  trivial,
  f_iconst (e_dx DX5_isInside_1 16 rfl) ⟨by decide, by decide⟩,
  f_g19 (e_dx DX5_isInside_1 17 rfl) rfl,
  trivial,
  f_iconst (e_dx DX5_isInside_1 18 rfl) ⟨by decide, by decide⟩,
  trivial,
  f_istore (e_dx DX5_isInside_1 19 rfl) (by decide),
  f_iload (e_dx DX5_isInside_1 20 rfl),
  f_if_ne (e_dx DX5_isInside_1 21 rfl) rfl,
  f_iload (e_dx DX5_isInside_1 22 rfl),
  f_iload (e_dx DX5_isInside_1 23 rfl),
  f_iload (e_dx DX5_isInside_1 24 rfl),
  f_iload (e_dx DX5_isInside_1 25 rfl),
  f_iload (e_dx DX5_isInside_1 26 rfl),
  f_iload (e_dx DX5_isInside_1 27 rfl),
  x_callSN (e_dx DX5_isInside_1 28 rfl) mwX11_isOn cX5_98 swX11_isOn rfl,
  f_if_eq (e_dx DX5_isInside_1 29 rfl) rfl,
  f_iconst (e_dx DX5_isInside_1 30 rfl) ⟨by decide, by decide⟩,
  ⟨(e_dx DX5_isInside_1 31 rfl), rfl⟩,
  trivial,
  f_aload_n (n := 1) (e_dx DX5_isInside_1 32 rfl) rfl,
  f_getA (e_dx DX5_isInside_1 33 rfl) fX5_96 rfl (by decide) (Nat.le_of_ble_eq_true rfl) rfl (by decide),
  f_iload (e_dx DX5_isInside_1 34 rfl),
  f_iaload (e_dx DX5_isInside_1 35 rfl),
  f_istore (e_dx DX5_isInside_1 36 rfl) (by decide),
  f_aload_n (n := 1) (e_dx DX5_isInside_1 37 rfl) rfl,
  f_getA (e_dx DX5_isInside_1 38 rfl) fX5_97 rfl (by decide) (Nat.le_of_ble_eq_true rfl) rfl (by decide),
  f_iload (e_dx DX5_isInside_1 39 rfl),
  f_iaload (e_dx DX5_isInside_2 0 rfl),
  f_istore (e_dx DX5_isInside_2 1 rfl) (by decide),
  f_iload (e_dx DX5_isInside_2 2 rfl),
  f_iload (e_dx DX5_isInside_2 3 rfl),
  f_iload (e_dx DX5_isInside_2 4 rfl),
  f_iload (e_dx DX5_isInside_2 5 rfl),
  f_iload (e_dx DX5_isInside_2 6 rfl),
  f_iload (e_dx DX5_isInside_2 7 rfl),
  x_callSN (e_dx DX5_isInside_2 8 rfl) mwX11_turn cX5_102 swX11_turn rfl,
  f_iload (e_dx DX5_isInside_2 9 rfl),
  f_iload (e_dx DX5_isInside_2 10 rfl),
  f_iload (e_dx DX5_isInside_2 11 rfl),
  f_iload (e_dx DX5_isInside_2 12 rfl),
  f_iload (e_dx DX5_isInside_2 13 rfl),
  f_iload (e_dx DX5_isInside_2 14 rfl),
  x_callSN (e_dx DX5_isInside_2 15 rfl) mwX11_turn cX5_102 swX11_turn rfl,
  f_lmul (e_dx DX5_isInside_2 16 rfl),
  f_lconst (n := 0) (e_dx DX5_isInside_2 17 rfl) rfl,
  f_lif_ge (e_dx DX5_isInside_2 18 rfl) (e_dx DX5_isInside_2 19 rfl) rfl,
  f_iload (e_dx DX5_isInside_2 20 rfl),
  f_iload (e_dx DX5_isInside_2 21 rfl),
  f_iload (e_dx DX5_isInside_2 22 rfl),
  f_iload (e_dx DX5_isInside_2 23 rfl),
  f_iload (e_dx DX5_isInside_2 24 rfl),
  f_iload (e_dx DX5_isInside_2 25 rfl),
  x_callSN (e_dx DX5_isInside_2 26 rfl) mwX11_turn cX5_102 swX11_turn rfl,
  f_iload (e_dx DX5_isInside_2 27 rfl),
  f_iload (e_dx DX5_isInside_2 28 rfl),
  f_iload (e_dx DX5_isInside_2 29 rfl),
  f_iload (e_dx DX5_isInside_2 30 rfl),
  f_iload (e_dx DX5_isInside_2 31 rfl),
  f_iload (e_dx DX5_isInside_2 32 rfl),
  x_callSN (e_dx DX5_isInside_2 33 rfl) mwX11_turn cX5_102 swX11_turn rfl,
  f_lmul (e_dx DX5_isInside_2 34 rfl),
  f_lconst (n := 0) (e_dx DX5_isInside_2 35 rfl) rfl,
  f_lif_ge (e_dx DX5_isInside_2 36 rfl) (e_dx DX5_isInside_2 37 rfl) rfl,
  f_iconst (e_dx DX5_isInside_2 38 rfl) ⟨by decide, by decide⟩,
  ⟨(e_dx DX5_isInside_2 39 rfl), rfl⟩,
  trivial,
  f_g8 (e_dx DX5_isInside_3 0 rfl) ⟨by decide, by decide⟩,
  f_g19 (e_dx DX5_isInside_3 1 rfl) rfl,
  f_aload_n (n := 1) (e_dx DX5_isInside_3 2 rfl) rfl,
  f_iload (e_dx DX5_isInside_3 3 rfl),
  f_iload (e_dx DX5_isInside_3 4 rfl),
  f_iadd (e_dx DX5_isInside_3 5 rfl),
  f_g14 (e_dx DX5_isInside_3 6 rfl),
  f_iload (e_dx DX5_isInside_3 7 rfl),
  f_iload (e_dx DX5_isInside_3 8 rfl),
  f_iadd (e_dx DX5_isInside_3 9 rfl),
  f_g14 (e_dx DX5_isInside_3 10 rfl),
  f_iconst (e_dx DX5_isInside_3 11 rfl) ⟨by decide, by decide⟩,
  x_callV (e_dx DX5_isInside_3 12 rfl) mwX3_where vwX3_where cX5_65 rfl,
  f_iconst (e_dx DX5_isInside_3 13 rfl) ⟨by decide, by decide⟩,
  f_icmp_ne (e_dx DX5_isInside_3 14 rfl) rfl,
  f_iconst (e_dx DX5_isInside_3 15 rfl) ⟨by decide, by decide⟩,
  f_g19 (e_dx DX5_isInside_3 16 rfl) rfl,
  f_iconst (e_dx DX5_isInside_3 17 rfl) ⟨by decide, by decide⟩,
  ⟨(e_dx DX5_isInside_3 18 rfl), rfl⟩, trivial⟩
def lX5_isInside (c_X3_next : Nat → Int → e_M → (Int → Prop) → Prop) (c_X11_isOn : Int → Int → Int → Int → Int → Int → e_M → (Int → Prop) → Prop) (c_X11_turn : Int → Int → Int → Int → Int → Int → e_M → (Int → Prop) → Prop) (c_X3_where : Nat → Int → Int → Int → e_M → (Int → Prop) → Prop) : List (Nat × f_Wt) := [(0, f_wm [(3, 3, 3), (1, 0, 0)] (fun ar M R => c_X3_next (f_va (f_nth ar 0)) (f_vi (f_nth ar 1)) M (fun r => R (some (.inl r)) M))), (1, f_wm [(1, 0, 0), (1, 0, 0), (1, 0, 0), (1, 0, 0), (1, 0, 0), (1, 0, 0)] (fun ar M R => c_X11_isOn (f_vi (f_nth ar 0)) (f_vi (f_nth ar 1)) (f_vi (f_nth ar 2)) (f_vi (f_nth ar 3)) (f_vi (f_nth ar 4)) (f_vi (f_nth ar 5)) M (fun r => R (some (.inl r)) M))), (2, f_wm [(1, 0, 0), (1, 0, 0), (1, 0, 0), (1, 0, 0), (1, 0, 0), (1, 0, 0)] (fun ar M R => c_X11_turn (f_vi (f_nth ar 0)) (f_vi (f_nth ar 1)) (f_vi (f_nth ar 2)) (f_vi (f_nth ar 3)) (f_vi (f_nth ar 4)) (f_vi (f_nth ar 5)) M (fun r => R (some (.inr (.inl r))) M))), (3, f_wm [(3, 3, 3), (2, 0, 0), (2, 0, 0), (1, 0, 0)] (fun ar M R => c_X3_where (f_va (f_nth ar 0)) (f_vi (f_nth ar 1)) (f_vi (f_nth ar 2)) (f_vi (f_nth ar 3)) M (fun r => R (some (.inl r)) M)))]
set_option maxRecDepth 20000 in
theorem BX5_isInside_39 {sh : Nat → Nat × Nat} {t : Nat} {rm : Nat × Nat × Nat} {cs : Nat × Nat} {R : f_Rt} {c_X3_next : Nat → Int → e_M → (Int → Prop) → Prop} {c_X11_isOn : Int → Int → Int → Int → Int → Int → e_M → (Int → Prop) → Prop} {c_X11_turn : Int → Int → Int → Int → Int → Int → e_M → (Int → Prop) → Prop} {c_X3_where : Nat → Int → Int → Int → e_M → (Int → Prop) → Prop} {k88 : Nat → Int → Int → Int → Int → Int → Int → Int → Int → Prop} {k102 : Nat → Int → Int → Int → Int → Int → Int → Int → Int → Prop} {a1 : Nat} {x4 : Int} {x5 : Int} {x6 : Int} {x7 : Int} {x8 : Int} {M : e_M} (C : f_Hy sh t yX5_isInside rm cs 6 (lX5_isInside c_X3_next c_X11_isOn c_X11_turn c_X3_where) R) (h88 : ∀ (a1 : Nat) (x4 : Int) (x5 : Int) (x6 : Int) (x7 : Int) (x8 : Int) (x9 : Int) (x10 : Int) (x11 : Int), k88 a1 x4 x5 x6 x7 x8 x9 x10 x11 → f_E sh t YX5_isInside rm cs (f_Q sh t R) 88 [.inr (.inr (.inr ())), .inr (.inr (.inl (3, 3, a1))), .inr (.inr (.inr ())), .inr (.inr (.inr ())), .inl x4, .inl x5, .inl x6, .inl x7, .inl x8, .inl x9, .inl x10, .inl x11, .inr (.inr (.inr ())), .inr (.inr (.inr ())), .inr (.inr (.inr ()))] [] M) (h102 : ∀ (a1 : Nat) (x4 : Int) (x5 : Int) (x6 : Int) (x7 : Int) (x8 : Int) (x9 : Int) (x10 : Int) (x11 : Int), k102 a1 x4 x5 x6 x7 x8 x9 x10 x11 → f_E sh t YX5_isInside rm cs (f_Q sh t R) 102 [.inr (.inr (.inr ())), .inr (.inr (.inl (3, 3, a1))), .inr (.inr (.inr ())), .inr (.inr (.inr ())), .inl x4, .inl x5, .inl x6, .inl x7, .inl x8, .inl x9, .inl x10, .inl x11, .inr (.inr (.inr ())), .inr (.inr (.inr ())), .inr (.inr (.inr ()))] [] M) (h : VX5_isInside_39 c_X3_next c_X11_isOn c_X11_turn c_X3_where k88 k102 (fun r => R (some (.inl r)) M) a1 x4 x5 x6 x7 x8 M) : f_E sh t YX5_isInside rm cs (f_Q sh t R) 39 [.inr (.inr (.inr ())), .inr (.inr (.inl (3, 3, a1))), .inr (.inr (.inr ())), .inr (.inr (.inr ())), .inl x4, .inl x5, .inl x6, .inl x7, .inl x8, .inr (.inr (.inr ())), .inr (.inr (.inr ())), .inr (.inr (.inr ())), .inr (.inr (.inr ())), .inr (.inr (.inr ())), .inr (.inr (.inr ()))] [] M := by
  rw [f_kk9 M k88] at h
  rw [f_kk9 M k102] at h
  exact f_go (KC := f_kc [(88, f_pl [(0, 0, 0), (3, 3, 3), (0, 0, 0), (0, 0, 0), (1, 0, 0), (1, 0, 0), (1, 0, 0), (1, 0, 0), (1, 0, 0), (1, 0, 0), (1, 0, 0), (1, 0, 0), (0, 0, 0), (0, 0, 0), (0, 0, 0)] [] (fun ls st M2 => M2 = M ∧ (k88 (f_va (f_nth ls 1)) (f_vi (f_nth ls 4)) (f_vi (f_nth ls 5)) (f_vi (f_nth ls 6)) (f_vi (f_nth ls 7)) (f_vi (f_nth ls 8)) (f_vi (f_nth ls 9)) (f_vi (f_nth ls 10)) (f_vi (f_nth ls 11))))), (102, f_pl [(0, 0, 0), (3, 3, 3), (0, 0, 0), (0, 0, 0), (1, 0, 0), (1, 0, 0), (1, 0, 0), (1, 0, 0), (1, 0, 0), (1, 0, 0), (1, 0, 0), (1, 0, 0), (0, 0, 0), (0, 0, 0), (0, 0, 0)] [] (fun ls st M2 => M2 = M ∧ (k102 (f_va (f_nth ls 1)) (f_vi (f_nth ls 4)) (f_vi (f_nth ls 5)) (f_vi (f_nth ls 6)) (f_vi (f_nth ls 7)) (f_vi (f_nth ls 8)) (f_vi (f_nth ls 9)) (f_vi (f_nth ls 10)) (f_vi (f_nth ls 11)))))]) C qX5_isInsidef (f_kc_cons (f_pl_ok rfl (fun ls st M2 ⟨e, hh⟩ => by subst e; exact h88 _ _ _ _ _ _ _ _ _ hh)) (f_kc_cons (f_pl_ok rfl (fun ls st M2 ⟨e, hh⟩ => by subst e; exact h102 _ _ _ _ _ _ _ _ _ hh)) f_kc_nil)) 148 29 h
set_option maxRecDepth 20000 in
theorem BX5_isInside_88 {sh : Nat → Nat × Nat} {t : Nat} {rm : Nat × Nat × Nat} {cs : Nat × Nat} {R : f_Rt} {c_X3_next : Nat → Int → e_M → (Int → Prop) → Prop} {c_X11_isOn : Int → Int → Int → Int → Int → Int → e_M → (Int → Prop) → Prop} {c_X11_turn : Int → Int → Int → Int → Int → Int → e_M → (Int → Prop) → Prop} {c_X3_where : Nat → Int → Int → Int → e_M → (Int → Prop) → Prop} {k106 : Nat → Int → Int → Int → Int → Int → Int → Int → Int → Prop} {k102 : Nat → Int → Int → Int → Int → Int → Int → Int → Int → Prop} {a1 : Nat} {x4 : Int} {x5 : Int} {x6 : Int} {x7 : Int} {x8 : Int} {x9 : Int} {x10 : Int} {x11 : Int} {M : e_M} (C : f_Hy sh t yX5_isInside rm cs 6 (lX5_isInside c_X3_next c_X11_isOn c_X11_turn c_X3_where) R) (h106 : ∀ (a1 : Nat) (x4 : Int) (x5 : Int) (x6 : Int) (x7 : Int) (x8 : Int) (x9 : Int) (x10 : Int) (x11 : Int), k106 a1 x4 x5 x6 x7 x8 x9 x10 x11 → f_E sh t YX5_isInside rm cs (f_Q sh t R) 106 [.inr (.inr (.inr ())), .inr (.inr (.inl (3, 3, a1))), .inr (.inr (.inr ())), .inr (.inr (.inr ())), .inl x4, .inl x5, .inl x6, .inl x7, .inl x8, .inl x9, .inl x10, .inl x11, .inr (.inr (.inr ())), .inr (.inr (.inr ())), .inr (.inr (.inr ()))] [] M) (h102 : ∀ (a1 : Nat) (x4 : Int) (x5 : Int) (x6 : Int) (x7 : Int) (x8 : Int) (x9 : Int) (x10 : Int) (x11 : Int), k102 a1 x4 x5 x6 x7 x8 x9 x10 x11 → f_E sh t YX5_isInside rm cs (f_Q sh t R) 102 [.inr (.inr (.inr ())), .inr (.inr (.inl (3, 3, a1))), .inr (.inr (.inr ())), .inr (.inr (.inr ())), .inl x4, .inl x5, .inl x6, .inl x7, .inl x8, .inl x9, .inl x10, .inl x11, .inr (.inr (.inr ())), .inr (.inr (.inr ())), .inr (.inr (.inr ()))] [] M) (h : VX5_isInside_88 c_X3_next c_X11_isOn c_X11_turn c_X3_where k106 k102 (fun r => R (some (.inl r)) M) a1 x4 x5 x6 x7 x8 x9 x10 x11 M) : f_E sh t YX5_isInside rm cs (f_Q sh t R) 88 [.inr (.inr (.inr ())), .inr (.inr (.inl (3, 3, a1))), .inr (.inr (.inr ())), .inr (.inr (.inr ())), .inl x4, .inl x5, .inl x6, .inl x7, .inl x8, .inl x9, .inl x10, .inl x11, .inr (.inr (.inr ())), .inr (.inr (.inr ())), .inr (.inr (.inr ()))] [] M := by
  rw [f_kk9 M k106] at h
  rw [f_kk9 M k102] at h
  exact f_go (KC := f_kc [(106, f_pl [(0, 0, 0), (3, 3, 3), (0, 0, 0), (0, 0, 0), (1, 0, 0), (1, 0, 0), (1, 0, 0), (1, 0, 0), (1, 0, 0), (1, 0, 0), (1, 0, 0), (1, 0, 0), (0, 0, 0), (0, 0, 0), (0, 0, 0)] [] (fun ls st M2 => M2 = M ∧ (k106 (f_va (f_nth ls 1)) (f_vi (f_nth ls 4)) (f_vi (f_nth ls 5)) (f_vi (f_nth ls 6)) (f_vi (f_nth ls 7)) (f_vi (f_nth ls 8)) (f_vi (f_nth ls 9)) (f_vi (f_nth ls 10)) (f_vi (f_nth ls 11))))), (102, f_pl [(0, 0, 0), (3, 3, 3), (0, 0, 0), (0, 0, 0), (1, 0, 0), (1, 0, 0), (1, 0, 0), (1, 0, 0), (1, 0, 0), (1, 0, 0), (1, 0, 0), (1, 0, 0), (0, 0, 0), (0, 0, 0), (0, 0, 0)] [] (fun ls st M2 => M2 = M ∧ (k102 (f_va (f_nth ls 1)) (f_vi (f_nth ls 4)) (f_vi (f_nth ls 5)) (f_vi (f_nth ls 6)) (f_vi (f_nth ls 7)) (f_vi (f_nth ls 8)) (f_vi (f_nth ls 9)) (f_vi (f_nth ls 10)) (f_vi (f_nth ls 11)))))]) C qX5_isInsidef (f_kc_cons (f_pl_ok rfl (fun ls st M2 ⟨e, hh⟩ => by subst e; exact h106 _ _ _ _ _ _ _ _ _ hh)) (f_kc_cons (f_pl_ok rfl (fun ls st M2 ⟨e, hh⟩ => by subst e; exact h102 _ _ _ _ _ _ _ _ _ hh)) f_kc_nil)) 148 54 h
set_option maxRecDepth 20000 in
theorem BX5_isInside_102 {sh : Nat → Nat × Nat} {t : Nat} {rm : Nat × Nat × Nat} {cs : Nat × Nat} {R : f_Rt} {c_X3_next : Nat → Int → e_M → (Int → Prop) → Prop} {c_X11_isOn : Int → Int → Int → Int → Int → Int → e_M → (Int → Prop) → Prop} {c_X11_turn : Int → Int → Int → Int → Int → Int → e_M → (Int → Prop) → Prop} {c_X3_where : Nat → Int → Int → Int → e_M → (Int → Prop) → Prop} {k107 : Nat → Int → Int → Int → Int → Int → Int → Int → Int → Int → Prop} {a1 : Nat} {x4 : Int} {x5 : Int} {x6 : Int} {x7 : Int} {x8 : Int} {x9 : Int} {x10 : Int} {x11 : Int} {M : e_M} (C : f_Hy sh t yX5_isInside rm cs 6 (lX5_isInside c_X3_next c_X11_isOn c_X11_turn c_X3_where) R) (h107 : ∀ (a1 : Nat) (x4 : Int) (x5 : Int) (x6 : Int) (x7 : Int) (x8 : Int) (x9 : Int) (x10 : Int) (x11 : Int) (xs0 : Int), k107 a1 x4 x5 x6 x7 x8 x9 x10 x11 xs0 → f_E sh t YX5_isInside rm cs (f_Q sh t R) 107 [.inr (.inr (.inr ())), .inr (.inr (.inl (3, 3, a1))), .inr (.inr (.inr ())), .inr (.inr (.inr ())), .inl x4, .inl x5, .inl x6, .inl x7, .inl x8, .inl x9, .inl x10, .inl x11, .inr (.inr (.inr ())), .inr (.inr (.inr ())), .inr (.inr (.inr ()))] [.inl xs0] M) (h : VX5_isInside_102 c_X3_next c_X11_isOn c_X11_turn c_X3_where k107 (fun r => R (some (.inl r)) M) a1 x4 x5 x6 x7 x8 x9 x10 x11 M) : f_E sh t YX5_isInside rm cs (f_Q sh t R) 102 [.inr (.inr (.inr ())), .inr (.inr (.inl (3, 3, a1))), .inr (.inr (.inr ())), .inr (.inr (.inr ())), .inl x4, .inl x5, .inl x6, .inl x7, .inl x8, .inl x9, .inl x10, .inl x11, .inr (.inr (.inr ())), .inr (.inr (.inr ())), .inr (.inr (.inr ()))] [] M := by
  rw [f_kk10 M k107] at h
  exact f_go (KC := f_kc [(107, f_pl [(0, 0, 0), (3, 3, 3), (0, 0, 0), (0, 0, 0), (1, 0, 0), (1, 0, 0), (1, 0, 0), (1, 0, 0), (1, 0, 0), (1, 0, 0), (1, 0, 0), (1, 0, 0), (0, 0, 0), (0, 0, 0), (0, 0, 0)] [(1, 0, 0)] (fun ls st M2 => M2 = M ∧ (k107 (f_va (f_nth ls 1)) (f_vi (f_nth ls 4)) (f_vi (f_nth ls 5)) (f_vi (f_nth ls 6)) (f_vi (f_nth ls 7)) (f_vi (f_nth ls 8)) (f_vi (f_nth ls 9)) (f_vi (f_nth ls 10)) (f_vi (f_nth ls 11)) (f_vi (f_nth st 0)))))]) C qX5_isInsidef (f_kc_cons (f_pl_ok rfl (fun ls st M2 ⟨e, hh⟩ => by subst e; exact h107 _ _ _ _ _ _ _ _ _ _ hh)) f_kc_nil) 148 61 h
set_option maxRecDepth 20000 in
theorem BX5_isInside_106 {sh : Nat → Nat × Nat} {t : Nat} {rm : Nat × Nat × Nat} {cs : Nat × Nat} {R : f_Rt} {c_X3_next : Nat → Int → e_M → (Int → Prop) → Prop} {c_X11_isOn : Int → Int → Int → Int → Int → Int → e_M → (Int → Prop) → Prop} {c_X11_turn : Int → Int → Int → Int → Int → Int → e_M → (Int → Prop) → Prop} {c_X3_where : Nat → Int → Int → Int → e_M → (Int → Prop) → Prop} {k107 : Nat → Int → Int → Int → Int → Int → Int → Int → Int → Int → Prop} {a1 : Nat} {x4 : Int} {x5 : Int} {x6 : Int} {x7 : Int} {x8 : Int} {x9 : Int} {x10 : Int} {x11 : Int} {M : e_M} (C : f_Hy sh t yX5_isInside rm cs 6 (lX5_isInside c_X3_next c_X11_isOn c_X11_turn c_X3_where) R) (h107 : ∀ (a1 : Nat) (x4 : Int) (x5 : Int) (x6 : Int) (x7 : Int) (x8 : Int) (x9 : Int) (x10 : Int) (x11 : Int) (xs0 : Int), k107 a1 x4 x5 x6 x7 x8 x9 x10 x11 xs0 → f_E sh t YX5_isInside rm cs (f_Q sh t R) 107 [.inr (.inr (.inr ())), .inr (.inr (.inl (3, 3, a1))), .inr (.inr (.inr ())), .inr (.inr (.inr ())), .inl x4, .inl x5, .inl x6, .inl x7, .inl x8, .inl x9, .inl x10, .inl x11, .inr (.inr (.inr ())), .inr (.inr (.inr ())), .inr (.inr (.inr ()))] [.inl xs0] M) (h : VX5_isInside_106 c_X3_next c_X11_isOn c_X11_turn c_X3_where k107 (fun r => R (some (.inl r)) M) a1 x4 x5 x6 x7 x8 x9 x10 x11 M) : f_E sh t YX5_isInside rm cs (f_Q sh t R) 106 [.inr (.inr (.inr ())), .inr (.inr (.inl (3, 3, a1))), .inr (.inr (.inr ())), .inr (.inr (.inr ())), .inl x4, .inl x5, .inl x6, .inl x7, .inl x8, .inl x9, .inl x10, .inl x11, .inr (.inr (.inr ())), .inr (.inr (.inr ())), .inr (.inr (.inr ()))] [] M := by
  rw [f_kk10 M k107] at h
  exact f_go (KC := f_kc [(107, f_pl [(0, 0, 0), (3, 3, 3), (0, 0, 0), (0, 0, 0), (1, 0, 0), (1, 0, 0), (1, 0, 0), (1, 0, 0), (1, 0, 0), (1, 0, 0), (1, 0, 0), (1, 0, 0), (0, 0, 0), (0, 0, 0), (0, 0, 0)] [(1, 0, 0)] (fun ls st M2 => M2 = M ∧ (k107 (f_va (f_nth ls 1)) (f_vi (f_nth ls 4)) (f_vi (f_nth ls 5)) (f_vi (f_nth ls 6)) (f_vi (f_nth ls 7)) (f_vi (f_nth ls 8)) (f_vi (f_nth ls 9)) (f_vi (f_nth ls 10)) (f_vi (f_nth ls 11)) (f_vi (f_nth st 0)))))]) C qX5_isInsidef (f_kc_cons (f_pl_ok rfl (fun ls st M2 ⟨e, hh⟩ => by subst e; exact h107 _ _ _ _ _ _ _ _ _ _ hh)) f_kc_nil) 148 64 h
set_option maxRecDepth 20000 in
theorem BX5_isInside_107 {sh : Nat → Nat × Nat} {t : Nat} {rm : Nat × Nat × Nat} {cs : Nat × Nat} {R : f_Rt} {c_X3_next : Nat → Int → e_M → (Int → Prop) → Prop} {c_X11_isOn : Int → Int → Int → Int → Int → Int → e_M → (Int → Prop) → Prop} {c_X11_turn : Int → Int → Int → Int → Int → Int → e_M → (Int → Prop) → Prop} {c_X3_where : Nat → Int → Int → Int → e_M → (Int → Prop) → Prop} {k134 : Nat → Int → Int → Int → Int → Int → Int → Int → Int → Prop} {a1 : Nat} {x4 : Int} {x5 : Int} {x6 : Int} {x7 : Int} {x8 : Int} {x9 : Int} {x10 : Int} {x11 : Int} {xs0 : Int} {M : e_M} (C : f_Hy sh t yX5_isInside rm cs 6 (lX5_isInside c_X3_next c_X11_isOn c_X11_turn c_X3_where) R) (h134 : ∀ (a1 : Nat) (x4 : Int) (x5 : Int) (x6 : Int) (x7 : Int) (x8 : Int) (x9 : Int) (x10 : Int) (x11 : Int), k134 a1 x4 x5 x6 x7 x8 x9 x10 x11 → f_E sh t YX5_isInside rm cs (f_Q sh t R) 134 [.inr (.inr (.inr ())), .inr (.inr (.inl (3, 3, a1))), .inr (.inr (.inr ())), .inr (.inr (.inr ())), .inl x4, .inl x5, .inl x6, .inl x7, .inl x8, .inl x9, .inl x10, .inl x11, .inr (.inr (.inr ())), .inr (.inr (.inr ())), .inr (.inr (.inr ()))] [] M) (h : VX5_isInside_107 c_X3_next c_X11_isOn c_X11_turn c_X3_where k134 (fun r => R (some (.inl r)) M) a1 x4 x5 x6 x7 x8 x9 x10 x11 xs0 M) : f_E sh t YX5_isInside rm cs (f_Q sh t R) 107 [.inr (.inr (.inr ())), .inr (.inr (.inl (3, 3, a1))), .inr (.inr (.inr ())), .inr (.inr (.inr ())), .inl x4, .inl x5, .inl x6, .inl x7, .inl x8, .inl x9, .inl x10, .inl x11, .inr (.inr (.inr ())), .inr (.inr (.inr ())), .inr (.inr (.inr ()))] [.inl xs0] M := by
  rw [f_kk9 M k134] at h
  exact f_go (KC := f_kc [(134, f_pl [(0, 0, 0), (3, 3, 3), (0, 0, 0), (0, 0, 0), (1, 0, 0), (1, 0, 0), (1, 0, 0), (1, 0, 0), (1, 0, 0), (1, 0, 0), (1, 0, 0), (1, 0, 0), (0, 0, 0), (0, 0, 0), (0, 0, 0)] [] (fun ls st M2 => M2 = M ∧ (k134 (f_va (f_nth ls 1)) (f_vi (f_nth ls 4)) (f_vi (f_nth ls 5)) (f_vi (f_nth ls 6)) (f_vi (f_nth ls 7)) (f_vi (f_nth ls 8)) (f_vi (f_nth ls 9)) (f_vi (f_nth ls 10)) (f_vi (f_nth ls 11)))))]) C qX5_isInsidef (f_kc_cons (f_pl_ok rfl (fun ls st M2 ⟨e, hh⟩ => by subst e; exact h134 _ _ _ _ _ _ _ _ _ hh)) f_kc_nil) 148 66 h
set_option maxRecDepth 20000 in
theorem BX5_isInside_134 {sh : Nat → Nat × Nat} {t : Nat} {rm : Nat × Nat × Nat} {cs : Nat × Nat} {R : f_Rt} {c_X3_next : Nat → Int → e_M → (Int → Prop) → Prop} {c_X11_isOn : Int → Int → Int → Int → Int → Int → e_M → (Int → Prop) → Prop} {c_X11_turn : Int → Int → Int → Int → Int → Int → e_M → (Int → Prop) → Prop} {c_X3_where : Nat → Int → Int → Int → e_M → (Int → Prop) → Prop} {k226 : Nat → Int → Int → Int → Int → Int → Prop} {a1 : Nat} {x4 : Int} {x5 : Int} {x6 : Int} {x7 : Int} {x8 : Int} {x9 : Int} {x10 : Int} {x11 : Int} {M : e_M} (C : f_Hy sh t yX5_isInside rm cs 6 (lX5_isInside c_X3_next c_X11_isOn c_X11_turn c_X3_where) R) (h226 : ∀ (a1 : Nat) (x4 : Int) (x5 : Int) (x6 : Int) (x7 : Int) (x8 : Int), k226 a1 x4 x5 x6 x7 x8 → f_E sh t YX5_isInside rm cs (f_Q sh t R) 226 [.inr (.inr (.inr ())), .inr (.inr (.inl (3, 3, a1))), .inr (.inr (.inr ())), .inr (.inr (.inr ())), .inl x4, .inl x5, .inl x6, .inl x7, .inl x8, .inr (.inr (.inr ())), .inr (.inr (.inr ())), .inr (.inr (.inr ())), .inr (.inr (.inr ())), .inr (.inr (.inr ())), .inr (.inr (.inr ()))] [] M) (h : VX5_isInside_134 c_X3_next c_X11_isOn c_X11_turn c_X3_where k226 (fun r => R (some (.inl r)) M) a1 x4 x5 x6 x7 x8 x9 x10 x11 M) : f_E sh t YX5_isInside rm cs (f_Q sh t R) 134 [.inr (.inr (.inr ())), .inr (.inr (.inl (3, 3, a1))), .inr (.inr (.inr ())), .inr (.inr (.inr ())), .inl x4, .inl x5, .inl x6, .inl x7, .inl x8, .inl x9, .inl x10, .inl x11, .inr (.inr (.inr ())), .inr (.inr (.inr ())), .inr (.inr (.inr ()))] [] M := by
  rw [f_kk6 M k226] at h
  exact f_go (KC := f_kc [(226, f_pl [(0, 0, 0), (3, 3, 3), (0, 0, 0), (0, 0, 0), (1, 0, 0), (1, 0, 0), (1, 0, 0), (1, 0, 0), (1, 0, 0), (0, 0, 0), (0, 0, 0), (0, 0, 0), (0, 0, 0), (0, 0, 0), (0, 0, 0)] [] (fun ls st M2 => M2 = M ∧ (k226 (f_va (f_nth ls 1)) (f_vi (f_nth ls 4)) (f_vi (f_nth ls 5)) (f_vi (f_nth ls 6)) (f_vi (f_nth ls 7)) (f_vi (f_nth ls 8)))))]) C qX5_isInsidef (f_kc_cons (f_pl_ok rfl (fun ls st M2 ⟨e, hh⟩ => by subst e; exact h226 _ _ _ _ _ _ hh)) f_kc_nil) 148 80 h
set_option maxRecDepth 20000 in
theorem BX5_isInside_226 {sh : Nat → Nat × Nat} {t : Nat} {rm : Nat × Nat × Nat} {cs : Nat × Nat} {R : f_Rt} {c_X3_next : Nat → Int → e_M → (Int → Prop) → Prop} {c_X11_isOn : Int → Int → Int → Int → Int → Int → e_M → (Int → Prop) → Prop} {c_X11_turn : Int → Int → Int → Int → Int → Int → e_M → (Int → Prop) → Prop} {c_X3_where : Nat → Int → Int → Int → e_M → (Int → Prop) → Prop} {k39 : Nat → Int → Int → Int → Int → Int → Prop} {a1 : Nat} {x4 : Int} {x5 : Int} {x6 : Int} {x7 : Int} {x8 : Int} {M : e_M} (C : f_Hy sh t yX5_isInside rm cs 6 (lX5_isInside c_X3_next c_X11_isOn c_X11_turn c_X3_where) R) (h39 : ∀ (a1 : Nat) (x4 : Int) (x5 : Int) (x6 : Int) (x7 : Int) (x8 : Int), k39 a1 x4 x5 x6 x7 x8 → f_E sh t YX5_isInside rm cs (f_Q sh t R) 39 [.inr (.inr (.inr ())), .inr (.inr (.inl (3, 3, a1))), .inr (.inr (.inr ())), .inr (.inr (.inr ())), .inl x4, .inl x5, .inl x6, .inl x7, .inl x8, .inr (.inr (.inr ())), .inr (.inr (.inr ())), .inr (.inr (.inr ())), .inr (.inr (.inr ())), .inr (.inr (.inr ())), .inr (.inr (.inr ()))] [] M) (h : VX5_isInside_226 c_X3_next c_X11_isOn c_X11_turn c_X3_where k39 (fun r => R (some (.inl r)) M) a1 x4 x5 x6 x7 x8 M) : f_E sh t YX5_isInside rm cs (f_Q sh t R) 226 [.inr (.inr (.inr ())), .inr (.inr (.inl (3, 3, a1))), .inr (.inr (.inr ())), .inr (.inr (.inr ())), .inl x4, .inl x5, .inl x6, .inl x7, .inl x8, .inr (.inr (.inr ())), .inr (.inr (.inr ())), .inr (.inr (.inr ())), .inr (.inr (.inr ())), .inr (.inr (.inr ())), .inr (.inr (.inr ()))] [] M := by
  rw [f_kk6 M k39] at h
  exact f_go (KC := f_kc [(39, f_pl [(0, 0, 0), (3, 3, 3), (0, 0, 0), (0, 0, 0), (1, 0, 0), (1, 0, 0), (1, 0, 0), (1, 0, 0), (1, 0, 0), (0, 0, 0), (0, 0, 0), (0, 0, 0), (0, 0, 0), (0, 0, 0), (0, 0, 0)] [] (fun ls st M2 => M2 = M ∧ (k39 (f_va (f_nth ls 1)) (f_vi (f_nth ls 4)) (f_vi (f_nth ls 5)) (f_vi (f_nth ls 6)) (f_vi (f_nth ls 7)) (f_vi (f_nth ls 8)))))]) C qX5_isInsidef (f_kc_cons (f_pl_ok rfl (fun ls st M2 ⟨e, hh⟩ => by subst e; exact h39 _ _ _ _ _ _ hh)) f_kc_nil) 148 127 h
set_option maxRecDepth 20000 in
theorem BX5_isInside {sh : Nat → Nat × Nat} {t : Nat} {rm : Nat × Nat × Nat} {cs : Nat × Nat} {R : f_Rt} {c_X3_next : Nat → Int → e_M → (Int → Prop) → Prop} {c_X11_isOn : Int → Int → Int → Int → Int → Int → e_M → (Int → Prop) → Prop} {c_X11_turn : Int → Int → Int → Int → Int → Int → e_M → (Int → Prop) → Prop} {c_X3_where : Nat → Int → Int → Int → e_M → (Int → Prop) → Prop} {k39 : Nat → Int → Int → Int → Int → Int → Prop} {a1 : Nat} {a2 : Nat} {x3 : Int} {M : e_M} (C : f_Hy sh t yX5_isInside rm cs 6 (lX5_isInside c_X3_next c_X11_isOn c_X11_turn c_X3_where) R) (h39 : ∀ (a1 : Nat) (x4 : Int) (x5 : Int) (x6 : Int) (x7 : Int) (x8 : Int), k39 a1 x4 x5 x6 x7 x8 → f_E sh t YX5_isInside rm cs (f_Q sh t R) 39 [.inr (.inr (.inr ())), .inr (.inr (.inl (3, 3, a1))), .inr (.inr (.inr ())), .inr (.inr (.inr ())), .inl x4, .inl x5, .inl x6, .inl x7, .inl x8, .inr (.inr (.inr ())), .inr (.inr (.inr ())), .inr (.inr (.inr ())), .inr (.inr (.inr ())), .inr (.inr (.inr ())), .inr (.inr (.inr ()))] [] M) (h : VX5_isInside c_X3_next c_X11_isOn c_X11_turn c_X3_where k39 (fun r => R (some (.inl r)) M) a1 a2 x3 M) : f_E sh t YX5_isInside rm cs (f_Q sh t R) 0 [.inr (.inr (.inl (5, 12, 4426))), .inr (.inr (.inl (3, 3, a1))), .inr (.inr (.inl (2, 19, a2))), .inl x3, .inr (.inr (.inr ())), .inr (.inr (.inr ())), .inr (.inr (.inr ())), .inr (.inr (.inr ())), .inr (.inr (.inr ())), .inr (.inr (.inr ())), .inr (.inr (.inr ())), .inr (.inr (.inr ())), .inr (.inr (.inr ())), .inr (.inr (.inr ())), .inr (.inr (.inr ()))] [] M := by
  rw [f_kk6 M k39] at h
  exact f_go (KC := f_kc [(39, f_pl [(0, 0, 0), (3, 3, 3), (0, 0, 0), (0, 0, 0), (1, 0, 0), (1, 0, 0), (1, 0, 0), (1, 0, 0), (1, 0, 0), (0, 0, 0), (0, 0, 0), (0, 0, 0), (0, 0, 0), (0, 0, 0), (0, 0, 0)] [] (fun ls st M2 => M2 = M ∧ (k39 (f_va (f_nth ls 1)) (f_vi (f_nth ls 4)) (f_vi (f_nth ls 5)) (f_vi (f_nth ls 6)) (f_vi (f_nth ls 7)) (f_vi (f_nth ls 8)))))]) C qX5_isInsidef (f_kc_cons (f_pl_ok rfl (fun ls st M2 ⟨e, hh⟩ => by subst e; exact h39 _ _ _ _ _ _ hh)) f_kc_nil) 148 0 h
def WX5_isInside_226 (M : e_M) (H39 : Nat → Int → Int → Int → Int → Int → Prop) (Q : Int → Prop) (a1 : Nat) (x4 : Int) (x5 : Int) (x6 : Int) (x7 : Int) (x8 : Int) : Prop :=
  VX5_isInside_226 WX3_next WX11_isOn WX11_turn WX3_where H39 Q a1 x4 x5 x6 x7 x8 M
def WX5_isInside_134 (M : e_M) (H39 : Nat → Int → Int → Int → Int → Int → Prop) (Q : Int → Prop) (a1 : Nat) (x4 : Int) (x5 : Int) (x6 : Int) (x7 : Int) (x8 : Int) (x9 : Int) (x10 : Int) (x11 : Int) : Prop :=
  VX5_isInside_134 WX3_next WX11_isOn WX11_turn WX3_where (WX5_isInside_226 M H39 Q) Q a1 x4 x5 x6 x7 x8 x9 x10 x11 M
def WX5_isInside_107 (M : e_M) (H39 : Nat → Int → Int → Int → Int → Int → Prop) (Q : Int → Prop) (a1 : Nat) (x4 : Int) (x5 : Int) (x6 : Int) (x7 : Int) (x8 : Int) (x9 : Int) (x10 : Int) (x11 : Int) (xs0 : Int) : Prop :=
  VX5_isInside_107 WX3_next WX11_isOn WX11_turn WX3_where (WX5_isInside_134 M H39 Q) Q a1 x4 x5 x6 x7 x8 x9 x10 x11 xs0 M
def WX5_isInside_102 (M : e_M) (H39 : Nat → Int → Int → Int → Int → Int → Prop) (Q : Int → Prop) (a1 : Nat) (x4 : Int) (x5 : Int) (x6 : Int) (x7 : Int) (x8 : Int) (x9 : Int) (x10 : Int) (x11 : Int) : Prop :=
  VX5_isInside_102 WX3_next WX11_isOn WX11_turn WX3_where (WX5_isInside_107 M H39 Q) Q a1 x4 x5 x6 x7 x8 x9 x10 x11 M
def WX5_isInside_106 (M : e_M) (H39 : Nat → Int → Int → Int → Int → Int → Prop) (Q : Int → Prop) (a1 : Nat) (x4 : Int) (x5 : Int) (x6 : Int) (x7 : Int) (x8 : Int) (x9 : Int) (x10 : Int) (x11 : Int) : Prop :=
  VX5_isInside_106 WX3_next WX11_isOn WX11_turn WX3_where (WX5_isInside_107 M H39 Q) Q a1 x4 x5 x6 x7 x8 x9 x10 x11 M
def WX5_isInside_88 (M : e_M) (H39 : Nat → Int → Int → Int → Int → Int → Prop) (Q : Int → Prop) (a1 : Nat) (x4 : Int) (x5 : Int) (x6 : Int) (x7 : Int) (x8 : Int) (x9 : Int) (x10 : Int) (x11 : Int) : Prop :=
  VX5_isInside_88 WX3_next WX11_isOn WX11_turn WX3_where (WX5_isInside_106 M H39 Q) (WX5_isInside_102 M H39 Q) Q a1 x4 x5 x6 x7 x8 x9 x10 x11 M
def WX5_isInside_39 (M : e_M) (Q : Int → Prop) : Nat → Nat → Int → Int → Int → Int → Int → Prop
  | 0, _, _, _, _, _, _ => False
  | n + 1, a1, x4, x5, x6, x7, x8 =>
    VX5_isInside_39 WX3_next WX11_isOn WX11_turn WX3_where (WX5_isInside_88 M (WX5_isInside_39 M Q n) Q) (WX5_isInside_102 M (WX5_isInside_39 M Q n) Q) Q a1 x4 x5 x6 x7 x8 M
def WX5_isInside (a1 : Nat) (a2 : Nat) (x3 : Int) (M : e_M) (Q : Int → Prop) : Prop :=
  VX5_isInside WX3_next WX11_isOn WX11_turn WX3_where (fun a1 x4 x5 x6 x7 x8 => ∃ j, WX5_isInside_39 M Q j a1 x4 x5 x6 x7 x8) Q a1 a2 x3 M
theorem PX5_isInside_226 {sh : Nat → Nat × Nat} {t : Nat} {rm : Nat × Nat × Nat} {cs : Nat × Nat} {R : f_Rt} {H39 : Nat → Int → Int → Int → Int → Int → Prop} {a1 : Nat} {x4 : Int} {x5 : Int} {x6 : Int} {x7 : Int} {x8 : Int} {M : e_M} (C : f_Hy sh t yX5_isInside rm cs 6 (lX5_isInside WX3_next WX11_isOn WX11_turn WX3_where) R) (g39 : ∀ (a1 : Nat) (x4 : Int) (x5 : Int) (x6 : Int) (x7 : Int) (x8 : Int), H39 a1 x4 x5 x6 x7 x8 → f_E sh t YX5_isInside rm cs (f_Q sh t R) 39 [.inr (.inr (.inr ())), .inr (.inr (.inl (3, 3, a1))), .inr (.inr (.inr ())), .inr (.inr (.inr ())), .inl x4, .inl x5, .inl x6, .inl x7, .inl x8, .inr (.inr (.inr ())), .inr (.inr (.inr ())), .inr (.inr (.inr ())), .inr (.inr (.inr ())), .inr (.inr (.inr ())), .inr (.inr (.inr ()))] [] M) (h : WX5_isInside_226 M H39 (fun r => R (some (.inl r)) M) a1 x4 x5 x6 x7 x8) : f_E sh t YX5_isInside rm cs (f_Q sh t R) 226 [.inr (.inr (.inr ())), .inr (.inr (.inl (3, 3, a1))), .inr (.inr (.inr ())), .inr (.inr (.inr ())), .inl x4, .inl x5, .inl x6, .inl x7, .inl x8, .inr (.inr (.inr ())), .inr (.inr (.inr ())), .inr (.inr (.inr ())), .inr (.inr (.inr ())), .inr (.inr (.inr ())), .inr (.inr (.inr ()))] [] M :=
  BX5_isInside_226 C g39 h
theorem PX5_isInside_134 {sh : Nat → Nat × Nat} {t : Nat} {rm : Nat × Nat × Nat} {cs : Nat × Nat} {R : f_Rt} {H39 : Nat → Int → Int → Int → Int → Int → Prop} {a1 : Nat} {x4 : Int} {x5 : Int} {x6 : Int} {x7 : Int} {x8 : Int} {x9 : Int} {x10 : Int} {x11 : Int} {M : e_M} (C : f_Hy sh t yX5_isInside rm cs 6 (lX5_isInside WX3_next WX11_isOn WX11_turn WX3_where) R) (g39 : ∀ (a1 : Nat) (x4 : Int) (x5 : Int) (x6 : Int) (x7 : Int) (x8 : Int), H39 a1 x4 x5 x6 x7 x8 → f_E sh t YX5_isInside rm cs (f_Q sh t R) 39 [.inr (.inr (.inr ())), .inr (.inr (.inl (3, 3, a1))), .inr (.inr (.inr ())), .inr (.inr (.inr ())), .inl x4, .inl x5, .inl x6, .inl x7, .inl x8, .inr (.inr (.inr ())), .inr (.inr (.inr ())), .inr (.inr (.inr ())), .inr (.inr (.inr ())), .inr (.inr (.inr ())), .inr (.inr (.inr ()))] [] M) (h : WX5_isInside_134 M H39 (fun r => R (some (.inl r)) M) a1 x4 x5 x6 x7 x8 x9 x10 x11) : f_E sh t YX5_isInside rm cs (f_Q sh t R) 134 [.inr (.inr (.inr ())), .inr (.inr (.inl (3, 3, a1))), .inr (.inr (.inr ())), .inr (.inr (.inr ())), .inl x4, .inl x5, .inl x6, .inl x7, .inl x8, .inl x9, .inl x10, .inl x11, .inr (.inr (.inr ())), .inr (.inr (.inr ())), .inr (.inr (.inr ()))] [] M :=
  BX5_isInside_134 C (fun a1 x4 x5 x6 x7 x8 h => PX5_isInside_226 C g39 h) h
theorem PX5_isInside_107 {sh : Nat → Nat × Nat} {t : Nat} {rm : Nat × Nat × Nat} {cs : Nat × Nat} {R : f_Rt} {H39 : Nat → Int → Int → Int → Int → Int → Prop} {a1 : Nat} {x4 : Int} {x5 : Int} {x6 : Int} {x7 : Int} {x8 : Int} {x9 : Int} {x10 : Int} {x11 : Int} {xs0 : Int} {M : e_M} (C : f_Hy sh t yX5_isInside rm cs 6 (lX5_isInside WX3_next WX11_isOn WX11_turn WX3_where) R) (g39 : ∀ (a1 : Nat) (x4 : Int) (x5 : Int) (x6 : Int) (x7 : Int) (x8 : Int), H39 a1 x4 x5 x6 x7 x8 → f_E sh t YX5_isInside rm cs (f_Q sh t R) 39 [.inr (.inr (.inr ())), .inr (.inr (.inl (3, 3, a1))), .inr (.inr (.inr ())), .inr (.inr (.inr ())), .inl x4, .inl x5, .inl x6, .inl x7, .inl x8, .inr (.inr (.inr ())), .inr (.inr (.inr ())), .inr (.inr (.inr ())), .inr (.inr (.inr ())), .inr (.inr (.inr ())), .inr (.inr (.inr ()))] [] M) (h : WX5_isInside_107 M H39 (fun r => R (some (.inl r)) M) a1 x4 x5 x6 x7 x8 x9 x10 x11 xs0) : f_E sh t YX5_isInside rm cs (f_Q sh t R) 107 [.inr (.inr (.inr ())), .inr (.inr (.inl (3, 3, a1))), .inr (.inr (.inr ())), .inr (.inr (.inr ())), .inl x4, .inl x5, .inl x6, .inl x7, .inl x8, .inl x9, .inl x10, .inl x11, .inr (.inr (.inr ())), .inr (.inr (.inr ())), .inr (.inr (.inr ()))] [.inl xs0] M :=
  BX5_isInside_107 C (fun a1 x4 x5 x6 x7 x8 x9 x10 x11 h => PX5_isInside_134 C g39 h) h
theorem PX5_isInside_102 {sh : Nat → Nat × Nat} {t : Nat} {rm : Nat × Nat × Nat} {cs : Nat × Nat} {R : f_Rt} {H39 : Nat → Int → Int → Int → Int → Int → Prop} {a1 : Nat} {x4 : Int} {x5 : Int} {x6 : Int} {x7 : Int} {x8 : Int} {x9 : Int} {x10 : Int} {x11 : Int} {M : e_M} (C : f_Hy sh t yX5_isInside rm cs 6 (lX5_isInside WX3_next WX11_isOn WX11_turn WX3_where) R) (g39 : ∀ (a1 : Nat) (x4 : Int) (x5 : Int) (x6 : Int) (x7 : Int) (x8 : Int), H39 a1 x4 x5 x6 x7 x8 → f_E sh t YX5_isInside rm cs (f_Q sh t R) 39 [.inr (.inr (.inr ())), .inr (.inr (.inl (3, 3, a1))), .inr (.inr (.inr ())), .inr (.inr (.inr ())), .inl x4, .inl x5, .inl x6, .inl x7, .inl x8, .inr (.inr (.inr ())), .inr (.inr (.inr ())), .inr (.inr (.inr ())), .inr (.inr (.inr ())), .inr (.inr (.inr ())), .inr (.inr (.inr ()))] [] M) (h : WX5_isInside_102 M H39 (fun r => R (some (.inl r)) M) a1 x4 x5 x6 x7 x8 x9 x10 x11) : f_E sh t YX5_isInside rm cs (f_Q sh t R) 102 [.inr (.inr (.inr ())), .inr (.inr (.inl (3, 3, a1))), .inr (.inr (.inr ())), .inr (.inr (.inr ())), .inl x4, .inl x5, .inl x6, .inl x7, .inl x8, .inl x9, .inl x10, .inl x11, .inr (.inr (.inr ())), .inr (.inr (.inr ())), .inr (.inr (.inr ()))] [] M :=
  BX5_isInside_102 C (fun a1 x4 x5 x6 x7 x8 x9 x10 x11 xs0 h => PX5_isInside_107 C g39 h) h
theorem PX5_isInside_106 {sh : Nat → Nat × Nat} {t : Nat} {rm : Nat × Nat × Nat} {cs : Nat × Nat} {R : f_Rt} {H39 : Nat → Int → Int → Int → Int → Int → Prop} {a1 : Nat} {x4 : Int} {x5 : Int} {x6 : Int} {x7 : Int} {x8 : Int} {x9 : Int} {x10 : Int} {x11 : Int} {M : e_M} (C : f_Hy sh t yX5_isInside rm cs 6 (lX5_isInside WX3_next WX11_isOn WX11_turn WX3_where) R) (g39 : ∀ (a1 : Nat) (x4 : Int) (x5 : Int) (x6 : Int) (x7 : Int) (x8 : Int), H39 a1 x4 x5 x6 x7 x8 → f_E sh t YX5_isInside rm cs (f_Q sh t R) 39 [.inr (.inr (.inr ())), .inr (.inr (.inl (3, 3, a1))), .inr (.inr (.inr ())), .inr (.inr (.inr ())), .inl x4, .inl x5, .inl x6, .inl x7, .inl x8, .inr (.inr (.inr ())), .inr (.inr (.inr ())), .inr (.inr (.inr ())), .inr (.inr (.inr ())), .inr (.inr (.inr ())), .inr (.inr (.inr ()))] [] M) (h : WX5_isInside_106 M H39 (fun r => R (some (.inl r)) M) a1 x4 x5 x6 x7 x8 x9 x10 x11) : f_E sh t YX5_isInside rm cs (f_Q sh t R) 106 [.inr (.inr (.inr ())), .inr (.inr (.inl (3, 3, a1))), .inr (.inr (.inr ())), .inr (.inr (.inr ())), .inl x4, .inl x5, .inl x6, .inl x7, .inl x8, .inl x9, .inl x10, .inl x11, .inr (.inr (.inr ())), .inr (.inr (.inr ())), .inr (.inr (.inr ()))] [] M :=
  BX5_isInside_106 C (fun a1 x4 x5 x6 x7 x8 x9 x10 x11 xs0 h => PX5_isInside_107 C g39 h) h
theorem PX5_isInside_88 {sh : Nat → Nat × Nat} {t : Nat} {rm : Nat × Nat × Nat} {cs : Nat × Nat} {R : f_Rt} {H39 : Nat → Int → Int → Int → Int → Int → Prop} {a1 : Nat} {x4 : Int} {x5 : Int} {x6 : Int} {x7 : Int} {x8 : Int} {x9 : Int} {x10 : Int} {x11 : Int} {M : e_M} (C : f_Hy sh t yX5_isInside rm cs 6 (lX5_isInside WX3_next WX11_isOn WX11_turn WX3_where) R) (g39 : ∀ (a1 : Nat) (x4 : Int) (x5 : Int) (x6 : Int) (x7 : Int) (x8 : Int), H39 a1 x4 x5 x6 x7 x8 → f_E sh t YX5_isInside rm cs (f_Q sh t R) 39 [.inr (.inr (.inr ())), .inr (.inr (.inl (3, 3, a1))), .inr (.inr (.inr ())), .inr (.inr (.inr ())), .inl x4, .inl x5, .inl x6, .inl x7, .inl x8, .inr (.inr (.inr ())), .inr (.inr (.inr ())), .inr (.inr (.inr ())), .inr (.inr (.inr ())), .inr (.inr (.inr ())), .inr (.inr (.inr ()))] [] M) (h : WX5_isInside_88 M H39 (fun r => R (some (.inl r)) M) a1 x4 x5 x6 x7 x8 x9 x10 x11) : f_E sh t YX5_isInside rm cs (f_Q sh t R) 88 [.inr (.inr (.inr ())), .inr (.inr (.inl (3, 3, a1))), .inr (.inr (.inr ())), .inr (.inr (.inr ())), .inl x4, .inl x5, .inl x6, .inl x7, .inl x8, .inl x9, .inl x10, .inl x11, .inr (.inr (.inr ())), .inr (.inr (.inr ())), .inr (.inr (.inr ()))] [] M :=
  BX5_isInside_88 C (fun a1 x4 x5 x6 x7 x8 x9 x10 x11 h => PX5_isInside_106 C g39 h) (fun a1 x4 x5 x6 x7 x8 x9 x10 x11 h => PX5_isInside_102 C g39 h) h
theorem PX5_isInside_39 {sh : Nat → Nat × Nat} {t : Nat} {rm : Nat × Nat × Nat} {cs : Nat × Nat} {R : f_Rt} {M : e_M} (C : f_Hy sh t yX5_isInside rm cs 6 (lX5_isInside WX3_next WX11_isOn WX11_turn WX3_where) R) : ∀ (n : Nat) (a1 : Nat) (x4 : Int) (x5 : Int) (x6 : Int) (x7 : Int) (x8 : Int), WX5_isInside_39 M (fun r => R (some (.inl r)) M) n a1 x4 x5 x6 x7 x8 → f_E sh t YX5_isInside rm cs (f_Q sh t R) 39 [.inr (.inr (.inr ())), .inr (.inr (.inl (3, 3, a1))), .inr (.inr (.inr ())), .inr (.inr (.inr ())), .inl x4, .inl x5, .inl x6, .inl x7, .inl x8, .inr (.inr (.inr ())), .inr (.inr (.inr ())), .inr (.inr (.inr ())), .inr (.inr (.inr ())), .inr (.inr (.inr ())), .inr (.inr (.inr ()))] [] M := by
  intro n
  induction n with
  | zero => intro a1 x4 x5 x6 x7 x8 h; exact h.elim
  | succ n ih => intro a1 x4 x5 x6 x7 x8 h; exact BX5_isInside_39 C (fun a1 x4 x5 x6 x7 x8 x9 x10 x11 h => PX5_isInside_88 C ih h) (fun a1 x4 x5 x6 x7 x8 x9 x10 x11 h => PX5_isInside_102 C ih h) h
theorem PX5_isInside {sh : Nat → Nat × Nat} {t : Nat} {rm : Nat × Nat × Nat} {cs : Nat × Nat} {R : f_Rt} {a1 : Nat} {a2 : Nat} {x3 : Int} {M : e_M} (C : f_Hy sh t yX5_isInside rm cs 6 (lX5_isInside WX3_next WX11_isOn WX11_turn WX3_where) R) (h : WX5_isInside a1 a2 x3 M (fun r => R (some (.inl r)) M)) : f_E sh t YX5_isInside rm cs (f_Q sh t R) 0 [.inr (.inr (.inl (5, 12, 4426))), .inr (.inr (.inl (3, 3, a1))), .inr (.inr (.inl (2, 19, a2))), .inl x3, .inr (.inr (.inr ())), .inr (.inr (.inr ())), .inr (.inr (.inr ())), .inr (.inr (.inr ())), .inr (.inr (.inr ())), .inr (.inr (.inr ())), .inr (.inr (.inr ())), .inr (.inr (.inr ())), .inr (.inr (.inr ())), .inr (.inr (.inr ())), .inr (.inr (.inr ()))] [] M :=
  BX5_isInside C (fun a1 x4 x5 x6 x7 x8 ⟨j, h⟩ => PX5_isInside_39 C j _ _ _ _ _ _ h) h
def wX5_isInside : f_Wt := f_wm [(4436, 5, 12), (3, 3, 3), (3, 2, 19), (1, 0, 0)] (fun ar M R => WX5_isInside (f_va (f_nth ar 1)) (f_va (f_nth ar 2)) (f_vi (f_nth ar 3)) M (fun r => R (some (.inl r)) M))
theorem TX5_isInside {sh : Nat → Nat × Nat} {t : Nat} : f_Mt sh t YX5_isInside 6 (wX5_isInside) :=
  f_Mt_of (k := 11) (Nat.le_of_ble_eq_true rfl) rfl rfl (fun ar M R rm cs h1 h2 h3 hX h => PX5_isInside ⟨Nat.le_of_ble_eq_true rfl, h1, h2, h3, ⟨(f_Mt.up (Nat.le_of_ble_eq_true rfl) TX3_next), (f_Mt.up (Nat.le_of_ble_eq_true rfl) TX11_isOn), (f_Mt.up (Nat.le_of_ble_eq_true rfl) TX11_turn), (f_Mt.up (Nat.le_of_ble_eq_true rfl) TX3_where), trivial⟩, hX⟩ h)
def VX5_meetsLater_48 (c_X11_isOn : Int → Int → Int → Int → Int → Int → e_M → (Int → Prop) → Prop) (c_X11_turn : Int → Int → Int → Int → Int → Int → e_M → (Int → Prop) → Prop) (k53 : Nat → Int → Int → Int → Int → Int → Int → Prop) (Q : Int → Prop) (a0 : Nat) (x1 : Int) (x2 : Int) (x3 : Int) (x4 : Int) (x5 : Int) (M : e_M) : Prop :=
  (k53 a0 x1 x2 x3 x4 x5 (e_w32 (x1 + 1)))
def VX5_meetsLater_53 (c_X11_isOn : Int → Int → Int → Int → Int → Int → e_M → (Int → Prop) → Prop) (c_X11_turn : Int → Int → Int → Int → Int → Int → e_M → (Int → Prop) → Prop) (k136 : Nat → Int → Int → Int → Int → Int → Int → Int → Int → Int → Int → Prop) (k141 : Nat → Int → Int → Int → Int → Int → Int → Int → Int → Int → Int → Int → Prop) (Q : Int → Prop) (a0 : Nat) (x1 : Int) (x2 : Int) (x3 : Int) (x4 : Int) (x5 : Int) (x6 : Int) (M : e_M) : Prop :=
  (((M a0 18) ≤ (e_w32 (x6 + 1)) → (Q 0)) ∧ ((e_w32 (x6 + 1)) < (M a0 18) → ((0 ≤ x6 ∧ x6 < 12) ∧ ((0 ≤ x6 ∧ x6 < 12) ∧ ((0 ≤ (e_w32 (x6 + 1)) ∧ (e_w32 (x6 + 1)) < 12) ∧ (∀ y1 : Int, y1 = M (a0 + 5) ((e_w32 (x6 + 1)).toNat) → ((0 ≤ (e_w32 (x6 + 1)) ∧ (e_w32 (x6 + 1)) < 12) ∧ (∀ y2 : Int, y2 = M (a0 + 6) ((e_w32 (x6 + 1)).toNat) → (c_X11_isOn x2 x3 x4 x5 y1 y2 M (fun r3 => ((¬ r3 = 0 → (k136 a0 x1 x2 x3 x4 x5 x6 (M (a0 + 5) (x6.toNat)) (M (a0 + 6) (x6.toNat)) y1 y2)) ∧ (r3 = 0 → (c_X11_isOn (M (a0 + 5) (x6.toNat)) (M (a0 + 6) (x6.toNat)) y1 y2 x2 x3 M (fun r4 => ((r4 = 0 → (k141 a0 x1 x2 x3 x4 x5 x6 (M (a0 + 5) (x6.toNat)) (M (a0 + 6) (x6.toNat)) y1 y2 0)) ∧ (¬ r4 = 0 → (k136 a0 x1 x2 x3 x4 x5 x6 (M (a0 + 5) (x6.toNat)) (M (a0 + 6) (x6.toNat)) y1 y2)))))))))))))))))
def VX5_meetsLater_136 (c_X11_isOn : Int → Int → Int → Int → Int → Int → e_M → (Int → Prop) → Prop) (c_X11_turn : Int → Int → Int → Int → Int → Int → e_M → (Int → Prop) → Prop) (k141 : Nat → Int → Int → Int → Int → Int → Int → Int → Int → Int → Int → Int → Prop) (Q : Int → Prop) (a0 : Nat) (x1 : Int) (x2 : Int) (x3 : Int) (x4 : Int) (x5 : Int) (x6 : Int) (x7 : Int) (x8 : Int) (x9 : Int) (x10 : Int) (M : e_M) : Prop :=
  (k141 a0 x1 x2 x3 x4 x5 x6 x7 x8 x9 x10 1)
def VX5_meetsLater_141 (c_X11_isOn : Int → Int → Int → Int → Int → Int → e_M → (Int → Prop) → Prop) (c_X11_turn : Int → Int → Int → Int → Int → Int → e_M → (Int → Prop) → Prop) (k263 : Nat → Int → Int → Int → Int → Int → Int → Int → Prop) (k256 : Nat → Int → Int → Int → Int → Int → Int → Prop) (k260 : Nat → Int → Int → Int → Int → Int → Int → Prop) (Q : Int → Prop) (a0 : Nat) (x1 : Int) (x2 : Int) (x3 : Int) (x4 : Int) (x5 : Int) (x6 : Int) (x7 : Int) (x8 : Int) (x9 : Int) (x10 : Int) (xs0 : Int) (M : e_M) : Prop :=
  ((x6 ≤ (e_w32 (x1 + 1)) → (k263 a0 x1 x2 x3 x4 x5 x6 xs0)) ∧ ((e_w32 (x1 + 1)) < x6 → ((¬ xs0 = 0 → (k256 a0 x1 x2 x3 x4 x5 x6)) ∧ (xs0 = 0 → (c_X11_isOn x2 x3 x4 x5 x7 x8 M (fun r1 => ((¬ r1 = 0 → (k256 a0 x1 x2 x3 x4 x5 x6)) ∧ (r1 = 0 → (c_X11_isOn x7 x8 x9 x10 x4 x5 M (fun r2 => ((¬ r2 = 0 → (k256 a0 x1 x2 x3 x4 x5 x6)) ∧ (r2 = 0 → (c_X11_turn x2 x3 x4 x5 x7 x8 M (fun r3 => (c_X11_turn x2 x3 x4 x5 x9 x10 M (fun r4 => ((0 ≤ (e_w64 (r3 * r4)) → (k260 a0 x1 x2 x3 x4 x5 x6)) ∧ ((e_w64 (r3 * r4)) < 0 → (c_X11_turn x7 x8 x9 x10 x2 x3 M (fun r5 => (c_X11_turn x7 x8 x9 x10 x4 x5 M (fun r6 => ((0 ≤ (e_w64 (r5 * r6)) → (k260 a0 x1 x2 x3 x4 x5 x6)) ∧ ((e_w64 (r5 * r6)) < 0 → (k256 a0 x1 x2 x3 x4 x5 x6)))))))))))))))))))))))))
def VX5_meetsLater_256 (c_X11_isOn : Int → Int → Int → Int → Int → Int → e_M → (Int → Prop) → Prop) (c_X11_turn : Int → Int → Int → Int → Int → Int → e_M → (Int → Prop) → Prop) (k261 : Nat → Int → Int → Int → Int → Int → Int → Int → Prop) (Q : Int → Prop) (a0 : Nat) (x1 : Int) (x2 : Int) (x3 : Int) (x4 : Int) (x5 : Int) (x6 : Int) (M : e_M) : Prop :=
  (k261 a0 x1 x2 x3 x4 x5 x6 1)
def VX5_meetsLater_260 (c_X11_isOn : Int → Int → Int → Int → Int → Int → e_M → (Int → Prop) → Prop) (c_X11_turn : Int → Int → Int → Int → Int → Int → e_M → (Int → Prop) → Prop) (k261 : Nat → Int → Int → Int → Int → Int → Int → Int → Prop) (Q : Int → Prop) (a0 : Nat) (x1 : Int) (x2 : Int) (x3 : Int) (x4 : Int) (x5 : Int) (x6 : Int) (M : e_M) : Prop :=
  (k261 a0 x1 x2 x3 x4 x5 x6 0)
def VX5_meetsLater_261 (c_X11_isOn : Int → Int → Int → Int → Int → Int → e_M → (Int → Prop) → Prop) (c_X11_turn : Int → Int → Int → Int → Int → Int → e_M → (Int → Prop) → Prop) (k263 : Nat → Int → Int → Int → Int → Int → Int → Int → Prop) (Q : Int → Prop) (a0 : Nat) (x1 : Int) (x2 : Int) (x3 : Int) (x4 : Int) (x5 : Int) (x6 : Int) (xs0 : Int) (M : e_M) : Prop :=
  (k263 a0 x1 x2 x3 x4 x5 x6 xs0)
def VX5_meetsLater_263 (c_X11_isOn : Int → Int → Int → Int → Int → Int → e_M → (Int → Prop) → Prop) (c_X11_turn : Int → Int → Int → Int → Int → Int → e_M → (Int → Prop) → Prop) (k53 : Nat → Int → Int → Int → Int → Int → Int → Prop) (Q : Int → Prop) (a0 : Nat) (x1 : Int) (x2 : Int) (x3 : Int) (x4 : Int) (x5 : Int) (x6 : Int) (x11 : Int) (M : e_M) : Prop :=
  ((x11 = 0 → (k53 a0 x1 x2 x3 x4 x5 (e_w32 (x6 + 1)))) ∧ (¬ x11 = 0 → (Q 1)))
def VX5_meetsLater (c_X11_isOn : Int → Int → Int → Int → Int → Int → e_M → (Int → Prop) → Prop) (c_X11_turn : Int → Int → Int → Int → Int → Int → e_M → (Int → Prop) → Prop) (k48 : Nat → Int → Int → Int → Int → Int → Prop) (Q : Int → Prop) (a0 : Nat) (x1 : Int) (M : e_M) : Prop :=
  ((0 ≤ x1 ∧ x1 < 12) ∧ ((0 ≤ x1 ∧ x1 < 12) ∧ ((0 ≤ (e_w32 (x1 + 1)) ∧ (e_w32 (x1 + 1)) < 12) ∧ (∀ y1 : Int, y1 = M (a0 + 5) ((e_w32 (x1 + 1)).toNat) → ((0 ≤ (e_w32 (x1 + 1)) ∧ (e_w32 (x1 + 1)) < 12) ∧ (∀ y2 : Int, y2 = M (a0 + 6) ((e_w32 (x1 + 1)).toNat) → ((¬ (M (a0 + 5) (x1.toNat)) = y1 → (k48 a0 x1 (M (a0 + 5) (x1.toNat)) (M (a0 + 6) (x1.toNat)) y1 y2)) ∧ ((M (a0 + 5) (x1.toNat)) = y1 → ((¬ (M (a0 + 6) (x1.toNat)) = y2 → (k48 a0 x1 (M (a0 + 5) (x1.toNat)) (M (a0 + 6) (x1.toNat)) y1 y2)) ∧ ((M (a0 + 6) (x1.toNat)) = y2 → (Q 1)))))))))))
def yX5_meetsLater (i : Nat) : e_Y := x_get YX5_meetsLater [YX11_isOn, YX11_turn] i
def pX5_meetsLaterf : List x_I := [(0, 4, 1, 0, 0, 0, []), (1, 25, 2, 16, 4, 0, [(0, 20, 12), (0, 1, 5)]), (4, 2, 1, 1, 0, 0, []), (5, 27, 0, 0, 0, 0, []), (6, 5, 1, 2, 0, 0, []), (7, 4, 1, 0, 0, 0, []), (8, 25, 2, 17, 4, 0, [(0, 20, 12), (0, 1, 6)]), (11, 2, 1, 1, 0, 0, []), (12, 27, 0, 0, 0, 0, []), (13, 5, 1, 3, 0, 0, []), (14, 4, 1, 0, 0, 0, []), (15, 25, 2, 16, 4, 0, [(0, 20, 12), (0, 1, 5)]), (18, 2, 1, 1, 0, 0, []), (19, 0, 1, 0, 0, 1, []), (20, 9, 0, 0, 0, 0, []), (21, 27, 0, 0, 0, 0, []), (22, 33, 0, 0, 0, 0, []), (22, 5, 2, 4, 0, 0, []), (24, 4, 1, 0, 0, 0, []), (25, 25, 2, 17, 4, 0, [(0, 20, 12), (0, 1, 6)]), (28, 2, 1, 1, 0, 0, []), (29, 0, 1, 0, 0, 1, []), (30, 9, 0, 0, 0, 0, []), (31, 27, 0, 0, 0, 0, []), (32, 33, 0, 0, 0, 0, []), (32, 5, 2, 5, 0, 0, []), (34, 2, 1, 2, 0, 0, []), (35, 2, 2, 4, 0, 0, []), (37, 18, 48, 1, 35, 0, []), (40, 2, 1, 3, 0, 0, []), (41, 2, 2, 5, 0, 0, []), (43, 18, 48, 1, 35, 0, []), (46, 0, 1, 0, 0, 1, []), (47, 48, 0, 0, 0, 0, []), (48, 49, 0, 0, 0, 0, []), (48, 2, 1, 1, 0, 0, []), (49, 0, 1, 0, 0, 1, []), (50, 9, 0, 0, 0, 0, []), (51, 5, 2, 6, 0, 0, []), (53, 49, 0, 0, 0, 0, []), (53, 2, 2, 6, 0, 0, []), (55, 0, 1, 0, 0, 1, []), (56, 9, 0, 0, 0, 0, []), (57, 4, 1, 0, 0, 0, []), (58, 25, 2, 18, 0, 0, []), (61, 18, 276, 3, 166, 0, []), (64, 4, 1, 0, 0, 0, []), (65, 25, 2, 16, 4, 0, [(0, 20, 12), (0, 1, 5)]), (68, 2, 2, 6, 0, 0, []), (70, 27, 0, 0, 0, 0, []), (71, 5, 2, 7, 0, 0, []), (73, 4, 1, 0, 0, 0, []), (74, 25, 2, 17, 4, 0, [(0, 20, 12), (0, 1, 6)]), (77, 2, 2, 6, 0, 0, []), (79, 27, 0, 0, 0, 0, []), (80, 5, 2, 8, 0, 0, []), (82, 4, 1, 0, 0, 0, []), (83, 25, 2, 16, 4, 0, [(0, 20, 12), (0, 1, 5)]), (86, 2, 2, 6, 0, 0, []), (88, 0, 1, 0, 0, 1, []), (89, 9, 0, 0, 0, 0, []), (90, 27, 0, 0, 0, 0, []), (91, 33, 0, 0, 0, 0, []), (91, 5, 2, 9, 0, 0, []), (93, 4, 1, 0, 0, 0, []), (94, 25, 2, 17, 4, 0, [(0, 20, 12), (0, 1, 6)]), (97, 2, 2, 6, 0, 0, []), (99, 0, 1, 0, 0, 1, []), (100, 9, 0, 0, 0, 0, []), (101, 27, 0, 0, 0, 0, []), (102, 33, 0, 0, 0, 0, []), (102, 5, 2, 10, 0, 0, []), (104, 2, 1, 2, 0, 0, []), (105, 2, 1, 3, 0, 0, []), (106, 2, 2, 4, 0, 0, []), (108, 2, 2, 5, 0, 0, []), (110, 2, 2, 9, 0, 0, []), (112, 2, 2, 10, 0, 0, []), (114, 40, 0, 6, 0, 0, []), (117, 17, 136, 1, 89, 0, []), (120, 2, 2, 7, 0, 0, []), (122, 2, 2, 8, 0, 0, []), (124, 2, 2, 9, 0, 0, []), (126, 2, 2, 10, 0, 0, []), (128, 2, 1, 2, 0, 0, []), (129, 2, 1, 3, 0, 0, []), (130, 40, 0, 6, 0, 0, []), (133, 17, 140, 0, 92, 0, []), (136, 49, 0, 0, 0, 0, []), (136, 0, 1, 0, 0, 1, []), (137, 19, 141, 0, 93, 0, []), (140, 0, 1, 0, 0, 0, []), (141, 49, 0, 0, 0, 0, []), (141, 5, 2, 11, 0, 0, []), (143, 2, 2, 6, 0, 0, []), (145, 2, 1, 1, 0, 0, []), (146, 0, 1, 0, 0, 1, []), (147, 9, 0, 0, 0, 0, []), (148, 18, 263, 5, 159, 0, []), (151, 2, 2, 11, 0, 0, []), (153, 17, 256, 1, 152, 0, []), (156, 2, 1, 2, 0, 0, []), (157, 2, 1, 3, 0, 0, []), (158, 2, 2, 4, 0, 0, []), (160, 2, 2, 5, 0, 0, []), (162, 2, 2, 7, 0, 0, []), (164, 2, 2, 8, 0, 0, []), (166, 40, 0, 6, 0, 0, []), (169, 17, 256, 1, 152, 0, []), (172, 2, 2, 7, 0, 0, []), (174, 2, 2, 8, 0, 0, []), (176, 2, 2, 9, 0, 0, []), (178, 2, 2, 10, 0, 0, []), (180, 2, 2, 4, 0, 0, []), (182, 2, 2, 5, 0, 0, []), (184, 40, 0, 6, 0, 0, []), (187, 17, 256, 1, 152, 0, []), (190, 2, 1, 2, 0, 0, []), (191, 2, 1, 3, 0, 0, []), (192, 2, 2, 4, 0, 0, []), (194, 2, 2, 5, 0, 0, []), (196, 2, 2, 7, 0, 0, []), (198, 2, 2, 8, 0, 0, []), (200, 40, 1, 6, 0, 0, []), (203, 2, 1, 2, 0, 0, []), (204, 2, 1, 3, 0, 0, []), (205, 2, 2, 4, 0, 0, []), (207, 2, 2, 5, 0, 0, []), (209, 2, 2, 9, 0, 0, []), (211, 2, 2, 10, 0, 0, []), (213, 40, 1, 6, 0, 0, []), (216, 10, 0, 2, 0, 0, []), (217, 1, 1, 0, 0, 0, []), (218, 32, 260, 3, 155, 0, []), (222, 2, 2, 7, 0, 0, []), (224, 2, 2, 8, 0, 0, []), (226, 2, 2, 9, 0, 0, []), (228, 2, 2, 10, 0, 0, []), (230, 2, 1, 2, 0, 0, []), (231, 2, 1, 3, 0, 0, []), (232, 40, 1, 6, 0, 0, []), (235, 2, 2, 7, 0, 0, []), (237, 2, 2, 8, 0, 0, []), (239, 2, 2, 9, 0, 0, []), (241, 2, 2, 10, 0, 0, []), (243, 2, 2, 4, 0, 0, []), (245, 2, 2, 5, 0, 0, []), (247, 40, 1, 6, 0, 0, []), (250, 10, 0, 2, 0, 0, []), (251, 1, 1, 0, 0, 0, []), (252, 32, 260, 3, 155, 0, []), (256, 49, 0, 0, 0, 0, []), (256, 0, 1, 0, 0, 1, []), (257, 19, 261, 0, 157, 0, []), (260, 49, 0, 0, 0, 0, []), (260, 0, 1, 0, 0, 0, []), (261, 49, 0, 0, 0, 0, []), (261, 5, 2, 11, 0, 0, []), (263, 49, 0, 0, 0, 0, []), (263, 2, 2, 11, 0, 0, []), (265, 17, 270, 0, 164, 0, []), (268, 0, 1, 0, 0, 1, []), (269, 48, 0, 0, 0, 0, []), (270, 8, 0, 6, 0, 1, []), (273, 19, 53, 0, 40, 0, []), (276, 0, 1, 0, 0, 0, []), (277, 48, 0, 0, 0, 0, [])]
set_option maxRecDepth 20000 in
theorem qX5_meetsLaterf : f_all yX5_meetsLater YX5_meetsLater pX5_meetsLaterf :=
  ⟨f_aload_n (n := 0) (e_dx DX5_meetsLater_0 0 rfl) rfl,
  f_getA (e_dx DX5_meetsLater_0 1 rfl) fX5_59 rfl (by decide) (Nat.le_of_ble_eq_true rfl) rfl (by decide),
  f_iload_n (n := 1) (e_dx DX5_meetsLater_0 2 rfl) rfl,
  f_iaload (e_dx DX5_meetsLater_0 3 rfl),
  f_istore_n (n := 2) (e_dx DX5_meetsLater_0 4 rfl) rfl (by decide),
  f_aload_n (n := 0) (e_dx DX5_meetsLater_0 5 rfl) rfl,
  f_getA (e_dx DX5_meetsLater_0 6 rfl) fX5_62 rfl (by decide) (Nat.le_of_ble_eq_true rfl) rfl (by decide),
  f_iload_n (n := 1) (e_dx DX5_meetsLater_0 7 rfl) rfl,
  f_iaload (e_dx DX5_meetsLater_0 8 rfl),
  f_istore_n (n := 3) (e_dx DX5_meetsLater_0 9 rfl) rfl (by decide),
  f_aload_n (n := 0) (e_dx DX5_meetsLater_0 10 rfl) rfl,
  f_getA (e_dx DX5_meetsLater_0 11 rfl) fX5_59 rfl (by decide) (Nat.le_of_ble_eq_true rfl) rfl (by decide),
  f_iload_n (n := 1) (e_dx DX5_meetsLater_0 12 rfl) rfl,
  f_iconst (e_dx DX5_meetsLater_0 13 rfl) ⟨by decide, by decide⟩,
  f_iadd (e_dx DX5_meetsLater_0 14 rfl),
  f_iaload (e_dx DX5_meetsLater_0 15 rfl),
  f_g33,
  f_istore (e_dx DX5_meetsLater_0 16 rfl) (by decide),
  f_aload_n (n := 0) (e_dx DX5_meetsLater_0 17 rfl) rfl,
  f_getA (e_dx DX5_meetsLater_0 18 rfl) fX5_62 rfl (by decide) (Nat.le_of_ble_eq_true rfl) rfl (by decide),
  f_iload_n (n := 1) (e_dx DX5_meetsLater_0 19 rfl) rfl,
  f_iconst (e_dx DX5_meetsLater_0 20 rfl) ⟨by decide, by decide⟩,
  f_iadd (e_dx DX5_meetsLater_0 21 rfl),
  f_iaload (e_dx DX5_meetsLater_0 22 rfl),
  f_g33,
  f_istore (e_dx DX5_meetsLater_0 23 rfl) (by decide),
  f_iload_n (n := 2) (e_dx DX5_meetsLater_0 24 rfl) rfl,
  f_iload (e_dx DX5_meetsLater_0 25 rfl),
  f_icmp_ne (e_dx DX5_meetsLater_0 26 rfl) rfl,
  f_iload_n (n := 3) (e_dx DX5_meetsLater_0 27 rfl) rfl,
  f_iload (e_dx DX5_meetsLater_0 28 rfl),
  f_icmp_ne (e_dx DX5_meetsLater_0 29 rfl) rfl,
  f_iconst (e_dx DX5_meetsLater_0 30 rfl) ⟨by decide, by decide⟩,
  ⟨(e_dx DX5_meetsLater_0 31 rfl), rfl⟩,
  trivial,
  f_iload_n (n := 1) (e_dx DX5_meetsLater_0 32 rfl) rfl,
  f_iconst (e_dx DX5_meetsLater_0 33 rfl) ⟨by decide, by decide⟩,
  f_iadd (e_dx DX5_meetsLater_0 34 rfl),
  f_istore (e_dx DX5_meetsLater_0 35 rfl) (by decide),
  trivial,
  f_iload (e_dx DX5_meetsLater_0 36 rfl),
  f_iconst (e_dx DX5_meetsLater_0 37 rfl) ⟨by decide, by decide⟩,
  f_iadd (e_dx DX5_meetsLater_0 38 rfl),
  f_aload_n (n := 0) (e_dx DX5_meetsLater_0 39 rfl) rfl,
  f_getf (e_dx DX5_meetsLater_1 0 rfl) fX5_54 rfl (by decide) (by decide) (by decide),
  f_icmp_ge (e_dx DX5_meetsLater_1 1 rfl) rfl,
  f_aload_n (n := 0) (e_dx DX5_meetsLater_1 2 rfl) rfl,
  f_getA (e_dx DX5_meetsLater_1 3 rfl) fX5_59 rfl (by decide) (Nat.le_of_ble_eq_true rfl) rfl (by decide),
  f_iload (e_dx DX5_meetsLater_1 4 rfl),
  f_iaload (e_dx DX5_meetsLater_1 5 rfl),
  f_istore (e_dx DX5_meetsLater_1 6 rfl) (by decide),
  f_aload_n (n := 0) (e_dx DX5_meetsLater_1 7 rfl) rfl,
  f_getA (e_dx DX5_meetsLater_1 8 rfl) fX5_62 rfl (by decide) (Nat.le_of_ble_eq_true rfl) rfl (by decide),
  f_iload (e_dx DX5_meetsLater_1 9 rfl),
  f_iaload (e_dx DX5_meetsLater_1 10 rfl),
  f_istore (e_dx DX5_meetsLater_1 11 rfl) (by decide),
  f_aload_n (n := 0) (e_dx DX5_meetsLater_1 12 rfl) rfl,
  f_getA (e_dx DX5_meetsLater_1 13 rfl) fX5_59 rfl (by decide) (Nat.le_of_ble_eq_true rfl) rfl (by decide),
  f_iload (e_dx DX5_meetsLater_1 14 rfl),
  f_iconst (e_dx DX5_meetsLater_1 15 rfl) ⟨by decide, by decide⟩,
  f_iadd (e_dx DX5_meetsLater_1 16 rfl),
  f_iaload (e_dx DX5_meetsLater_1 17 rfl),
  f_g33,
  f_istore (e_dx DX5_meetsLater_1 18 rfl) (by decide),
  f_aload_n (n := 0) (e_dx DX5_meetsLater_1 19 rfl) rfl,
  f_getA (e_dx DX5_meetsLater_1 20 rfl) fX5_62 rfl (by decide) (Nat.le_of_ble_eq_true rfl) rfl (by decide),
  f_iload (e_dx DX5_meetsLater_1 21 rfl),
  f_iconst (e_dx DX5_meetsLater_1 22 rfl) ⟨by decide, by decide⟩,
  f_iadd (e_dx DX5_meetsLater_1 23 rfl),
  f_iaload (e_dx DX5_meetsLater_1 24 rfl),
  f_g33,
  f_istore (e_dx DX5_meetsLater_1 25 rfl) (by decide),
  f_iload_n (n := 2) (e_dx DX5_meetsLater_1 26 rfl) rfl,
  f_iload_n (n := 3) (e_dx DX5_meetsLater_1 27 rfl) rfl,
  f_iload (e_dx DX5_meetsLater_1 28 rfl),
  f_iload (e_dx DX5_meetsLater_1 29 rfl),
  f_iload (e_dx DX5_meetsLater_1 30 rfl),
  f_iload (e_dx DX5_meetsLater_1 31 rfl),
  x_callSN (e_dx DX5_meetsLater_1 32 rfl) mwX11_isOn cX5_98 swX11_isOn rfl,
  f_if_ne (e_dx DX5_meetsLater_1 33 rfl) rfl,
  f_iload (e_dx DX5_meetsLater_1 34 rfl),
  f_iload (e_dx DX5_meetsLater_1 35 rfl),
  f_iload (e_dx DX5_meetsLater_1 36 rfl),
  f_iload (e_dx DX5_meetsLater_1 37 rfl),
  f_iload_n (n := 2) (e_dx DX5_meetsLater_1 38 rfl) rfl,
  f_iload_n (n := 3) (e_dx DX5_meetsLater_1 39 rfl) rfl,
  x_callSN (e_dx DX5_meetsLater_2 0 rfl) mwX11_isOn cX5_98 swX11_isOn rfl,
  f_if_eq (e_dx DX5_meetsLater_2 1 rfl) rfl,
  trivial,
  f_iconst (e_dx DX5_meetsLater_2 2 rfl) ⟨by decide, by decide⟩,
  f_g19 (e_dx DX5_meetsLater_2 3 rfl) rfl,
  f_iconst (e_dx DX5_meetsLater_2 4 rfl) ⟨by decide, by decide⟩,
  trivial,
  f_istore (e_dx DX5_meetsLater_2 5 rfl) (by decide),
  f_iload (e_dx DX5_meetsLater_2 6 rfl),
  f_iload_n (n := 1) (e_dx DX5_meetsLater_2 7 rfl) rfl,
  f_iconst (e_dx DX5_meetsLater_2 8 rfl) ⟨by decide, by decide⟩,
  f_iadd (e_dx DX5_meetsLater_2 9 rfl),
  f_icmp_le (e_dx DX5_meetsLater_2 10 rfl) rfl,
  f_iload (e_dx DX5_meetsLater_2 11 rfl),
  f_if_ne (e_dx DX5_meetsLater_2 12 rfl) rfl,
  f_iload_n (n := 2) (e_dx DX5_meetsLater_2 13 rfl) rfl,
  f_iload_n (n := 3) (e_dx DX5_meetsLater_2 14 rfl) rfl,
  f_iload (e_dx DX5_meetsLater_2 15 rfl),
  f_iload (e_dx DX5_meetsLater_2 16 rfl),
  f_iload (e_dx DX5_meetsLater_2 17 rfl),
  f_iload (e_dx DX5_meetsLater_2 18 rfl),
  x_callSN (e_dx DX5_meetsLater_2 19 rfl) mwX11_isOn cX5_98 swX11_isOn rfl,
  f_if_ne (e_dx DX5_meetsLater_2 20 rfl) rfl,
  f_iload (e_dx DX5_meetsLater_2 21 rfl),
  f_iload (e_dx DX5_meetsLater_2 22 rfl),
  f_iload (e_dx DX5_meetsLater_2 23 rfl),
  f_iload (e_dx DX5_meetsLater_2 24 rfl),
  f_iload (e_dx DX5_meetsLater_2 25 rfl),
  f_iload (e_dx DX5_meetsLater_2 26 rfl),
  x_callSN (e_dx DX5_meetsLater_2 27 rfl) mwX11_isOn cX5_98 swX11_isOn rfl,
  f_if_ne (e_dx DX5_meetsLater_2 28 rfl) rfl,
  f_iload_n (n := 2) (e_dx DX5_meetsLater_2 29 rfl) rfl,
  f_iload_n (n := 3) (e_dx DX5_meetsLater_2 30 rfl) rfl,
  f_iload (e_dx DX5_meetsLater_2 31 rfl),
  f_iload (e_dx DX5_meetsLater_2 32 rfl),
  f_iload (e_dx DX5_meetsLater_2 33 rfl),
  f_iload (e_dx DX5_meetsLater_2 34 rfl),
  x_callSN (e_dx DX5_meetsLater_2 35 rfl) mwX11_turn cX5_102 swX11_turn rfl,
  f_iload_n (n := 2) (e_dx DX5_meetsLater_2 36 rfl) rfl,
  f_iload_n (n := 3) (e_dx DX5_meetsLater_2 37 rfl) rfl,
  f_iload (e_dx DX5_meetsLater_2 38 rfl),
  f_iload (e_dx DX5_meetsLater_2 39 rfl),
  f_iload (e_dx DX5_meetsLater_3 0 rfl),
  f_iload (e_dx DX5_meetsLater_3 1 rfl),
  x_callSN (e_dx DX5_meetsLater_3 2 rfl) mwX11_turn cX5_102 swX11_turn rfl,
  f_lmul (e_dx DX5_meetsLater_3 3 rfl),
  f_lconst (n := 0) (e_dx DX5_meetsLater_3 4 rfl) rfl,
  f_lif_ge (e_dx DX5_meetsLater_3 5 rfl) (e_dx DX5_meetsLater_3 6 rfl) rfl,
  f_iload (e_dx DX5_meetsLater_3 7 rfl),
  f_iload (e_dx DX5_meetsLater_3 8 rfl),
  f_iload (e_dx DX5_meetsLater_3 9 rfl),
  f_iload (e_dx DX5_meetsLater_3 10 rfl),
  f_iload_n (n := 2) (e_dx DX5_meetsLater_3 11 rfl) rfl,
  f_iload_n (n := 3) (e_dx DX5_meetsLater_3 12 rfl) rfl,
  x_callSN (e_dx DX5_meetsLater_3 13 rfl) mwX11_turn cX5_102 swX11_turn rfl,
  f_iload (e_dx DX5_meetsLater_3 14 rfl),
  f_iload (e_dx DX5_meetsLater_3 15 rfl),
  f_iload (e_dx DX5_meetsLater_3 16 rfl),
  f_iload (e_dx DX5_meetsLater_3 17 rfl),
  f_iload (e_dx DX5_meetsLater_3 18 rfl),
  f_iload (e_dx DX5_meetsLater_3 19 rfl),
  x_callSN (e_dx DX5_meetsLater_3 20 rfl) mwX11_turn cX5_102 swX11_turn rfl,
  f_lmul (e_dx DX5_meetsLater_3 21 rfl),
  f_lconst (n := 0) (e_dx DX5_meetsLater_3 22 rfl) rfl,
  f_lif_ge (e_dx DX5_meetsLater_3 23 rfl) (e_dx DX5_meetsLater_3 24 rfl) rfl,
  trivial,
  f_iconst (e_dx DX5_meetsLater_3 25 rfl) ⟨by decide, by decide⟩,
  f_g19 (e_dx DX5_meetsLater_3 26 rfl) rfl,
  trivial,
  f_iconst (e_dx DX5_meetsLater_3 27 rfl) ⟨by decide, by decide⟩,
  trivial,
  f_istore (e_dx DX5_meetsLater_3 28 rfl) (by decide),
  trivial,
  f_iload (e_dx DX5_meetsLater_3 29 rfl),
  f_if_eq (e_dx DX5_meetsLater_3 30 rfl) rfl,
  f_iconst (e_dx DX5_meetsLater_3 31 rfl) ⟨by decide, by decide⟩,
  ⟨(e_dx DX5_meetsLater_3 32 rfl), rfl⟩,
  f_g8 (e_dx DX5_meetsLater_3 33 rfl) ⟨by decide, by decide⟩,
  f_g19 (e_dx DX5_meetsLater_3 34 rfl) rfl,
  f_iconst (e_dx DX5_meetsLater_3 35 rfl) ⟨by decide, by decide⟩,
  ⟨(e_dx DX5_meetsLater_3 36 rfl), rfl⟩, trivial⟩
def lX5_meetsLater (c_X11_isOn : Int → Int → Int → Int → Int → Int → e_M → (Int → Prop) → Prop) (c_X11_turn : Int → Int → Int → Int → Int → Int → e_M → (Int → Prop) → Prop) : List (Nat × f_Wt) := [(0, f_wm [(1, 0, 0), (1, 0, 0), (1, 0, 0), (1, 0, 0), (1, 0, 0), (1, 0, 0)] (fun ar M R => c_X11_isOn (f_vi (f_nth ar 0)) (f_vi (f_nth ar 1)) (f_vi (f_nth ar 2)) (f_vi (f_nth ar 3)) (f_vi (f_nth ar 4)) (f_vi (f_nth ar 5)) M (fun r => R (some (.inl r)) M))), (1, f_wm [(1, 0, 0), (1, 0, 0), (1, 0, 0), (1, 0, 0), (1, 0, 0), (1, 0, 0)] (fun ar M R => c_X11_turn (f_vi (f_nth ar 0)) (f_vi (f_nth ar 1)) (f_vi (f_nth ar 2)) (f_vi (f_nth ar 3)) (f_vi (f_nth ar 4)) (f_vi (f_nth ar 5)) M (fun r => R (some (.inr (.inl r))) M)))]
set_option maxRecDepth 20000 in
theorem BX5_meetsLater_48 {sh : Nat → Nat × Nat} {t : Nat} {rm : Nat × Nat × Nat} {cs : Nat × Nat} {R : f_Rt} {c_X11_isOn : Int → Int → Int → Int → Int → Int → e_M → (Int → Prop) → Prop} {c_X11_turn : Int → Int → Int → Int → Int → Int → e_M → (Int → Prop) → Prop} {k53 : Nat → Int → Int → Int → Int → Int → Int → Prop} {a0 : Nat} {x1 : Int} {x2 : Int} {x3 : Int} {x4 : Int} {x5 : Int} {M : e_M} (C : f_Hy sh t yX5_meetsLater rm cs 5 (lX5_meetsLater c_X11_isOn c_X11_turn) R) (h53 : ∀ (a0 : Nat) (x1 : Int) (x2 : Int) (x3 : Int) (x4 : Int) (x5 : Int) (x6 : Int), k53 a0 x1 x2 x3 x4 x5 x6 → f_E sh t YX5_meetsLater rm cs (f_Q sh t R) 53 [.inr (.inr (.inl (2, 19, a0))), .inl x1, .inl x2, .inl x3, .inl x4, .inl x5, .inl x6, .inr (.inr (.inr ())), .inr (.inr (.inr ())), .inr (.inr (.inr ())), .inr (.inr (.inr ())), .inr (.inr (.inr ()))] [] M) (h : VX5_meetsLater_48 c_X11_isOn c_X11_turn k53 (fun r => R (some (.inl r)) M) a0 x1 x2 x3 x4 x5 M) : f_E sh t YX5_meetsLater rm cs (f_Q sh t R) 48 [.inr (.inr (.inl (2, 19, a0))), .inl x1, .inl x2, .inl x3, .inl x4, .inl x5, .inr (.inr (.inr ())), .inr (.inr (.inr ())), .inr (.inr (.inr ())), .inr (.inr (.inr ())), .inr (.inr (.inr ())), .inr (.inr (.inr ()))] [] M := by
  rw [f_kk7 M k53] at h
  exact f_go (KC := f_kc [(53, f_pl [(3, 2, 19), (1, 0, 0), (1, 0, 0), (1, 0, 0), (1, 0, 0), (1, 0, 0), (1, 0, 0), (0, 0, 0), (0, 0, 0), (0, 0, 0), (0, 0, 0), (0, 0, 0)] [] (fun ls st M2 => M2 = M ∧ (k53 (f_va (f_nth ls 0)) (f_vi (f_nth ls 1)) (f_vi (f_nth ls 2)) (f_vi (f_nth ls 3)) (f_vi (f_nth ls 4)) (f_vi (f_nth ls 5)) (f_vi (f_nth ls 6)))))]) C qX5_meetsLaterf (f_kc_cons (f_pl_ok rfl (fun ls st M2 ⟨e, hh⟩ => by subst e; exact h53 _ _ _ _ _ _ _ hh)) f_kc_nil) 169 35 h
set_option maxRecDepth 20000 in
theorem BX5_meetsLater_53 {sh : Nat → Nat × Nat} {t : Nat} {rm : Nat × Nat × Nat} {cs : Nat × Nat} {R : f_Rt} {c_X11_isOn : Int → Int → Int → Int → Int → Int → e_M → (Int → Prop) → Prop} {c_X11_turn : Int → Int → Int → Int → Int → Int → e_M → (Int → Prop) → Prop} {k136 : Nat → Int → Int → Int → Int → Int → Int → Int → Int → Int → Int → Prop} {k141 : Nat → Int → Int → Int → Int → Int → Int → Int → Int → Int → Int → Int → Prop} {a0 : Nat} {x1 : Int} {x2 : Int} {x3 : Int} {x4 : Int} {x5 : Int} {x6 : Int} {M : e_M} (C : f_Hy sh t yX5_meetsLater rm cs 5 (lX5_meetsLater c_X11_isOn c_X11_turn) R) (h136 : ∀ (a0 : Nat) (x1 : Int) (x2 : Int) (x3 : Int) (x4 : Int) (x5 : Int) (x6 : Int) (x7 : Int) (x8 : Int) (x9 : Int) (x10 : Int), k136 a0 x1 x2 x3 x4 x5 x6 x7 x8 x9 x10 → f_E sh t YX5_meetsLater rm cs (f_Q sh t R) 136 [.inr (.inr (.inl (2, 19, a0))), .inl x1, .inl x2, .inl x3, .inl x4, .inl x5, .inl x6, .inl x7, .inl x8, .inl x9, .inl x10, .inr (.inr (.inr ()))] [] M) (h141 : ∀ (a0 : Nat) (x1 : Int) (x2 : Int) (x3 : Int) (x4 : Int) (x5 : Int) (x6 : Int) (x7 : Int) (x8 : Int) (x9 : Int) (x10 : Int) (xs0 : Int), k141 a0 x1 x2 x3 x4 x5 x6 x7 x8 x9 x10 xs0 → f_E sh t YX5_meetsLater rm cs (f_Q sh t R) 141 [.inr (.inr (.inl (2, 19, a0))), .inl x1, .inl x2, .inl x3, .inl x4, .inl x5, .inl x6, .inl x7, .inl x8, .inl x9, .inl x10, .inr (.inr (.inr ()))] [.inl xs0] M) (h : VX5_meetsLater_53 c_X11_isOn c_X11_turn k136 k141 (fun r => R (some (.inl r)) M) a0 x1 x2 x3 x4 x5 x6 M) : f_E sh t YX5_meetsLater rm cs (f_Q sh t R) 53 [.inr (.inr (.inl (2, 19, a0))), .inl x1, .inl x2, .inl x3, .inl x4, .inl x5, .inl x6, .inr (.inr (.inr ())), .inr (.inr (.inr ())), .inr (.inr (.inr ())), .inr (.inr (.inr ())), .inr (.inr (.inr ()))] [] M := by
  rw [f_kk11 M k136] at h
  rw [f_kk12 M k141] at h
  exact f_go (KC := f_kc [(136, f_pl [(3, 2, 19), (1, 0, 0), (1, 0, 0), (1, 0, 0), (1, 0, 0), (1, 0, 0), (1, 0, 0), (1, 0, 0), (1, 0, 0), (1, 0, 0), (1, 0, 0), (0, 0, 0)] [] (fun ls st M2 => M2 = M ∧ (k136 (f_va (f_nth ls 0)) (f_vi (f_nth ls 1)) (f_vi (f_nth ls 2)) (f_vi (f_nth ls 3)) (f_vi (f_nth ls 4)) (f_vi (f_nth ls 5)) (f_vi (f_nth ls 6)) (f_vi (f_nth ls 7)) (f_vi (f_nth ls 8)) (f_vi (f_nth ls 9)) (f_vi (f_nth ls 10))))), (141, f_pl [(3, 2, 19), (1, 0, 0), (1, 0, 0), (1, 0, 0), (1, 0, 0), (1, 0, 0), (1, 0, 0), (1, 0, 0), (1, 0, 0), (1, 0, 0), (1, 0, 0), (0, 0, 0)] [(1, 0, 0)] (fun ls st M2 => M2 = M ∧ (k141 (f_va (f_nth ls 0)) (f_vi (f_nth ls 1)) (f_vi (f_nth ls 2)) (f_vi (f_nth ls 3)) (f_vi (f_nth ls 4)) (f_vi (f_nth ls 5)) (f_vi (f_nth ls 6)) (f_vi (f_nth ls 7)) (f_vi (f_nth ls 8)) (f_vi (f_nth ls 9)) (f_vi (f_nth ls 10)) (f_vi (f_nth st 0)))))]) C qX5_meetsLaterf (f_kc_cons (f_pl_ok rfl (fun ls st M2 ⟨e, hh⟩ => by subst e; exact h136 _ _ _ _ _ _ _ _ _ _ _ hh)) (f_kc_cons (f_pl_ok rfl (fun ls st M2 ⟨e, hh⟩ => by subst e; exact h141 _ _ _ _ _ _ _ _ _ _ _ _ hh)) f_kc_nil)) 169 40 h
set_option maxRecDepth 20000 in
theorem BX5_meetsLater_136 {sh : Nat → Nat × Nat} {t : Nat} {rm : Nat × Nat × Nat} {cs : Nat × Nat} {R : f_Rt} {c_X11_isOn : Int → Int → Int → Int → Int → Int → e_M → (Int → Prop) → Prop} {c_X11_turn : Int → Int → Int → Int → Int → Int → e_M → (Int → Prop) → Prop} {k141 : Nat → Int → Int → Int → Int → Int → Int → Int → Int → Int → Int → Int → Prop} {a0 : Nat} {x1 : Int} {x2 : Int} {x3 : Int} {x4 : Int} {x5 : Int} {x6 : Int} {x7 : Int} {x8 : Int} {x9 : Int} {x10 : Int} {M : e_M} (C : f_Hy sh t yX5_meetsLater rm cs 5 (lX5_meetsLater c_X11_isOn c_X11_turn) R) (h141 : ∀ (a0 : Nat) (x1 : Int) (x2 : Int) (x3 : Int) (x4 : Int) (x5 : Int) (x6 : Int) (x7 : Int) (x8 : Int) (x9 : Int) (x10 : Int) (xs0 : Int), k141 a0 x1 x2 x3 x4 x5 x6 x7 x8 x9 x10 xs0 → f_E sh t YX5_meetsLater rm cs (f_Q sh t R) 141 [.inr (.inr (.inl (2, 19, a0))), .inl x1, .inl x2, .inl x3, .inl x4, .inl x5, .inl x6, .inl x7, .inl x8, .inl x9, .inl x10, .inr (.inr (.inr ()))] [.inl xs0] M) (h : VX5_meetsLater_136 c_X11_isOn c_X11_turn k141 (fun r => R (some (.inl r)) M) a0 x1 x2 x3 x4 x5 x6 x7 x8 x9 x10 M) : f_E sh t YX5_meetsLater rm cs (f_Q sh t R) 136 [.inr (.inr (.inl (2, 19, a0))), .inl x1, .inl x2, .inl x3, .inl x4, .inl x5, .inl x6, .inl x7, .inl x8, .inl x9, .inl x10, .inr (.inr (.inr ()))] [] M := by
  rw [f_kk12 M k141] at h
  exact f_go (KC := f_kc [(141, f_pl [(3, 2, 19), (1, 0, 0), (1, 0, 0), (1, 0, 0), (1, 0, 0), (1, 0, 0), (1, 0, 0), (1, 0, 0), (1, 0, 0), (1, 0, 0), (1, 0, 0), (0, 0, 0)] [(1, 0, 0)] (fun ls st M2 => M2 = M ∧ (k141 (f_va (f_nth ls 0)) (f_vi (f_nth ls 1)) (f_vi (f_nth ls 2)) (f_vi (f_nth ls 3)) (f_vi (f_nth ls 4)) (f_vi (f_nth ls 5)) (f_vi (f_nth ls 6)) (f_vi (f_nth ls 7)) (f_vi (f_nth ls 8)) (f_vi (f_nth ls 9)) (f_vi (f_nth ls 10)) (f_vi (f_nth st 0)))))]) C qX5_meetsLaterf (f_kc_cons (f_pl_ok rfl (fun ls st M2 ⟨e, hh⟩ => by subst e; exact h141 _ _ _ _ _ _ _ _ _ _ _ _ hh)) f_kc_nil) 169 89 h
set_option maxRecDepth 20000 in
theorem BX5_meetsLater_141 {sh : Nat → Nat × Nat} {t : Nat} {rm : Nat × Nat × Nat} {cs : Nat × Nat} {R : f_Rt} {c_X11_isOn : Int → Int → Int → Int → Int → Int → e_M → (Int → Prop) → Prop} {c_X11_turn : Int → Int → Int → Int → Int → Int → e_M → (Int → Prop) → Prop} {k263 : Nat → Int → Int → Int → Int → Int → Int → Int → Prop} {k256 : Nat → Int → Int → Int → Int → Int → Int → Prop} {k260 : Nat → Int → Int → Int → Int → Int → Int → Prop} {a0 : Nat} {x1 : Int} {x2 : Int} {x3 : Int} {x4 : Int} {x5 : Int} {x6 : Int} {x7 : Int} {x8 : Int} {x9 : Int} {x10 : Int} {xs0 : Int} {M : e_M} (C : f_Hy sh t yX5_meetsLater rm cs 5 (lX5_meetsLater c_X11_isOn c_X11_turn) R) (h263 : ∀ (a0 : Nat) (x1 : Int) (x2 : Int) (x3 : Int) (x4 : Int) (x5 : Int) (x6 : Int) (x11 : Int), k263 a0 x1 x2 x3 x4 x5 x6 x11 → f_E sh t YX5_meetsLater rm cs (f_Q sh t R) 263 [.inr (.inr (.inl (2, 19, a0))), .inl x1, .inl x2, .inl x3, .inl x4, .inl x5, .inl x6, .inr (.inr (.inr ())), .inr (.inr (.inr ())), .inr (.inr (.inr ())), .inr (.inr (.inr ())), .inl x11] [] M) (h256 : ∀ (a0 : Nat) (x1 : Int) (x2 : Int) (x3 : Int) (x4 : Int) (x5 : Int) (x6 : Int), k256 a0 x1 x2 x3 x4 x5 x6 → f_E sh t YX5_meetsLater rm cs (f_Q sh t R) 256 [.inr (.inr (.inl (2, 19, a0))), .inl x1, .inl x2, .inl x3, .inl x4, .inl x5, .inl x6, .inr (.inr (.inr ())), .inr (.inr (.inr ())), .inr (.inr (.inr ())), .inr (.inr (.inr ())), .inr (.inr (.inr ()))] [] M) (h260 : ∀ (a0 : Nat) (x1 : Int) (x2 : Int) (x3 : Int) (x4 : Int) (x5 : Int) (x6 : Int), k260 a0 x1 x2 x3 x4 x5 x6 → f_E sh t YX5_meetsLater rm cs (f_Q sh t R) 260 [.inr (.inr (.inl (2, 19, a0))), .inl x1, .inl x2, .inl x3, .inl x4, .inl x5, .inl x6, .inr (.inr (.inr ())), .inr (.inr (.inr ())), .inr (.inr (.inr ())), .inr (.inr (.inr ())), .inr (.inr (.inr ()))] [] M) (h : VX5_meetsLater_141 c_X11_isOn c_X11_turn k263 k256 k260 (fun r => R (some (.inl r)) M) a0 x1 x2 x3 x4 x5 x6 x7 x8 x9 x10 xs0 M) : f_E sh t YX5_meetsLater rm cs (f_Q sh t R) 141 [.inr (.inr (.inl (2, 19, a0))), .inl x1, .inl x2, .inl x3, .inl x4, .inl x5, .inl x6, .inl x7, .inl x8, .inl x9, .inl x10, .inr (.inr (.inr ()))] [.inl xs0] M := by
  rw [f_kk8 M k263] at h
  rw [f_kk7 M k256] at h
  rw [f_kk7 M k260] at h
  exact f_go (KC := f_kc [(263, f_pl [(3, 2, 19), (1, 0, 0), (1, 0, 0), (1, 0, 0), (1, 0, 0), (1, 0, 0), (1, 0, 0), (0, 0, 0), (0, 0, 0), (0, 0, 0), (0, 0, 0), (1, 0, 0)] [] (fun ls st M2 => M2 = M ∧ (k263 (f_va (f_nth ls 0)) (f_vi (f_nth ls 1)) (f_vi (f_nth ls 2)) (f_vi (f_nth ls 3)) (f_vi (f_nth ls 4)) (f_vi (f_nth ls 5)) (f_vi (f_nth ls 6)) (f_vi (f_nth ls 11))))), (256, f_pl [(3, 2, 19), (1, 0, 0), (1, 0, 0), (1, 0, 0), (1, 0, 0), (1, 0, 0), (1, 0, 0), (0, 0, 0), (0, 0, 0), (0, 0, 0), (0, 0, 0), (0, 0, 0)] [] (fun ls st M2 => M2 = M ∧ (k256 (f_va (f_nth ls 0)) (f_vi (f_nth ls 1)) (f_vi (f_nth ls 2)) (f_vi (f_nth ls 3)) (f_vi (f_nth ls 4)) (f_vi (f_nth ls 5)) (f_vi (f_nth ls 6))))), (260, f_pl [(3, 2, 19), (1, 0, 0), (1, 0, 0), (1, 0, 0), (1, 0, 0), (1, 0, 0), (1, 0, 0), (0, 0, 0), (0, 0, 0), (0, 0, 0), (0, 0, 0), (0, 0, 0)] [] (fun ls st M2 => M2 = M ∧ (k260 (f_va (f_nth ls 0)) (f_vi (f_nth ls 1)) (f_vi (f_nth ls 2)) (f_vi (f_nth ls 3)) (f_vi (f_nth ls 4)) (f_vi (f_nth ls 5)) (f_vi (f_nth ls 6)))))]) C qX5_meetsLaterf (f_kc_cons (f_pl_ok rfl (fun ls st M2 ⟨e, hh⟩ => by subst e; exact h263 _ _ _ _ _ _ _ _ hh)) (f_kc_cons (f_pl_ok rfl (fun ls st M2 ⟨e, hh⟩ => by subst e; exact h256 _ _ _ _ _ _ _ hh)) (f_kc_cons (f_pl_ok rfl (fun ls st M2 ⟨e, hh⟩ => by subst e; exact h260 _ _ _ _ _ _ _ hh)) f_kc_nil))) 169 93 h
set_option maxRecDepth 20000 in
theorem BX5_meetsLater_256 {sh : Nat → Nat × Nat} {t : Nat} {rm : Nat × Nat × Nat} {cs : Nat × Nat} {R : f_Rt} {c_X11_isOn : Int → Int → Int → Int → Int → Int → e_M → (Int → Prop) → Prop} {c_X11_turn : Int → Int → Int → Int → Int → Int → e_M → (Int → Prop) → Prop} {k261 : Nat → Int → Int → Int → Int → Int → Int → Int → Prop} {a0 : Nat} {x1 : Int} {x2 : Int} {x3 : Int} {x4 : Int} {x5 : Int} {x6 : Int} {M : e_M} (C : f_Hy sh t yX5_meetsLater rm cs 5 (lX5_meetsLater c_X11_isOn c_X11_turn) R) (h261 : ∀ (a0 : Nat) (x1 : Int) (x2 : Int) (x3 : Int) (x4 : Int) (x5 : Int) (x6 : Int) (xs0 : Int), k261 a0 x1 x2 x3 x4 x5 x6 xs0 → f_E sh t YX5_meetsLater rm cs (f_Q sh t R) 261 [.inr (.inr (.inl (2, 19, a0))), .inl x1, .inl x2, .inl x3, .inl x4, .inl x5, .inl x6, .inr (.inr (.inr ())), .inr (.inr (.inr ())), .inr (.inr (.inr ())), .inr (.inr (.inr ())), .inr (.inr (.inr ()))] [.inl xs0] M) (h : VX5_meetsLater_256 c_X11_isOn c_X11_turn k261 (fun r => R (some (.inl r)) M) a0 x1 x2 x3 x4 x5 x6 M) : f_E sh t YX5_meetsLater rm cs (f_Q sh t R) 256 [.inr (.inr (.inl (2, 19, a0))), .inl x1, .inl x2, .inl x3, .inl x4, .inl x5, .inl x6, .inr (.inr (.inr ())), .inr (.inr (.inr ())), .inr (.inr (.inr ())), .inr (.inr (.inr ())), .inr (.inr (.inr ()))] [] M := by
  rw [f_kk8 M k261] at h
  exact f_go (KC := f_kc [(261, f_pl [(3, 2, 19), (1, 0, 0), (1, 0, 0), (1, 0, 0), (1, 0, 0), (1, 0, 0), (1, 0, 0), (0, 0, 0), (0, 0, 0), (0, 0, 0), (0, 0, 0), (0, 0, 0)] [(1, 0, 0)] (fun ls st M2 => M2 = M ∧ (k261 (f_va (f_nth ls 0)) (f_vi (f_nth ls 1)) (f_vi (f_nth ls 2)) (f_vi (f_nth ls 3)) (f_vi (f_nth ls 4)) (f_vi (f_nth ls 5)) (f_vi (f_nth ls 6)) (f_vi (f_nth st 0)))))]) C qX5_meetsLaterf (f_kc_cons (f_pl_ok rfl (fun ls st M2 ⟨e, hh⟩ => by subst e; exact h261 _ _ _ _ _ _ _ _ hh)) f_kc_nil) 169 152 h
set_option maxRecDepth 20000 in
theorem BX5_meetsLater_260 {sh : Nat → Nat × Nat} {t : Nat} {rm : Nat × Nat × Nat} {cs : Nat × Nat} {R : f_Rt} {c_X11_isOn : Int → Int → Int → Int → Int → Int → e_M → (Int → Prop) → Prop} {c_X11_turn : Int → Int → Int → Int → Int → Int → e_M → (Int → Prop) → Prop} {k261 : Nat → Int → Int → Int → Int → Int → Int → Int → Prop} {a0 : Nat} {x1 : Int} {x2 : Int} {x3 : Int} {x4 : Int} {x5 : Int} {x6 : Int} {M : e_M} (C : f_Hy sh t yX5_meetsLater rm cs 5 (lX5_meetsLater c_X11_isOn c_X11_turn) R) (h261 : ∀ (a0 : Nat) (x1 : Int) (x2 : Int) (x3 : Int) (x4 : Int) (x5 : Int) (x6 : Int) (xs0 : Int), k261 a0 x1 x2 x3 x4 x5 x6 xs0 → f_E sh t YX5_meetsLater rm cs (f_Q sh t R) 261 [.inr (.inr (.inl (2, 19, a0))), .inl x1, .inl x2, .inl x3, .inl x4, .inl x5, .inl x6, .inr (.inr (.inr ())), .inr (.inr (.inr ())), .inr (.inr (.inr ())), .inr (.inr (.inr ())), .inr (.inr (.inr ()))] [.inl xs0] M) (h : VX5_meetsLater_260 c_X11_isOn c_X11_turn k261 (fun r => R (some (.inl r)) M) a0 x1 x2 x3 x4 x5 x6 M) : f_E sh t YX5_meetsLater rm cs (f_Q sh t R) 260 [.inr (.inr (.inl (2, 19, a0))), .inl x1, .inl x2, .inl x3, .inl x4, .inl x5, .inl x6, .inr (.inr (.inr ())), .inr (.inr (.inr ())), .inr (.inr (.inr ())), .inr (.inr (.inr ())), .inr (.inr (.inr ()))] [] M := by
  rw [f_kk8 M k261] at h
  exact f_go (KC := f_kc [(261, f_pl [(3, 2, 19), (1, 0, 0), (1, 0, 0), (1, 0, 0), (1, 0, 0), (1, 0, 0), (1, 0, 0), (0, 0, 0), (0, 0, 0), (0, 0, 0), (0, 0, 0), (0, 0, 0)] [(1, 0, 0)] (fun ls st M2 => M2 = M ∧ (k261 (f_va (f_nth ls 0)) (f_vi (f_nth ls 1)) (f_vi (f_nth ls 2)) (f_vi (f_nth ls 3)) (f_vi (f_nth ls 4)) (f_vi (f_nth ls 5)) (f_vi (f_nth ls 6)) (f_vi (f_nth st 0)))))]) C qX5_meetsLaterf (f_kc_cons (f_pl_ok rfl (fun ls st M2 ⟨e, hh⟩ => by subst e; exact h261 _ _ _ _ _ _ _ _ hh)) f_kc_nil) 169 155 h
set_option maxRecDepth 20000 in
theorem BX5_meetsLater_261 {sh : Nat → Nat × Nat} {t : Nat} {rm : Nat × Nat × Nat} {cs : Nat × Nat} {R : f_Rt} {c_X11_isOn : Int → Int → Int → Int → Int → Int → e_M → (Int → Prop) → Prop} {c_X11_turn : Int → Int → Int → Int → Int → Int → e_M → (Int → Prop) → Prop} {k263 : Nat → Int → Int → Int → Int → Int → Int → Int → Prop} {a0 : Nat} {x1 : Int} {x2 : Int} {x3 : Int} {x4 : Int} {x5 : Int} {x6 : Int} {xs0 : Int} {M : e_M} (C : f_Hy sh t yX5_meetsLater rm cs 5 (lX5_meetsLater c_X11_isOn c_X11_turn) R) (h263 : ∀ (a0 : Nat) (x1 : Int) (x2 : Int) (x3 : Int) (x4 : Int) (x5 : Int) (x6 : Int) (x11 : Int), k263 a0 x1 x2 x3 x4 x5 x6 x11 → f_E sh t YX5_meetsLater rm cs (f_Q sh t R) 263 [.inr (.inr (.inl (2, 19, a0))), .inl x1, .inl x2, .inl x3, .inl x4, .inl x5, .inl x6, .inr (.inr (.inr ())), .inr (.inr (.inr ())), .inr (.inr (.inr ())), .inr (.inr (.inr ())), .inl x11] [] M) (h : VX5_meetsLater_261 c_X11_isOn c_X11_turn k263 (fun r => R (some (.inl r)) M) a0 x1 x2 x3 x4 x5 x6 xs0 M) : f_E sh t YX5_meetsLater rm cs (f_Q sh t R) 261 [.inr (.inr (.inl (2, 19, a0))), .inl x1, .inl x2, .inl x3, .inl x4, .inl x5, .inl x6, .inr (.inr (.inr ())), .inr (.inr (.inr ())), .inr (.inr (.inr ())), .inr (.inr (.inr ())), .inr (.inr (.inr ()))] [.inl xs0] M := by
  rw [f_kk8 M k263] at h
  exact f_go (KC := f_kc [(263, f_pl [(3, 2, 19), (1, 0, 0), (1, 0, 0), (1, 0, 0), (1, 0, 0), (1, 0, 0), (1, 0, 0), (0, 0, 0), (0, 0, 0), (0, 0, 0), (0, 0, 0), (1, 0, 0)] [] (fun ls st M2 => M2 = M ∧ (k263 (f_va (f_nth ls 0)) (f_vi (f_nth ls 1)) (f_vi (f_nth ls 2)) (f_vi (f_nth ls 3)) (f_vi (f_nth ls 4)) (f_vi (f_nth ls 5)) (f_vi (f_nth ls 6)) (f_vi (f_nth ls 11)))))]) C qX5_meetsLaterf (f_kc_cons (f_pl_ok rfl (fun ls st M2 ⟨e, hh⟩ => by subst e; exact h263 _ _ _ _ _ _ _ _ hh)) f_kc_nil) 169 157 h
set_option maxRecDepth 20000 in
theorem BX5_meetsLater_263 {sh : Nat → Nat × Nat} {t : Nat} {rm : Nat × Nat × Nat} {cs : Nat × Nat} {R : f_Rt} {c_X11_isOn : Int → Int → Int → Int → Int → Int → e_M → (Int → Prop) → Prop} {c_X11_turn : Int → Int → Int → Int → Int → Int → e_M → (Int → Prop) → Prop} {k53 : Nat → Int → Int → Int → Int → Int → Int → Prop} {a0 : Nat} {x1 : Int} {x2 : Int} {x3 : Int} {x4 : Int} {x5 : Int} {x6 : Int} {x11 : Int} {M : e_M} (C : f_Hy sh t yX5_meetsLater rm cs 5 (lX5_meetsLater c_X11_isOn c_X11_turn) R) (h53 : ∀ (a0 : Nat) (x1 : Int) (x2 : Int) (x3 : Int) (x4 : Int) (x5 : Int) (x6 : Int), k53 a0 x1 x2 x3 x4 x5 x6 → f_E sh t YX5_meetsLater rm cs (f_Q sh t R) 53 [.inr (.inr (.inl (2, 19, a0))), .inl x1, .inl x2, .inl x3, .inl x4, .inl x5, .inl x6, .inr (.inr (.inr ())), .inr (.inr (.inr ())), .inr (.inr (.inr ())), .inr (.inr (.inr ())), .inr (.inr (.inr ()))] [] M) (h : VX5_meetsLater_263 c_X11_isOn c_X11_turn k53 (fun r => R (some (.inl r)) M) a0 x1 x2 x3 x4 x5 x6 x11 M) : f_E sh t YX5_meetsLater rm cs (f_Q sh t R) 263 [.inr (.inr (.inl (2, 19, a0))), .inl x1, .inl x2, .inl x3, .inl x4, .inl x5, .inl x6, .inr (.inr (.inr ())), .inr (.inr (.inr ())), .inr (.inr (.inr ())), .inr (.inr (.inr ())), .inl x11] [] M := by
  rw [f_kk7 M k53] at h
  exact f_go (KC := f_kc [(53, f_pl [(3, 2, 19), (1, 0, 0), (1, 0, 0), (1, 0, 0), (1, 0, 0), (1, 0, 0), (1, 0, 0), (0, 0, 0), (0, 0, 0), (0, 0, 0), (0, 0, 0), (0, 0, 0)] [] (fun ls st M2 => M2 = M ∧ (k53 (f_va (f_nth ls 0)) (f_vi (f_nth ls 1)) (f_vi (f_nth ls 2)) (f_vi (f_nth ls 3)) (f_vi (f_nth ls 4)) (f_vi (f_nth ls 5)) (f_vi (f_nth ls 6)))))]) C qX5_meetsLaterf (f_kc_cons (f_pl_ok rfl (fun ls st M2 ⟨e, hh⟩ => by subst e; exact h53 _ _ _ _ _ _ _ hh)) f_kc_nil) 169 159 h
set_option maxRecDepth 20000 in
theorem BX5_meetsLater {sh : Nat → Nat × Nat} {t : Nat} {rm : Nat × Nat × Nat} {cs : Nat × Nat} {R : f_Rt} {c_X11_isOn : Int → Int → Int → Int → Int → Int → e_M → (Int → Prop) → Prop} {c_X11_turn : Int → Int → Int → Int → Int → Int → e_M → (Int → Prop) → Prop} {k48 : Nat → Int → Int → Int → Int → Int → Prop} {a0 : Nat} {x1 : Int} {M : e_M} (C : f_Hy sh t yX5_meetsLater rm cs 5 (lX5_meetsLater c_X11_isOn c_X11_turn) R) (h48 : ∀ (a0 : Nat) (x1 : Int) (x2 : Int) (x3 : Int) (x4 : Int) (x5 : Int), k48 a0 x1 x2 x3 x4 x5 → f_E sh t YX5_meetsLater rm cs (f_Q sh t R) 48 [.inr (.inr (.inl (2, 19, a0))), .inl x1, .inl x2, .inl x3, .inl x4, .inl x5, .inr (.inr (.inr ())), .inr (.inr (.inr ())), .inr (.inr (.inr ())), .inr (.inr (.inr ())), .inr (.inr (.inr ())), .inr (.inr (.inr ()))] [] M) (h : VX5_meetsLater c_X11_isOn c_X11_turn k48 (fun r => R (some (.inl r)) M) a0 x1 M) : f_E sh t YX5_meetsLater rm cs (f_Q sh t R) 0 [.inr (.inr (.inl (2, 19, a0))), .inl x1, .inr (.inr (.inr ())), .inr (.inr (.inr ())), .inr (.inr (.inr ())), .inr (.inr (.inr ())), .inr (.inr (.inr ())), .inr (.inr (.inr ())), .inr (.inr (.inr ())), .inr (.inr (.inr ())), .inr (.inr (.inr ())), .inr (.inr (.inr ()))] [] M := by
  rw [f_kk6 M k48] at h
  exact f_go (KC := f_kc [(48, f_pl [(3, 2, 19), (1, 0, 0), (1, 0, 0), (1, 0, 0), (1, 0, 0), (1, 0, 0), (0, 0, 0), (0, 0, 0), (0, 0, 0), (0, 0, 0), (0, 0, 0), (0, 0, 0)] [] (fun ls st M2 => M2 = M ∧ (k48 (f_va (f_nth ls 0)) (f_vi (f_nth ls 1)) (f_vi (f_nth ls 2)) (f_vi (f_nth ls 3)) (f_vi (f_nth ls 4)) (f_vi (f_nth ls 5)))))]) C qX5_meetsLaterf (f_kc_cons (f_pl_ok rfl (fun ls st M2 ⟨e, hh⟩ => by subst e; exact h48 _ _ _ _ _ _ hh)) f_kc_nil) 169 0 h
def WX5_meetsLater_263 (M : e_M) (H53 : Nat → Int → Int → Int → Int → Int → Int → Prop) (Q : Int → Prop) (a0 : Nat) (x1 : Int) (x2 : Int) (x3 : Int) (x4 : Int) (x5 : Int) (x6 : Int) (x11 : Int) : Prop :=
  VX5_meetsLater_263 WX11_isOn WX11_turn H53 Q a0 x1 x2 x3 x4 x5 x6 x11 M
def WX5_meetsLater_261 (M : e_M) (H53 : Nat → Int → Int → Int → Int → Int → Int → Prop) (Q : Int → Prop) (a0 : Nat) (x1 : Int) (x2 : Int) (x3 : Int) (x4 : Int) (x5 : Int) (x6 : Int) (xs0 : Int) : Prop :=
  VX5_meetsLater_261 WX11_isOn WX11_turn (WX5_meetsLater_263 M H53 Q) Q a0 x1 x2 x3 x4 x5 x6 xs0 M
def WX5_meetsLater_260 (M : e_M) (H53 : Nat → Int → Int → Int → Int → Int → Int → Prop) (Q : Int → Prop) (a0 : Nat) (x1 : Int) (x2 : Int) (x3 : Int) (x4 : Int) (x5 : Int) (x6 : Int) : Prop :=
  VX5_meetsLater_260 WX11_isOn WX11_turn (WX5_meetsLater_261 M H53 Q) Q a0 x1 x2 x3 x4 x5 x6 M
def WX5_meetsLater_256 (M : e_M) (H53 : Nat → Int → Int → Int → Int → Int → Int → Prop) (Q : Int → Prop) (a0 : Nat) (x1 : Int) (x2 : Int) (x3 : Int) (x4 : Int) (x5 : Int) (x6 : Int) : Prop :=
  VX5_meetsLater_256 WX11_isOn WX11_turn (WX5_meetsLater_261 M H53 Q) Q a0 x1 x2 x3 x4 x5 x6 M
def WX5_meetsLater_141 (M : e_M) (H53 : Nat → Int → Int → Int → Int → Int → Int → Prop) (Q : Int → Prop) (a0 : Nat) (x1 : Int) (x2 : Int) (x3 : Int) (x4 : Int) (x5 : Int) (x6 : Int) (x7 : Int) (x8 : Int) (x9 : Int) (x10 : Int) (xs0 : Int) : Prop :=
  VX5_meetsLater_141 WX11_isOn WX11_turn (WX5_meetsLater_263 M H53 Q) (WX5_meetsLater_256 M H53 Q) (WX5_meetsLater_260 M H53 Q) Q a0 x1 x2 x3 x4 x5 x6 x7 x8 x9 x10 xs0 M
def WX5_meetsLater_136 (M : e_M) (H53 : Nat → Int → Int → Int → Int → Int → Int → Prop) (Q : Int → Prop) (a0 : Nat) (x1 : Int) (x2 : Int) (x3 : Int) (x4 : Int) (x5 : Int) (x6 : Int) (x7 : Int) (x8 : Int) (x9 : Int) (x10 : Int) : Prop :=
  VX5_meetsLater_136 WX11_isOn WX11_turn (WX5_meetsLater_141 M H53 Q) Q a0 x1 x2 x3 x4 x5 x6 x7 x8 x9 x10 M
def WX5_meetsLater_53 (M : e_M) (Q : Int → Prop) : Nat → Nat → Int → Int → Int → Int → Int → Int → Prop
  | 0, _, _, _, _, _, _, _ => False
  | n + 1, a0, x1, x2, x3, x4, x5, x6 =>
    VX5_meetsLater_53 WX11_isOn WX11_turn (WX5_meetsLater_136 M (WX5_meetsLater_53 M Q n) Q) (WX5_meetsLater_141 M (WX5_meetsLater_53 M Q n) Q) Q a0 x1 x2 x3 x4 x5 x6 M
def WX5_meetsLater_48 (M : e_M) (Q : Int → Prop) (a0 : Nat) (x1 : Int) (x2 : Int) (x3 : Int) (x4 : Int) (x5 : Int) : Prop :=
  VX5_meetsLater_48 WX11_isOn WX11_turn (fun a0 x1 x2 x3 x4 x5 x6 => ∃ j, WX5_meetsLater_53 M Q j a0 x1 x2 x3 x4 x5 x6) Q a0 x1 x2 x3 x4 x5 M
def WX5_meetsLater (a0 : Nat) (x1 : Int) (M : e_M) (Q : Int → Prop) : Prop :=
  VX5_meetsLater WX11_isOn WX11_turn (WX5_meetsLater_48 M Q) Q a0 x1 M
theorem PX5_meetsLater_263 {sh : Nat → Nat × Nat} {t : Nat} {rm : Nat × Nat × Nat} {cs : Nat × Nat} {R : f_Rt} {H53 : Nat → Int → Int → Int → Int → Int → Int → Prop} {a0 : Nat} {x1 : Int} {x2 : Int} {x3 : Int} {x4 : Int} {x5 : Int} {x6 : Int} {x11 : Int} {M : e_M} (C : f_Hy sh t yX5_meetsLater rm cs 5 (lX5_meetsLater WX11_isOn WX11_turn) R) (g53 : ∀ (a0 : Nat) (x1 : Int) (x2 : Int) (x3 : Int) (x4 : Int) (x5 : Int) (x6 : Int), H53 a0 x1 x2 x3 x4 x5 x6 → f_E sh t YX5_meetsLater rm cs (f_Q sh t R) 53 [.inr (.inr (.inl (2, 19, a0))), .inl x1, .inl x2, .inl x3, .inl x4, .inl x5, .inl x6, .inr (.inr (.inr ())), .inr (.inr (.inr ())), .inr (.inr (.inr ())), .inr (.inr (.inr ())), .inr (.inr (.inr ()))] [] M) (h : WX5_meetsLater_263 M H53 (fun r => R (some (.inl r)) M) a0 x1 x2 x3 x4 x5 x6 x11) : f_E sh t YX5_meetsLater rm cs (f_Q sh t R) 263 [.inr (.inr (.inl (2, 19, a0))), .inl x1, .inl x2, .inl x3, .inl x4, .inl x5, .inl x6, .inr (.inr (.inr ())), .inr (.inr (.inr ())), .inr (.inr (.inr ())), .inr (.inr (.inr ())), .inl x11] [] M :=
  BX5_meetsLater_263 C g53 h
theorem PX5_meetsLater_261 {sh : Nat → Nat × Nat} {t : Nat} {rm : Nat × Nat × Nat} {cs : Nat × Nat} {R : f_Rt} {H53 : Nat → Int → Int → Int → Int → Int → Int → Prop} {a0 : Nat} {x1 : Int} {x2 : Int} {x3 : Int} {x4 : Int} {x5 : Int} {x6 : Int} {xs0 : Int} {M : e_M} (C : f_Hy sh t yX5_meetsLater rm cs 5 (lX5_meetsLater WX11_isOn WX11_turn) R) (g53 : ∀ (a0 : Nat) (x1 : Int) (x2 : Int) (x3 : Int) (x4 : Int) (x5 : Int) (x6 : Int), H53 a0 x1 x2 x3 x4 x5 x6 → f_E sh t YX5_meetsLater rm cs (f_Q sh t R) 53 [.inr (.inr (.inl (2, 19, a0))), .inl x1, .inl x2, .inl x3, .inl x4, .inl x5, .inl x6, .inr (.inr (.inr ())), .inr (.inr (.inr ())), .inr (.inr (.inr ())), .inr (.inr (.inr ())), .inr (.inr (.inr ()))] [] M) (h : WX5_meetsLater_261 M H53 (fun r => R (some (.inl r)) M) a0 x1 x2 x3 x4 x5 x6 xs0) : f_E sh t YX5_meetsLater rm cs (f_Q sh t R) 261 [.inr (.inr (.inl (2, 19, a0))), .inl x1, .inl x2, .inl x3, .inl x4, .inl x5, .inl x6, .inr (.inr (.inr ())), .inr (.inr (.inr ())), .inr (.inr (.inr ())), .inr (.inr (.inr ())), .inr (.inr (.inr ()))] [.inl xs0] M :=
  BX5_meetsLater_261 C (fun a0 x1 x2 x3 x4 x5 x6 x11 h => PX5_meetsLater_263 C g53 h) h
theorem PX5_meetsLater_260 {sh : Nat → Nat × Nat} {t : Nat} {rm : Nat × Nat × Nat} {cs : Nat × Nat} {R : f_Rt} {H53 : Nat → Int → Int → Int → Int → Int → Int → Prop} {a0 : Nat} {x1 : Int} {x2 : Int} {x3 : Int} {x4 : Int} {x5 : Int} {x6 : Int} {M : e_M} (C : f_Hy sh t yX5_meetsLater rm cs 5 (lX5_meetsLater WX11_isOn WX11_turn) R) (g53 : ∀ (a0 : Nat) (x1 : Int) (x2 : Int) (x3 : Int) (x4 : Int) (x5 : Int) (x6 : Int), H53 a0 x1 x2 x3 x4 x5 x6 → f_E sh t YX5_meetsLater rm cs (f_Q sh t R) 53 [.inr (.inr (.inl (2, 19, a0))), .inl x1, .inl x2, .inl x3, .inl x4, .inl x5, .inl x6, .inr (.inr (.inr ())), .inr (.inr (.inr ())), .inr (.inr (.inr ())), .inr (.inr (.inr ())), .inr (.inr (.inr ()))] [] M) (h : WX5_meetsLater_260 M H53 (fun r => R (some (.inl r)) M) a0 x1 x2 x3 x4 x5 x6) : f_E sh t YX5_meetsLater rm cs (f_Q sh t R) 260 [.inr (.inr (.inl (2, 19, a0))), .inl x1, .inl x2, .inl x3, .inl x4, .inl x5, .inl x6, .inr (.inr (.inr ())), .inr (.inr (.inr ())), .inr (.inr (.inr ())), .inr (.inr (.inr ())), .inr (.inr (.inr ()))] [] M :=
  BX5_meetsLater_260 C (fun a0 x1 x2 x3 x4 x5 x6 xs0 h => PX5_meetsLater_261 C g53 h) h
theorem PX5_meetsLater_256 {sh : Nat → Nat × Nat} {t : Nat} {rm : Nat × Nat × Nat} {cs : Nat × Nat} {R : f_Rt} {H53 : Nat → Int → Int → Int → Int → Int → Int → Prop} {a0 : Nat} {x1 : Int} {x2 : Int} {x3 : Int} {x4 : Int} {x5 : Int} {x6 : Int} {M : e_M} (C : f_Hy sh t yX5_meetsLater rm cs 5 (lX5_meetsLater WX11_isOn WX11_turn) R) (g53 : ∀ (a0 : Nat) (x1 : Int) (x2 : Int) (x3 : Int) (x4 : Int) (x5 : Int) (x6 : Int), H53 a0 x1 x2 x3 x4 x5 x6 → f_E sh t YX5_meetsLater rm cs (f_Q sh t R) 53 [.inr (.inr (.inl (2, 19, a0))), .inl x1, .inl x2, .inl x3, .inl x4, .inl x5, .inl x6, .inr (.inr (.inr ())), .inr (.inr (.inr ())), .inr (.inr (.inr ())), .inr (.inr (.inr ())), .inr (.inr (.inr ()))] [] M) (h : WX5_meetsLater_256 M H53 (fun r => R (some (.inl r)) M) a0 x1 x2 x3 x4 x5 x6) : f_E sh t YX5_meetsLater rm cs (f_Q sh t R) 256 [.inr (.inr (.inl (2, 19, a0))), .inl x1, .inl x2, .inl x3, .inl x4, .inl x5, .inl x6, .inr (.inr (.inr ())), .inr (.inr (.inr ())), .inr (.inr (.inr ())), .inr (.inr (.inr ())), .inr (.inr (.inr ()))] [] M :=
  BX5_meetsLater_256 C (fun a0 x1 x2 x3 x4 x5 x6 xs0 h => PX5_meetsLater_261 C g53 h) h
theorem PX5_meetsLater_141 {sh : Nat → Nat × Nat} {t : Nat} {rm : Nat × Nat × Nat} {cs : Nat × Nat} {R : f_Rt} {H53 : Nat → Int → Int → Int → Int → Int → Int → Prop} {a0 : Nat} {x1 : Int} {x2 : Int} {x3 : Int} {x4 : Int} {x5 : Int} {x6 : Int} {x7 : Int} {x8 : Int} {x9 : Int} {x10 : Int} {xs0 : Int} {M : e_M} (C : f_Hy sh t yX5_meetsLater rm cs 5 (lX5_meetsLater WX11_isOn WX11_turn) R) (g53 : ∀ (a0 : Nat) (x1 : Int) (x2 : Int) (x3 : Int) (x4 : Int) (x5 : Int) (x6 : Int), H53 a0 x1 x2 x3 x4 x5 x6 → f_E sh t YX5_meetsLater rm cs (f_Q sh t R) 53 [.inr (.inr (.inl (2, 19, a0))), .inl x1, .inl x2, .inl x3, .inl x4, .inl x5, .inl x6, .inr (.inr (.inr ())), .inr (.inr (.inr ())), .inr (.inr (.inr ())), .inr (.inr (.inr ())), .inr (.inr (.inr ()))] [] M) (h : WX5_meetsLater_141 M H53 (fun r => R (some (.inl r)) M) a0 x1 x2 x3 x4 x5 x6 x7 x8 x9 x10 xs0) : f_E sh t YX5_meetsLater rm cs (f_Q sh t R) 141 [.inr (.inr (.inl (2, 19, a0))), .inl x1, .inl x2, .inl x3, .inl x4, .inl x5, .inl x6, .inl x7, .inl x8, .inl x9, .inl x10, .inr (.inr (.inr ()))] [.inl xs0] M :=
  BX5_meetsLater_141 C (fun a0 x1 x2 x3 x4 x5 x6 x11 h => PX5_meetsLater_263 C g53 h) (fun a0 x1 x2 x3 x4 x5 x6 h => PX5_meetsLater_256 C g53 h) (fun a0 x1 x2 x3 x4 x5 x6 h => PX5_meetsLater_260 C g53 h) h
theorem PX5_meetsLater_136 {sh : Nat → Nat × Nat} {t : Nat} {rm : Nat × Nat × Nat} {cs : Nat × Nat} {R : f_Rt} {H53 : Nat → Int → Int → Int → Int → Int → Int → Prop} {a0 : Nat} {x1 : Int} {x2 : Int} {x3 : Int} {x4 : Int} {x5 : Int} {x6 : Int} {x7 : Int} {x8 : Int} {x9 : Int} {x10 : Int} {M : e_M} (C : f_Hy sh t yX5_meetsLater rm cs 5 (lX5_meetsLater WX11_isOn WX11_turn) R) (g53 : ∀ (a0 : Nat) (x1 : Int) (x2 : Int) (x3 : Int) (x4 : Int) (x5 : Int) (x6 : Int), H53 a0 x1 x2 x3 x4 x5 x6 → f_E sh t YX5_meetsLater rm cs (f_Q sh t R) 53 [.inr (.inr (.inl (2, 19, a0))), .inl x1, .inl x2, .inl x3, .inl x4, .inl x5, .inl x6, .inr (.inr (.inr ())), .inr (.inr (.inr ())), .inr (.inr (.inr ())), .inr (.inr (.inr ())), .inr (.inr (.inr ()))] [] M) (h : WX5_meetsLater_136 M H53 (fun r => R (some (.inl r)) M) a0 x1 x2 x3 x4 x5 x6 x7 x8 x9 x10) : f_E sh t YX5_meetsLater rm cs (f_Q sh t R) 136 [.inr (.inr (.inl (2, 19, a0))), .inl x1, .inl x2, .inl x3, .inl x4, .inl x5, .inl x6, .inl x7, .inl x8, .inl x9, .inl x10, .inr (.inr (.inr ()))] [] M :=
  BX5_meetsLater_136 C (fun a0 x1 x2 x3 x4 x5 x6 x7 x8 x9 x10 xs0 h => PX5_meetsLater_141 C g53 h) h
theorem PX5_meetsLater_53 {sh : Nat → Nat × Nat} {t : Nat} {rm : Nat × Nat × Nat} {cs : Nat × Nat} {R : f_Rt} {M : e_M} (C : f_Hy sh t yX5_meetsLater rm cs 5 (lX5_meetsLater WX11_isOn WX11_turn) R) : ∀ (n : Nat) (a0 : Nat) (x1 : Int) (x2 : Int) (x3 : Int) (x4 : Int) (x5 : Int) (x6 : Int), WX5_meetsLater_53 M (fun r => R (some (.inl r)) M) n a0 x1 x2 x3 x4 x5 x6 → f_E sh t YX5_meetsLater rm cs (f_Q sh t R) 53 [.inr (.inr (.inl (2, 19, a0))), .inl x1, .inl x2, .inl x3, .inl x4, .inl x5, .inl x6, .inr (.inr (.inr ())), .inr (.inr (.inr ())), .inr (.inr (.inr ())), .inr (.inr (.inr ())), .inr (.inr (.inr ()))] [] M := by
  intro n
  induction n with
  | zero => intro a0 x1 x2 x3 x4 x5 x6 h; exact h.elim
  | succ n ih => intro a0 x1 x2 x3 x4 x5 x6 h; exact BX5_meetsLater_53 C (fun a0 x1 x2 x3 x4 x5 x6 x7 x8 x9 x10 h => PX5_meetsLater_136 C ih h) (fun a0 x1 x2 x3 x4 x5 x6 x7 x8 x9 x10 xs0 h => PX5_meetsLater_141 C ih h) h
theorem PX5_meetsLater_48 {sh : Nat → Nat × Nat} {t : Nat} {rm : Nat × Nat × Nat} {cs : Nat × Nat} {R : f_Rt} {a0 : Nat} {x1 : Int} {x2 : Int} {x3 : Int} {x4 : Int} {x5 : Int} {M : e_M} (C : f_Hy sh t yX5_meetsLater rm cs 5 (lX5_meetsLater WX11_isOn WX11_turn) R) (h : WX5_meetsLater_48 M (fun r => R (some (.inl r)) M) a0 x1 x2 x3 x4 x5) : f_E sh t YX5_meetsLater rm cs (f_Q sh t R) 48 [.inr (.inr (.inl (2, 19, a0))), .inl x1, .inl x2, .inl x3, .inl x4, .inl x5, .inr (.inr (.inr ())), .inr (.inr (.inr ())), .inr (.inr (.inr ())), .inr (.inr (.inr ())), .inr (.inr (.inr ())), .inr (.inr (.inr ()))] [] M :=
  BX5_meetsLater_48 C (fun a0 x1 x2 x3 x4 x5 x6 ⟨j, h⟩ => PX5_meetsLater_53 C j _ _ _ _ _ _ _ h) h
theorem PX5_meetsLater {sh : Nat → Nat × Nat} {t : Nat} {rm : Nat × Nat × Nat} {cs : Nat × Nat} {R : f_Rt} {a0 : Nat} {x1 : Int} {M : e_M} (C : f_Hy sh t yX5_meetsLater rm cs 5 (lX5_meetsLater WX11_isOn WX11_turn) R) (h : WX5_meetsLater a0 x1 M (fun r => R (some (.inl r)) M)) : f_E sh t YX5_meetsLater rm cs (f_Q sh t R) 0 [.inr (.inr (.inl (2, 19, a0))), .inl x1, .inr (.inr (.inr ())), .inr (.inr (.inr ())), .inr (.inr (.inr ())), .inr (.inr (.inr ())), .inr (.inr (.inr ())), .inr (.inr (.inr ())), .inr (.inr (.inr ())), .inr (.inr (.inr ())), .inr (.inr (.inr ())), .inr (.inr (.inr ()))] [] M :=
  BX5_meetsLater C (fun a0 x1 x2 x3 x4 x5 h => PX5_meetsLater_48 C h) h
def wX5_meetsLater : f_Wt := f_wm [(3, 2, 19), (1, 0, 0)] (fun ar M R => WX5_meetsLater (f_va (f_nth ar 0)) (f_vi (f_nth ar 1)) M (fun r => R (some (.inl r)) M))
theorem TX5_meetsLater {sh : Nat → Nat × Nat} {t : Nat} : f_Mt sh t YX5_meetsLater 5 (wX5_meetsLater) :=
  f_Mt_of (k := 10) (Nat.le_of_ble_eq_true rfl) rfl rfl (fun ar M R rm cs h1 h2 h3 hX h => PX5_meetsLater ⟨Nat.le_of_ble_eq_true rfl, h1, h2, h3, ⟨(f_Mt.up (Nat.le_of_ble_eq_true rfl) TX11_isOn), (f_Mt.up (Nat.le_of_ble_eq_true rfl) TX11_turn), trivial⟩, hX⟩ h)
