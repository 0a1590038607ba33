def VX10_find_2 (k38 : Nat → Int → Int → Prop) (k2 : Nat → Int → Int → Prop) (Q : Int → Prop) (a0 : Nat) (x1 : Int) (x3 : Int) (M : e_M) : Prop :=
  ((0 ≤ (0 : Int) ∧ (0 : Int) < 8) ∧ (((M (a0 + 24) ((0 : Int).toNat)) ≤ x3 → (k38 a0 x1 1)) ∧ (x3 < (M (a0 + 24) ((0 : Int).toNat)) → ((0 ≤ x3 ∧ x3 < 80) ∧ ((¬ (M ((M (a0 + 1) (x3.toNat)).toNat) 0) = x1 → (k2 a0 x1 (e_w32 (x3 + 1)))) ∧ ((M ((M (a0 + 1) (x3.toNat)).toNat) 0) = x1 → (Q (e_w32 ((0 : Int) + x3)))))))))
def VX10_find_38 (k47 : Nat → Int → Int → Int → Prop) (Q : Int → Prop) (a0 : Nat) (x1 : Int) (x3 : Int) (M : e_M) : Prop :=
  ((7 ≤ x3 → (Q (-1))) ∧ (x3 < 7 → (k47 a0 x1 x3 0)))
def VX10_find_47 (k38 : Nat → Int → Int → Prop) (k47 : Nat → Int → Int → Int → Prop) (Q : Int → Prop) (a0 : Nat) (x1 : Int) (x3 : Int) (x4 : Int) (M : e_M) : Prop :=
  ((0 ≤ x3 ∧ x3 < 8) ∧ (((M (a0 + 24) (x3.toNat)) ≤ x4 → (k38 a0 x1 (e_w32 (x3 + 1)))) ∧ (x4 < (M (a0 + 24) (x3.toNat)) → ((0 ≤ x3 ∧ x3 < 8) ∧ ((0 ≤ (e_w32 ((f_kt 1000002 (x3.toNat)) + x4)) ∧ (e_w32 ((f_kt 1000002 (x3.toNat)) + x4)) < 290) ∧ ((¬ (M ((M (a0 + 2) ((e_w32 ((f_kt 1000002 (x3.toNat)) + x4)).toNat)).toNat) 0) = x1 → (k47 a0 x1 x3 (e_w32 (x4 + 1)))) ∧ ((M ((M (a0 + 2) ((e_w32 ((f_kt 1000002 (x3.toNat)) + x4)).toNat)).toNat) 0) = x1 → (Q (e_w32 ((e_w32 (x3 * 100)) + x4))))))))))
def VX10_find (k2 : Nat → Int → Int → Prop) (Q : Int → Prop) (a0 : Nat) (x1 : Int) (M : e_M) : Prop :=
  (k2 a0 x1 0)
def yX10_find (i : Nat) : e_Y := x_get YX10_find [] i
def pX10_findf : List x_I := [(0, 0, 1, 0, 0, 0, []), (1, 5, 1, 3, 0, 0, []), (2, 49, 0, 0, 0, 0, []), (2, 2, 1, 3, 0, 0, []), (3, 4, 1, 0, 0, 0, []), (4, 25, 10, 4, 4, 0, [(0, 20, 8), (0, 1, 24)]), (7, 0, 1, 0, 0, 0, []), (8, 27, 0, 0, 0, 0, []), (9, 18, 36, 3, 23, 0, []), (12, 4, 1, 0, 0, 0, []), (13, 25, 10, 0, 4, 0, [(0, 34, 80), (0, 1, 1)]), (16, 2, 1, 3, 0, 0, []), (17, 27, 0, 3, 0, 0, [(0, 4, 9), (0, 0, 0)]), (18, 25, 4, 0, 3, 0, []), (21, 3, 1, 1, 0, 0, []), (22, 32, 30, 1, 21, 0, []), (26, 0, 1, 0, 0, 0, []), (27, 2, 1, 3, 0, 0, []), (28, 9, 0, 0, 0, 0, []), (29, 41, 0, 0, 0, 0, []), (30, 8, 0, 3, 0, 1, []), (33, 19, 2, 0, 3, 0, []), (36, 0, 1, 0, 0, 1, []), (37, 5, 1, 3, 0, 0, []), (38, 49, 0, 0, 0, 0, []), (38, 2, 1, 3, 0, 0, []), (39, 0, 2, 0, 0, 7, []), (41, 18, 99, 3, 59, 0, []), (44, 0, 1, 0, 0, 0, []), (45, 5, 2, 4, 0, 0, []), (47, 49, 0, 0, 0, 0, []), (47, 2, 2, 4, 0, 0, []), (49, 4, 1, 0, 0, 0, []), (50, 25, 10, 4, 4, 0, [(0, 20, 8), (0, 1, 24)]), (53, 2, 1, 3, 0, 0, []), (54, 27, 0, 0, 0, 0, []), (55, 18, 93, 3, 57, 0, []), (58, 4, 1, 0, 0, 0, []), (59, 25, 10, 1, 4, 0, [(0, 39, 290), (0, 1, 2)]), (62, 35, 3, 1000002, 8, 0, []), (65, 2, 1, 3, 0, 0, []), (66, 27, 0, 0, 0, 0, []), (67, 2, 2, 4, 0, 0, []), (69, 9, 0, 0, 0, 0, []), (70, 27, 0, 3, 0, 0, [(0, 9, 14), (0, 0, 0)]), (71, 25, 9, 0, 3, 0, []), (74, 3, 1, 1, 0, 0, []), (75, 32, 87, 1, 55, 0, []), (79, 2, 1, 3, 0, 0, []), (80, 0, 2, 0, 0, 100, []), (82, 9, 0, 2, 0, 0, []), (83, 2, 2, 4, 0, 0, []), (85, 9, 0, 0, 0, 0, []), (86, 41, 0, 0, 0, 0, []), (87, 8, 0, 4, 0, 1, []), (90, 19, 47, 0, 31, 0, []), (93, 8, 0, 3, 0, 1, []), (96, 19, 38, 0, 25, 0, []), (99, 0, 1, 0, 0, (-1), []), (100, 41, 0, 0, 0, 0, [])]
set_option maxRecDepth 20000 in
theorem qX10_findf : f_all yX10_find YX10_find pX10_findf :=
  ⟨f_iconst (e_dx DX10_find_0 0 rfl) ⟨by decide, by decide⟩,
  f_istore_n (n := 3) (e_dx DX10_find_0 1 rfl) rfl (by decide),
  trivial,
  f_iload_n (n := 3) (e_dx DX10_find_0 2 rfl) rfl,
  f_aload_n (n := 0) (e_dx DX10_find_0 3 rfl) rfl,
  f_getA (e_dx DX10_find_0 4 rfl) fX10_42 rfl (by decide) (Nat.le_of_ble_eq_true rfl) rfl (by decide),
  f_iconst (e_dx DX10_find_0 5 rfl) ⟨by decide, by decide⟩,
  f_iaload (e_dx DX10_find_0 6 rfl),
  f_icmp_ge (e_dx DX10_find_0 7 rfl) rfl,
  f_aload_n (n := 0) (e_dx DX10_find_0 8 rfl) rfl,
  f_getA (e_dx DX10_find_0 9 rfl) fX10_15 rfl (by decide) (Nat.le_of_ble_eq_true rfl) rfl (by decide),
  f_iload_n (n := 3) (e_dx DX10_find_0 10 rfl) rfl,
  f_aaload (e_dx DX10_find_0 11 rfl) (by decide) rfl,
  f_getL (e_dx DX10_find_0 12 rfl) fX10_153 rfl (by decide),
  f_lload_n (n := 1) (e_dx DX10_find_0 13 rfl) rfl,
  f_lif_ne (e_dx DX10_find_0 14 rfl) (e_dx DX10_find_0 15 rfl) rfl,
  f_iconst (e_dx DX10_find_0 16 rfl) ⟨by decide, by decide⟩,
  f_iload_n (n := 3) (e_dx DX10_find_0 17 rfl) rfl,
  f_iadd (e_dx DX10_find_0 18 rfl),
  ⟨(e_dx DX10_find_0 19 rfl), rfl⟩,
  f_g8 (e_dx DX10_find_0 20 rfl) ⟨by decide, by decide⟩,
  f_g19 (e_dx DX10_find_0 21 rfl) rfl,
  f_iconst (e_dx DX10_find_0 22 rfl) ⟨by decide, by decide⟩,
  f_istore_n (n := 3) (e_dx DX10_find_0 23 rfl) rfl (by decide),
  trivial,
  f_iload_n (n := 3) (e_dx DX10_find_0 24 rfl) rfl,
  f_bipush (e_dx DX10_find_0 25 rfl) ⟨by decide, by decide⟩,
  f_icmp_ge (e_dx DX10_find_0 26 rfl) rfl,
  f_iconst (e_dx DX10_find_0 27 rfl) ⟨by decide, by decide⟩,
  f_istore (e_dx DX10_find_0 28 rfl) (by decide),
  trivial,
  f_iload (e_dx DX10_find_0 29 rfl),
  f_aload_n (n := 0) (e_dx DX10_find_0 30 rfl) rfl,
  f_getA (e_dx DX10_find_0 31 rfl) fX10_42 rfl (by decide) (Nat.le_of_ble_eq_true rfl) rfl (by decide),
  f_iload_n (n := 3) (e_dx DX10_find_0 32 rfl) rfl,
  f_iaload (e_dx DX10_find_0 33 rfl),
  f_icmp_ge (e_dx DX10_find_0 34 rfl) rfl,
  f_aload_n (n := 0) (e_dx DX10_find_0 35 rfl) rfl,
  f_getA (e_dx DX10_find_0 36 rfl) fX10_23 rfl (by decide) (Nat.le_of_ble_eq_true rfl) rfl (by decide),
  f_getsN (j := 1) (q := ("LandHouse", "FIRST")) (e_dx DX10_find_0 37 rfl) rfl gX10_132 rfl ⟨rfl, rfl⟩,
  f_iload_n (n := 3) (e_dx DX10_find_0 38 rfl) rfl,
  f_iaload (e_dx DX10_find_0 39 rfl),
  f_iload (e_dx DX10_find_1 0 rfl),
  f_iadd (e_dx DX10_find_1 1 rfl),
  f_aaload (e_dx DX10_find_1 2 rfl) (by decide) rfl,
  f_getL (e_dx DX10_find_1 3 rfl) fX10_157 rfl (by decide),
  f_lload_n (n := 1) (e_dx DX10_find_1 4 rfl) rfl,
  f_lif_ne (e_dx DX10_find_1 5 rfl) (e_dx DX10_find_1 6 rfl) rfl,
  f_iload_n (n := 3) (e_dx DX10_find_1 7 rfl) rfl,
  f_bipush (e_dx DX10_find_1 8 rfl) ⟨by decide, by decide⟩,
  f_imul (e_dx DX10_find_1 9 rfl),
  f_iload (e_dx DX10_find_1 10 rfl),
  f_iadd (e_dx DX10_find_1 11 rfl),
  ⟨(e_dx DX10_find_1 12 rfl), rfl⟩,
  f_g8 (e_dx DX10_find_1 13 rfl) ⟨by decide, by decide⟩,
  f_g19 (e_dx DX10_find_1 14 rfl) rfl,
  f_g8 (e_dx DX10_find_1 15 rfl) ⟨by decide, by decide⟩,
  f_g19 (e_dx DX10_find_1 16 rfl) rfl,
  f_iconst (e_dx DX10_find_1 17 rfl) ⟨by decide, by decide⟩,
  ⟨(e_dx DX10_find_1 18 rfl), rfl⟩, trivial⟩
def lX10_find : List (Nat × f_Wt) := []
set_option maxRecDepth 20000 in
theorem BX10_find_2 {sh : Nat → Nat × Nat} {t : Nat} {rm : Nat × Nat × Nat} {cs : Nat × Nat} {R : f_Rt} {k38 : Nat → Int → Int → Prop} {k2 : Nat → Int → Int → Prop} {a0 : Nat} {x1 : Int} {x3 : Int} {M : e_M} (C : f_Hy sh t yX10_find rm cs 4 (lX10_find) R) (h38 : ∀ (a0 : Nat) (x1 : Int) (x3 : Int), k38 a0 x1 x3 → f_E sh t YX10_find rm cs (f_Q sh t R) 38 [.inr (.inr (.inl (10, 15, a0))), .inr (.inl x1), .inr (.inr (.inr ())), .inl x3, .inr (.inr (.inr ()))] [] M) (h2 : ∀ (a0 : Nat) (x1 : Int) (x3 : Int), k2 a0 x1 x3 → f_E sh t YX10_find rm cs (f_Q sh t R) 2 [.inr (.inr (.inl (10, 15, a0))), .inr (.inl x1), .inr (.inr (.inr ())), .inl x3, .inr (.inr (.inr ()))] [] M) (h : VX10_find_2 k38 k2 (fun r => R (some (.inl r)) M) a0 x1 x3 M) : f_E sh t YX10_find rm cs (f_Q sh t R) 2 [.inr (.inr (.inl (10, 15, a0))), .inr (.inl x1), .inr (.inr (.inr ())), .inl x3, .inr (.inr (.inr ()))] [] M := by
  rw [f_kk3 M k38] at h
  rw [f_kk3 M k2] at h
  exact f_go (KC := f_kc [(38, f_pl [(3, 10, 15), (2, 0, 0), (0, 0, 0), (1, 0, 0), (0, 0, 0)] [] (fun ls st M2 => M2 = M ∧ (k38 (f_va (f_nth ls 0)) (f_vi (f_nth ls 1)) (f_vi (f_nth ls 3))))), (2, f_pl [(3, 10, 15), (2, 0, 0), (0, 0, 0), (1, 0, 0), (0, 0, 0)] [] (fun ls st M2 => M2 = M ∧ (k2 (f_va (f_nth ls 0)) (f_vi (f_nth ls 1)) (f_vi (f_nth ls 3)))))]) C qX10_findf (f_kc_cons (f_pl_ok rfl (fun ls st M2 ⟨e, hh⟩ => by subst e; exact h38 _ _ _ hh)) (f_kc_cons (f_pl_ok rfl (fun ls st M2 ⟨e, hh⟩ => by subst e; exact h2 _ _ _ hh)) f_kc_nil)) 62 3 h
set_option maxRecDepth 20000 in
theorem BX10_find_38 {sh : Nat → Nat × Nat} {t : Nat} {rm : Nat × Nat × Nat} {cs : Nat × Nat} {R : f_Rt} {k47 : Nat → Int → Int → Int → Prop} {a0 : Nat} {x1 : Int} {x3 : Int} {M : e_M} (C : f_Hy sh t yX10_find rm cs 4 (lX10_find) R) (h47 : ∀ (a0 : Nat) (x1 : Int) (x3 : Int) (x4 : Int), k47 a0 x1 x3 x4 → f_E sh t YX10_find rm cs (f_Q sh t R) 47 [.inr (.inr (.inl (10, 15, a0))), .inr (.inl x1), .inr (.inr (.inr ())), .inl x3, .inl x4] [] M) (h : VX10_find_38 k47 (fun r => R (some (.inl r)) M) a0 x1 x3 M) : f_E sh t YX10_find rm cs (f_Q sh t R) 38 [.inr (.inr (.inl (10, 15, a0))), .inr (.inl x1), .inr (.inr (.inr ())), .inl x3, .inr (.inr (.inr ()))] [] M := by
  rw [f_kk4 M k47] at h
  exact f_go (KC := f_kc [(47, f_pl [(3, 10, 15), (2, 0, 0), (0, 0, 0), (1, 0, 0), (1, 0, 0)] [] (fun ls st M2 => M2 = M ∧ (k47 (f_va (f_nth ls 0)) (f_vi (f_nth ls 1)) (f_vi (f_nth ls 3)) (f_vi (f_nth ls 4)))))]) C qX10_findf (f_kc_cons (f_pl_ok rfl (fun ls st M2 ⟨e, hh⟩ => by subst e; exact h47 _ _ _ _ hh)) f_kc_nil) 62 25 h
set_option maxRecDepth 20000 in
theorem BX10_find_47 {sh : Nat → Nat × Nat} {t : Nat} {rm : Nat × Nat × Nat} {cs : Nat × Nat} {R : f_Rt} {k38 : Nat → Int → Int → Prop} {k47 : Nat → Int → Int → Int → Prop} {a0 : Nat} {x1 : Int} {x3 : Int} {x4 : Int} {M : e_M} (C : f_Hy sh t yX10_find rm cs 4 (lX10_find) R) (h38 : ∀ (a0 : Nat) (x1 : Int) (x3 : Int), k38 a0 x1 x3 → f_E sh t YX10_find rm cs (f_Q sh t R) 38 [.inr (.inr (.inl (10, 15, a0))), .inr (.inl x1), .inr (.inr (.inr ())), .inl x3, .inr (.inr (.inr ()))] [] M) (h47 : ∀ (a0 : Nat) (x1 : Int) (x3 : Int) (x4 : Int), k47 a0 x1 x3 x4 → f_E sh t YX10_find rm cs (f_Q sh t R) 47 [.inr (.inr (.inl (10, 15, a0))), .inr (.inl x1), .inr (.inr (.inr ())), .inl x3, .inl x4] [] M) (h : VX10_find_47 k38 k47 (fun r => R (some (.inl r)) M) a0 x1 x3 x4 M) : f_E sh t YX10_find rm cs (f_Q sh t R) 47 [.inr (.inr (.inl (10, 15, a0))), .inr (.inl x1), .inr (.inr (.inr ())), .inl x3, .inl x4] [] M := by
  rw [f_kk3 M k38] at h
  rw [f_kk4 M k47] at h
  exact f_go (KC := f_kc [(38, f_pl [(3, 10, 15), (2, 0, 0), (0, 0, 0), (1, 0, 0), (0, 0, 0)] [] (fun ls st M2 => M2 = M ∧ (k38 (f_va (f_nth ls 0)) (f_vi (f_nth ls 1)) (f_vi (f_nth ls 3))))), (47, f_pl [(3, 10, 15), (2, 0, 0), (0, 0, 0), (1, 0, 0), (1, 0, 0)] [] (fun ls st M2 => M2 = M ∧ (k47 (f_va (f_nth ls 0)) (f_vi (f_nth ls 1)) (f_vi (f_nth ls 3)) (f_vi (f_nth ls 4)))))]) C qX10_findf (f_kc_cons (f_pl_ok rfl (fun ls st M2 ⟨e, hh⟩ => by subst e; exact h38 _ _ _ hh)) (f_kc_cons (f_pl_ok rfl (fun ls st M2 ⟨e, hh⟩ => by subst e; exact h47 _ _ _ _ hh)) f_kc_nil)) 62 31 h
set_option maxRecDepth 20000 in
theorem BX10_find {sh : Nat → Nat × Nat} {t : Nat} {rm : Nat × Nat × Nat} {cs : Nat × Nat} {R : f_Rt} {k2 : Nat → Int → Int → Prop} {a0 : Nat} {x1 : Int} {M : e_M} (C : f_Hy sh t yX10_find rm cs 4 (lX10_find) R) (h2 : ∀ (a0 : Nat) (x1 : Int) (x3 : Int), k2 a0 x1 x3 → f_E sh t YX10_find rm cs (f_Q sh t R) 2 [.inr (.inr (.inl (10, 15, a0))), .inr (.inl x1), .inr (.inr (.inr ())), .inl x3, .inr (.inr (.inr ()))] [] M) (h : VX10_find k2 (fun r => R (some (.inl r)) M) a0 x1 M) : f_E sh t YX10_find rm cs (f_Q sh t R) 0 [.inr (.inr (.inl (10, 15, a0))), .inr (.inl x1), .inr (.inr (.inr ())), .inr (.inr (.inr ())), .inr (.inr (.inr ()))] [] M := by
  rw [f_kk3 M k2] at h
  exact f_go (KC := f_kc [(2, f_pl [(3, 10, 15), (2, 0, 0), (0, 0, 0), (1, 0, 0), (0, 0, 0)] [] (fun ls st M2 => M2 = M ∧ (k2 (f_va (f_nth ls 0)) (f_vi (f_nth ls 1)) (f_vi (f_nth ls 3)))))]) C qX10_findf (f_kc_cons (f_pl_ok rfl (fun ls st M2 ⟨e, hh⟩ => by subst e; exact h2 _ _ _ hh)) f_kc_nil) 62 0 h
def WX10_find_47 (M : e_M) (H38 : Nat → Int → Int → Prop) (Q : Int → Prop) : Nat → Nat → Int → Int → Int → Prop
  | 0, _, _, _, _ => False
  | n + 1, a0, x1, x3, x4 =>
    VX10_find_47 H38 (WX10_find_47 M H38 Q n) Q a0 x1 x3 x4 M
def WX10_find_38 (M : e_M) (Q : Int → Prop) : Nat → Nat → Int → Int → Prop
  | 0, _, _, _ => False
  | n + 1, a0, x1, x3 =>
    VX10_find_38 (fun a0 x1 x3 x4 => ∃ j, WX10_find_47 M (WX10_find_38 M Q n) Q j a0 x1 x3 x4) Q a0 x1 x3 M
def WX10_find_2 (M : e_M) (Q : Int → Prop) : Nat → Nat → Int → Int → Prop
  | 0, _, _, _ => False
  | n + 1, a0, x1, x3 =>
    VX10_find_2 (fun a0 x1 x3 => ∃ j, WX10_find_38 M Q j a0 x1 x3) (WX10_find_2 M Q n) Q a0 x1 x3 M
def WX10_find (a0 : Nat) (x1 : Int) (M : e_M) (Q : Int → Prop) : Prop :=
  VX10_find (fun a0 x1 x3 => ∃ j, WX10_find_2 M Q j a0 x1 x3) Q a0 x1 M
theorem PX10_find_47 {sh : Nat → Nat × Nat} {t : Nat} {rm : Nat × Nat × Nat} {cs : Nat × Nat} {R : f_Rt} {H38 : Nat → Int → Int → Prop} {M : e_M} (C : f_Hy sh t yX10_find rm cs 4 (lX10_find) R) (g38 : ∀ (a0 : Nat) (x1 : Int) (x3 : Int), H38 a0 x1 x3 → f_E sh t YX10_find rm cs (f_Q sh t R) 38 [.inr (.inr (.inl (10, 15, a0))), .inr (.inl x1), .inr (.inr (.inr ())), .inl x3, .inr (.inr (.inr ()))] [] M) : ∀ (n : Nat) (a0 : Nat) (x1 : Int) (x3 : Int) (x4 : Int), WX10_find_47 M H38 (fun r => R (some (.inl r)) M) n a0 x1 x3 x4 → f_E sh t YX10_find rm cs (f_Q sh t R) 47 [.inr (.inr (.inl (10, 15, a0))), .inr (.inl x1), .inr (.inr (.inr ())), .inl x3, .inl x4] [] M := by
  intro n
  induction n with
  | zero => intro a0 x1 x3 x4 h; exact h.elim
  | succ n ih => intro a0 x1 x3 x4 h; exact BX10_find_47 C g38 ih h
theorem PX10_find_38 {sh : Nat → Nat × Nat} {t : Nat} {rm : Nat × Nat × Nat} {cs : Nat × Nat} {R : f_Rt} {M : e_M} (C : f_Hy sh t yX10_find rm cs 4 (lX10_find) R) : ∀ (n : Nat) (a0 : Nat) (x1 : Int) (x3 : Int), WX10_find_38 M (fun r => R (some (.inl r)) M) n a0 x1 x3 → f_E sh t YX10_find rm cs (f_Q sh t R) 38 [.inr (.inr (.inl (10, 15, a0))), .inr (.inl x1), .inr (.inr (.inr ())), .inl x3, .inr (.inr (.inr ()))] [] M := by
  intro n
  induction n with
  | zero => intro a0 x1 x3 h; exact h.elim
  | succ n ih => intro a0 x1 x3 h; exact BX10_find_38 C (fun a0 x1 x3 x4 ⟨j, h⟩ => PX10_find_47 C ih j _ _ _ _ h) h
theorem PX10_find_2 {sh : Nat → Nat × Nat} {t : Nat} {rm : Nat × Nat × Nat} {cs : Nat × Nat} {R : f_Rt} {M : e_M} (C : f_Hy sh t yX10_find rm cs 4 (lX10_find) R) : ∀ (n : Nat) (a0 : Nat) (x1 : Int) (x3 : Int), WX10_find_2 M (fun r => R (some (.inl r)) M) n a0 x1 x3 → f_E sh t YX10_find rm cs (f_Q sh t R) 2 [.inr (.inr (.inl (10, 15, a0))), .inr (.inl x1), .inr (.inr (.inr ())), .inl x3, .inr (.inr (.inr ()))] [] M := by
  intro n
  induction n with
  | zero => intro a0 x1 x3 h; exact h.elim
  | succ n ih => intro a0 x1 x3 h; exact BX10_find_2 C (fun a0 x1 x3 ⟨j, h⟩ => PX10_find_38 C j _ _ _ h) ih h
theorem PX10_find {sh : Nat → Nat × Nat} {t : Nat} {rm : Nat × Nat × Nat} {cs : Nat × Nat} {R : f_Rt} {a0 : Nat} {x1 : Int} {M : e_M} (C : f_Hy sh t yX10_find rm cs 4 (lX10_find) R) (h : WX10_find a0 x1 M (fun r => R (some (.inl r)) M)) : f_E sh t YX10_find rm cs (f_Q sh t R) 0 [.inr (.inr (.inl (10, 15, a0))), .inr (.inl x1), .inr (.inr (.inr ())), .inr (.inr (.inr ())), .inr (.inr (.inr ()))] [] M :=
  BX10_find C (fun a0 x1 x3 ⟨j, h⟩ => PX10_find_2 C j _ _ _ h) h
def wX10_find : f_Wt := f_wm [(3, 10, 15), (2, 0, 0)] (fun ar M R => WX10_find (f_va (f_nth ar 0)) (f_vi (f_nth ar 1)) M (fun r => R (some (.inl r)) M))
theorem TX10_find {sh : Nat → Nat × Nat} {t : Nat} : f_Mt sh t YX10_find 4 (wX10_find) :=
  f_Mt_of (k := 2) (Nat.le_of_ble_eq_true rfl) rfl rfl (fun ar M R rm cs h1 h2 h3 hX h => PX10_find ⟨Nat.le_of_ble_eq_true rfl, h1, h2, h3, trivial, hX⟩ h)
def VX4_placeOf_2 (k2 : Nat → Int → Int → Prop) (Q : Int → Prop) (a0 : Nat) (x1 : Int) (x2 : Int) (M : e_M) : Prop :=
  (((M a0 8) ≤ x2 → (Q (-1))) ∧ (x2 < (M a0 8) → ((0 ≤ x2 ∧ x2 < 14) ∧ ((¬ (M (a0 + 6) (x2.toNat)) = x1 → (k2 a0 x1 (e_w32 (x2 + 1)))) ∧ ((M (a0 + 6) (x2.toNat)) = x1 → (Q x2))))))
def VX4_placeOf (k2 : Nat → Int → Int → Prop) (Q : Int → Prop) (a0 : Nat) (x1 : Int) (M : e_M) : Prop :=
  (k2 a0 x1 0)
def yX4_placeOf (i : Nat) : e_Y := x_get YX4_placeOf [] i
def pX4_placeOff : List x_I := [(0, 0, 1, 0, 0, 0, []), (1, 5, 1, 2, 0, 0, []), (2, 49, 0, 0, 0, 0, []), (2, 2, 1, 2, 0, 0, []), (3, 4, 1, 0, 0, 0, []), (4, 25, 4, 8, 0, 0, []), (7, 18, 28, 3, 18, 0, []), (10, 4, 1, 0, 0, 0, []), (11, 25, 4, 5, 4, 0, [(0, 20, 14), (0, 1, 6)]), (14, 2, 1, 2, 0, 0, []), (15, 27, 0, 0, 0, 0, []), (16, 2, 1, 1, 0, 0, []), (17, 18, 22, 1, 16, 0, []), (20, 2, 1, 2, 0, 0, []), (21, 41, 0, 0, 0, 0, []), (22, 8, 0, 2, 0, 1, []), (25, 19, 2, 0, 3, 0, []), (28, 0, 1, 0, 0, (-1), []), (29, 41, 0, 0, 0, 0, [])]
set_option maxRecDepth 20000 in
theorem qX4_placeOff : f_all yX4_placeOf YX4_placeOf pX4_placeOff :=
  ⟨f_iconst (e_dx DX4_placeOf_0 0 rfl) ⟨by decide, by decide⟩,
  f_istore_n (n := 2) (e_dx DX4_placeOf_0 1 rfl) rfl (by decide),
  trivial,
  f_iload_n (n := 2) (e_dx DX4_placeOf_0 2 rfl) rfl,
  f_aload_n (n := 0) (e_dx DX4_placeOf_0 3 rfl) rfl,
  f_getf (e_dx DX4_placeOf_0 4 rfl) fX4_48 rfl (by decide) (by decide) (by decide),
  f_icmp_ge (e_dx DX4_placeOf_0 5 rfl) rfl,
  f_aload_n (n := 0) (e_dx DX4_placeOf_0 6 rfl) rfl,
  f_getA (e_dx DX4_placeOf_0 7 rfl) fX4_37 rfl (by decide) (Nat.le_of_ble_eq_true rfl) rfl (by decide),
  f_iload_n (n := 2) (e_dx DX4_placeOf_0 8 rfl) rfl,
  f_iaload (e_dx DX4_placeOf_0 9 rfl),
  f_iload_n (n := 1) (e_dx DX4_placeOf_0 10 rfl) rfl,
  f_icmp_ne (e_dx DX4_placeOf_0 11 rfl) rfl,
  f_iload_n (n := 2) (e_dx DX4_placeOf_0 12 rfl) rfl,
  ⟨(e_dx DX4_placeOf_0 13 rfl), rfl⟩,
  f_g8 (e_dx DX4_placeOf_0 14 rfl) ⟨by decide, by decide⟩,
  f_g19 (e_dx DX4_placeOf_0 15 rfl) rfl,
  f_iconst (e_dx DX4_placeOf_0 16 rfl) ⟨by decide, by decide⟩,
  ⟨(e_dx DX4_placeOf_0 17 rfl), rfl⟩, trivial⟩
def lX4_placeOf : List (Nat × f_Wt) := []
set_option maxRecDepth 20000 in
theorem BX4_placeOf_2 {sh : Nat → Nat × Nat} {t : Nat} {rm : Nat × Nat × Nat} {cs : Nat × Nat} {R : f_Rt} {k2 : Nat → Int → Int → Prop} {a0 : Nat} {x1 : Int} {x2 : Int} {M : e_M} (C : f_Hy sh t yX4_placeOf rm cs 4 (lX4_placeOf) R) (h2 : ∀ (a0 : Nat) (x1 : Int) (x2 : Int), k2 a0 x1 x2 → f_E sh t YX4_placeOf rm cs (f_Q sh t R) 2 [.inr (.inr (.inl (4, 9, a0))), .inl x1, .inl x2] [] M) (h : VX4_placeOf_2 k2 (fun r => R (some (.inl r)) M) a0 x1 x2 M) : f_E sh t YX4_placeOf rm cs (f_Q sh t R) 2 [.inr (.inr (.inl (4, 9, a0))), .inl x1, .inl x2] [] M := by
  rw [f_kk3 M k2] at h
  exact f_go (KC := f_kc [(2, f_pl [(3, 4, 9), (1, 0, 0), (1, 0, 0)] [] (fun ls st M2 => M2 = M ∧ (k2 (f_va (f_nth ls 0)) (f_vi (f_nth ls 1)) (f_vi (f_nth ls 2)))))]) C qX4_placeOff (f_kc_cons (f_pl_ok rfl (fun ls st M2 ⟨e, hh⟩ => by subst e; exact h2 _ _ _ hh)) f_kc_nil) 21 3 h
set_option maxRecDepth 20000 in
theorem BX4_placeOf {sh : Nat → Nat × Nat} {t : Nat} {rm : Nat × Nat × Nat} {cs : Nat × Nat} {R : f_Rt} {k2 : Nat → Int → Int → Prop} {a0 : Nat} {x1 : Int} {M : e_M} (C : f_Hy sh t yX4_placeOf rm cs 4 (lX4_placeOf) R) (h2 : ∀ (a0 : Nat) (x1 : Int) (x2 : Int), k2 a0 x1 x2 → f_E sh t YX4_placeOf rm cs (f_Q sh t R) 2 [.inr (.inr (.inl (4, 9, a0))), .inl x1, .inl x2] [] M) (h : VX4_placeOf k2 (fun r => R (some (.inl r)) M) a0 x1 M) : f_E sh t YX4_placeOf rm cs (f_Q sh t R) 0 [.inr (.inr (.inl (4, 9, a0))), .inl x1, .inr (.inr (.inr ()))] [] M := by
  rw [f_kk3 M k2] at h
  exact f_go (KC := f_kc [(2, f_pl [(3, 4, 9), (1, 0, 0), (1, 0, 0)] [] (fun ls st M2 => M2 = M ∧ (k2 (f_va (f_nth ls 0)) (f_vi (f_nth ls 1)) (f_vi (f_nth ls 2)))))]) C qX4_placeOff (f_kc_cons (f_pl_ok rfl (fun ls st M2 ⟨e, hh⟩ => by subst e; exact h2 _ _ _ hh)) f_kc_nil) 21 0 h
def WX4_placeOf_2 (M : e_M) (Q : Int → Prop) : Nat → Nat → Int → Int → Prop
  | 0, _, _, _ => False
  | n + 1, a0, x1, x2 =>
    VX4_placeOf_2 (WX4_placeOf_2 M Q n) Q a0 x1 x2 M
def WX4_placeOf (a0 : Nat) (x1 : Int) (M : e_M) (Q : Int → Prop) : Prop :=
  VX4_placeOf (fun a0 x1 x2 => ∃ j, WX4_placeOf_2 M Q j a0 x1 x2) Q a0 x1 M
theorem PX4_placeOf_2 {sh : Nat → Nat × Nat} {t : Nat} {rm : Nat × Nat × Nat} {cs : Nat × Nat} {R : f_Rt} {M : e_M} (C : f_Hy sh t yX4_placeOf rm cs 4 (lX4_placeOf) R) : ∀ (n : Nat) (a0 : Nat) (x1 : Int) (x2 : Int), WX4_placeOf_2 M (fun r => R (some (.inl r)) M) n a0 x1 x2 → f_E sh t YX4_placeOf rm cs (f_Q sh t R) 2 [.inr (.inr (.inl (4, 9, a0))), .inl x1, .inl x2] [] M := by
  intro n
  induction n with
  | zero => intro a0 x1 x2 h; exact h.elim
  | succ n ih => intro a0 x1 x2 h; exact BX4_placeOf_2 C ih h
theorem PX4_placeOf {sh : Nat → Nat × Nat} {t : Nat} {rm : Nat × Nat × Nat} {cs : Nat × Nat} {R : f_Rt} {a0 : Nat} {x1 : Int} {M : e_M} (C : f_Hy sh t yX4_placeOf rm cs 4 (lX4_placeOf) R) (h : WX4_placeOf a0 x1 M (fun r => R (some (.inl r)) M)) : f_E sh t YX4_placeOf rm cs (f_Q sh t R) 0 [.inr (.inr (.inl (4, 9, a0))), .inl x1, .inr (.inr (.inr ()))] [] M :=
  BX4_placeOf C (fun a0 x1 x2 ⟨j, h⟩ => PX4_placeOf_2 C j _ _ _ h) h
def wX4_placeOf : f_Wt := f_wm [(3, 4, 9), (1, 0, 0)] (fun ar M R => WX4_placeOf (f_va (f_nth ar 0)) (f_vi (f_nth ar 1)) M (fun r => R (some (.inl r)) M))
theorem TX4_placeOf {sh : Nat → Nat × Nat} {t : Nat} : f_Mt sh t YX4_placeOf 4 (wX4_placeOf) :=
  f_Mt_of (k := 1) (Nat.le_of_ble_eq_true rfl) rfl rfl (fun ar M R rm cs h1 h2 h3 hX h => PX4_placeOf ⟨Nat.le_of_ble_eq_true rfl, h1, h2, h3, trivial, hX⟩ h)
def VX8_find_2 (k2 : Nat → Int → Int → Prop) (Q : Int → Prop) (a0 : Nat) (x1 : Int) (x2 : Int) (M : e_M) : Prop :=
  (((M a0 1) ≤ x2 → (Q (-1))) ∧ (x2 < (M a0 1) → ((0 ≤ x2 ∧ x2 < 8) ∧ ((¬ (M (a0 + 1) (x2.toNat)) = x1 → (k2 a0 x1 (e_w32 (x2 + 1)))) ∧ ((M (a0 + 1) (x2.toNat)) = x1 → (Q x2))))))
def VX8_find (k2 : Nat → Int → Int → Prop) (Q : Int → Prop) (a0 : Nat) (x1 : Int) (M : e_M) : Prop :=
  (k2 a0 x1 0)
def yX8_find (i : Nat) : e_Y := x_get YX8_find [] i
def pX8_findf : List x_I := [(0, 0, 1, 0, 0, 0, []), (1, 5, 1, 2, 0, 0, []), (2, 49, 0, 0, 0, 0, []), (2, 2, 1, 2, 0, 0, []), (3, 4, 1, 0, 0, 0, []), (4, 25, 8, 1, 0, 0, []), (7, 18, 28, 3, 18, 0, []), (10, 4, 1, 0, 0, 0, []), (11, 25, 8, 0, 4, 0, [(0, 20, 8), (0, 1, 1)]), (14, 2, 1, 2, 0, 0, []), (15, 27, 0, 0, 0, 0, []), (16, 2, 1, 1, 0, 0, []), (17, 18, 22, 1, 16, 0, []), (20, 2, 1, 2, 0, 0, []), (21, 41, 0, 0, 0, 0, []), (22, 8, 0, 2, 0, 1, []), (25, 19, 2, 0, 3, 0, []), (28, 0, 1, 0, 0, (-1), []), (29, 41, 0, 0, 0, 0, [])]
set_option maxRecDepth 20000 in
theorem qX8_findf : f_all yX8_find YX8_find pX8_findf :=
  ⟨f_iconst (e_dx DX8_find_0 0 rfl) ⟨by decide, by decide⟩,
  f_istore_n (n := 2) (e_dx DX8_find_0 1 rfl) rfl (by decide),
  trivial,
  f_iload_n (n := 2) (e_dx DX8_find_0 2 rfl) rfl,
  f_aload_n (n := 0) (e_dx DX8_find_0 3 rfl) rfl,
  f_getf (e_dx DX8_find_0 4 rfl) fX8_15 rfl (by decide) (by decide) (by decide),
  f_icmp_ge (e_dx DX8_find_0 5 rfl) rfl,
  f_aload_n (n := 0) (e_dx DX8_find_0 6 rfl) rfl,
  f_getA (e_dx DX8_find_0 7 rfl) fX8_9 rfl (by decide) (Nat.le_of_ble_eq_true rfl) rfl (by decide),
  f_iload_n (n := 2) (e_dx DX8_find_0 8 rfl) rfl,
  f_iaload (e_dx DX8_find_0 9 rfl),
  f_iload_n (n := 1) (e_dx DX8_find_0 10 rfl) rfl,
  f_icmp_ne (e_dx DX8_find_0 11 rfl) rfl,
  f_iload_n (n := 2) (e_dx DX8_find_0 12 rfl) rfl,
  ⟨(e_dx DX8_find_0 13 rfl), rfl⟩,
  f_g8 (e_dx DX8_find_0 14 rfl) ⟨by decide, by decide⟩,
  f_g19 (e_dx DX8_find_0 15 rfl) rfl,
  f_iconst (e_dx DX8_find_0 16 rfl) ⟨by decide, by decide⟩,
  ⟨(e_dx DX8_find_0 17 rfl), rfl⟩, trivial⟩
def lX8_find : List (Nat × f_Wt) := []
set_option maxRecDepth 20000 in
theorem BX8_find_2 {sh : Nat → Nat × Nat} {t : Nat} {rm : Nat × Nat × Nat} {cs : Nat × Nat} {R : f_Rt} {k2 : Nat → Int → Int → Prop} {a0 : Nat} {x1 : Int} {x2 : Int} {M : e_M} (C : f_Hy sh t yX8_find rm cs 4 (lX8_find) R) (h2 : ∀ (a0 : Nat) (x1 : Int) (x2 : Int), k2 a0 x1 x2 → f_E sh t YX8_find rm cs (f_Q sh t R) 2 [.inr (.inr (.inl (8, 2, a0))), .inl x1, .inl x2] [] M) (h : VX8_find_2 k2 (fun r => R (some (.inl r)) M) a0 x1 x2 M) : f_E sh t YX8_find rm cs (f_Q sh t R) 2 [.inr (.inr (.inl (8, 2, a0))), .inl x1, .inl x2] [] M := by
  rw [f_kk3 M k2] at h
  exact f_go (KC := f_kc [(2, f_pl [(3, 8, 2), (1, 0, 0), (1, 0, 0)] [] (fun ls st M2 => M2 = M ∧ (k2 (f_va (f_nth ls 0)) (f_vi (f_nth ls 1)) (f_vi (f_nth ls 2)))))]) C qX8_findf (f_kc_cons (f_pl_ok rfl (fun ls st M2 ⟨e, hh⟩ => by subst e; exact h2 _ _ _ hh)) f_kc_nil) 21 3 h
set_option maxRecDepth 20000 in
theorem BX8_find {sh : Nat → Nat × Nat} {t : Nat} {rm : Nat × Nat × Nat} {cs : Nat × Nat} {R : f_Rt} {k2 : Nat → Int → Int → Prop} {a0 : Nat} {x1 : Int} {M : e_M} (C : f_Hy sh t yX8_find rm cs 4 (lX8_find) R) (h2 : ∀ (a0 : Nat) (x1 : Int) (x2 : Int), k2 a0 x1 x2 → f_E sh t YX8_find rm cs (f_Q sh t R) 2 [.inr (.inr (.inl (8, 2, a0))), .inl x1, .inl x2] [] M) (h : VX8_find k2 (fun r => R (some (.inl r)) M) a0 x1 M) : f_E sh t YX8_find rm cs (f_Q sh t R) 0 [.inr (.inr (.inl (8, 2, a0))), .inl x1, .inr (.inr (.inr ()))] [] M := by
  rw [f_kk3 M k2] at h
  exact f_go (KC := f_kc [(2, f_pl [(3, 8, 2), (1, 0, 0), (1, 0, 0)] [] (fun ls st M2 => M2 = M ∧ (k2 (f_va (f_nth ls 0)) (f_vi (f_nth ls 1)) (f_vi (f_nth ls 2)))))]) C qX8_findf (f_kc_cons (f_pl_ok rfl (fun ls st M2 ⟨e, hh⟩ => by subst e; exact h2 _ _ _ hh)) f_kc_nil) 21 0 h
def WX8_find_2 (M : e_M) (Q : Int → Prop) : Nat → Nat → Int → Int → Prop
  | 0, _, _, _ => False
  | n + 1, a0, x1, x2 =>
    VX8_find_2 (WX8_find_2 M Q n) Q a0 x1 x2 M
def WX8_find (a0 : Nat) (x1 : Int) (M : e_M) (Q : Int → Prop) : Prop :=
  VX8_find (fun a0 x1 x2 => ∃ j, WX8_find_2 M Q j a0 x1 x2) Q a0 x1 M
theorem PX8_find_2 {sh : Nat → Nat × Nat} {t : Nat} {rm : Nat × Nat × Nat} {cs : Nat × Nat} {R : f_Rt} {M : e_M} (C : f_Hy sh t yX8_find rm cs 4 (lX8_find) R) : ∀ (n : Nat) (a0 : Nat) (x1 : Int) (x2 : Int), WX8_find_2 M (fun r => R (some (.inl r)) M) n a0 x1 x2 → f_E sh t YX8_find rm cs (f_Q sh t R) 2 [.inr (.inr (.inl (8, 2, a0))), .inl x1, .inl x2] [] M := by
  intro n
  induction n with
  | zero => intro a0 x1 x2 h; exact h.elim
  | succ n ih => intro a0 x1 x2 h; exact BX8_find_2 C ih h
theorem PX8_find {sh : Nat → Nat × Nat} {t : Nat} {rm : Nat × Nat × Nat} {cs : Nat × Nat} {R : f_Rt} {a0 : Nat} {x1 : Int} {M : e_M} (C : f_Hy sh t yX8_find rm cs 4 (lX8_find) R) (h : WX8_find a0 x1 M (fun r => R (some (.inl r)) M)) : f_E sh t YX8_find rm cs (f_Q sh t R) 0 [.inr (.inr (.inl (8, 2, a0))), .inl x1, .inr (.inr (.inr ()))] [] M :=
  BX8_find C (fun a0 x1 x2 ⟨j, h⟩ => PX8_find_2 C j _ _ _ h) h
def wX8_find : f_Wt := f_wm [(3, 8, 2), (1, 0, 0)] (fun ar M R => WX8_find (f_va (f_nth ar 0)) (f_vi (f_nth ar 1)) M (fun r => R (some (.inl r)) M))
theorem TX8_find {sh : Nat → Nat × Nat} {t : Nat} : f_Mt sh t YX8_find 4 (wX8_find) :=
  f_Mt_of (k := 1) (Nat.le_of_ble_eq_true rfl) rfl rfl (fun ar M R rm cs h1 h2 h3 hX h => PX8_find ⟨Nat.le_of_ble_eq_true rfl, h1, h2, h3, trivial, hX⟩ h)
def VX8_insert_27 (k27 : Nat → Int → Int → Int → e_M → Prop) (Q : e_M → Prop) (a0 : Nat) (x1 : Int) (x2 : Int) (x3 : Int) (M : e_M) : Prop :=
  ((x3 ≤ x1 → ((0 ≤ x1 ∧ x1 < 8) ∧ (∀ M1 : e_M, M1 = e_up M (a0 + 1) (x1.toNat) x2 → (∀ M2 : e_M, M2 = e_up M1 a0 1 (e_w32 ((M1 a0 1) + 1)) → (Q M2))))) ∧ (x1 < x3 → ((0 ≤ (e_w32 (x3 - 1)) ∧ (e_w32 (x3 - 1)) < 8) ∧ ((0 ≤ x3 ∧ x3 < 8) ∧ (∀ M3 : e_M, M3 = e_up M (a0 + 1) (x3.toNat) (M (a0 + 1) ((e_w32 (x3 - 1)).toNat)) → (k27 a0 x1 x2 (e_w32 (x3 + (-1))) M3))))))
def VX8_insert (k27 : Nat → Int → Int → Int → e_M → Prop) (Q : e_M → Prop) (a0 : Nat) (x1 : Int) (x2 : Int) (M : e_M) : Prop :=
  ((x1 < 0 → (Q M)) ∧ (0 ≤ x1 → (((M a0 1) < x1 → (Q M)) ∧ (x1 ≤ (M a0 1) → (((M a0 1) < 8 → (k27 a0 x1 x2 (M a0 1) M)) ∧ (8 ≤ (M a0 1) → (Q M)))))))
def yX8_insert (i : Nat) : e_Y := x_get YX8_insert [] i
def pX8_insertf : List x_I := [(0, 2, 1, 1, 0, 0, []), (1, 17, 21, 2, 11, 0, []), (4, 2, 1, 1, 0, 0, []), (5, 4, 1, 0, 0, 0, []), (6, 25, 8, 1, 0, 0, []), (9, 18, 21, 4, 11, 0, []), (12, 4, 1, 0, 0, 0, []), (13, 25, 8, 1, 0, 0, []), (16, 0, 2, 0, 0, 8, []), (18, 18, 22, 2, 12, 0, []), (21, 44, 0, 0, 0, 0, []), (22, 4, 1, 0, 0, 0, []), (23, 25, 8, 1, 0, 0, []), (26, 5, 1, 3, 0, 0, []), (27, 49, 0, 0, 0, 0, []), (27, 2, 1, 3, 0, 0, []), (28, 2, 1, 1, 0, 0, []), (29, 18, 52, 5, 31, 0, []), (32, 4, 1, 0, 0, 0, []), (33, 25, 8, 0, 4, 0, [(0, 20, 8), (0, 1, 1)]), (36, 2, 1, 3, 0, 0, []), (37, 4, 1, 0, 0, 0, []), (38, 25, 8, 0, 4, 0, [(0, 20, 8), (0, 1, 1)]), (41, 2, 1, 3, 0, 0, []), (42, 0, 1, 0, 0, 1, []), (43, 9, 0, 1, 0, 0, []), (44, 27, 0, 0, 0, 0, []), (45, 28, 0, 0, 0, 0, []), (46, 8, 0, 3, 0, (-1), []), (49, 19, 27, 0, 15, 0, []), (52, 4, 1, 0, 0, 0, []), (53, 25, 8, 0, 4, 0, [(0, 20, 8), (0, 1, 1)]), (56, 2, 1, 1, 0, 0, []), (57, 2, 1, 2, 0, 0, []), (58, 28, 0, 0, 0, 0, []), (59, 4, 1, 0, 0, 0, []), (60, 20, 0, 0, 0, 0, []), (61, 25, 8, 1, 0, 0, []), (64, 0, 1, 0, 0, 1, []), (65, 9, 0, 0, 0, 0, []), (66, 26, 8, 1, 0, 0, []), (69, 44, 0, 0, 0, 0, [])]
set_option maxRecDepth 20000 in
theorem qX8_insertf : f_all yX8_insert YX8_insert pX8_insertf :=
  ⟨f_iload_n (n := 1) (e_dx DX8_insert_0 0 rfl) rfl,
  f_if_lt (e_dx DX8_insert_0 1 rfl) rfl,
  f_iload_n (n := 1) (e_dx DX8_insert_0 2 rfl) rfl,
  f_aload_n (n := 0) (e_dx DX8_insert_0 3 rfl) rfl,
  f_getf (e_dx DX8_insert_0 4 rfl) fX8_15 rfl (by decide) (by decide) (by decide),
  f_icmp_gt (e_dx DX8_insert_0 5 rfl) rfl,
  f_aload_n (n := 0) (e_dx DX8_insert_0 6 rfl) rfl,
  f_getf (e_dx DX8_insert_0 7 rfl) fX8_15 rfl (by decide) (by decide) (by decide),
  f_bipush (e_dx DX8_insert_0 8 rfl) ⟨by decide, by decide⟩,
  f_icmp_lt (e_dx DX8_insert_0 9 rfl) rfl,
  ⟨(e_dx DX8_insert_0 10 rfl), rfl⟩,
  f_aload_n (n := 0) (e_dx DX8_insert_0 11 rfl) rfl,
  f_getf (e_dx DX8_insert_0 12 rfl) fX8_15 rfl (by decide) (by decide) (by decide),
  f_istore_n (n := 3) (e_dx DX8_insert_0 13 rfl) rfl (by decide),
  trivial,
  f_iload_n (n := 3) (e_dx DX8_insert_0 14 rfl) rfl,
  f_iload_n (n := 1) (e_dx DX8_insert_0 15 rfl) rfl,
  f_icmp_le (e_dx DX8_insert_0 16 rfl) rfl,
  f_aload_n (n := 0) (e_dx DX8_insert_0 17 rfl) rfl,
  f_getA (e_dx DX8_insert_0 18 rfl) fX8_9 rfl (by decide) (Nat.le_of_ble_eq_true rfl) rfl (by decide),
  f_iload_n (n := 3) (e_dx DX8_insert_0 19 rfl) rfl,
  f_aload_n (n := 0) (e_dx DX8_insert_0 20 rfl) rfl,
  f_getA (e_dx DX8_insert_0 21 rfl) fX8_9 rfl (by decide) (Nat.le_of_ble_eq_true rfl) rfl (by decide),
  f_iload_n (n := 3) (e_dx DX8_insert_0 22 rfl) rfl,
  f_iconst (e_dx DX8_insert_0 23 rfl) ⟨by decide, by decide⟩,
  f_isub (e_dx DX8_insert_0 24 rfl),
  f_iaload (e_dx DX8_insert_0 25 rfl),
  f_iastore (e_dx DX8_insert_0 26 rfl),
  f_g8 (e_dx DX8_insert_0 27 rfl) ⟨by decide, by decide⟩,
  f_g19 (e_dx DX8_insert_0 28 rfl) rfl,
  f_aload_n (n := 0) (e_dx DX8_insert_0 29 rfl) rfl,
  f_getA (e_dx DX8_insert_0 30 rfl) fX8_9 rfl (by decide) (Nat.le_of_ble_eq_true rfl) rfl (by decide),
  f_iload_n (n := 1) (e_dx DX8_insert_0 31 rfl) rfl,
  f_iload_n (n := 2) (e_dx DX8_insert_0 32 rfl) rfl,
  f_iastore (e_dx DX8_insert_0 33 rfl),
  f_aload_n (n := 0) (e_dx DX8_insert_0 34 rfl) rfl,
  f_g20 (e_dx DX8_insert_0 35 rfl),
  f_getf (e_dx DX8_insert_0 36 rfl) fX8_15 rfl (by decide) (by decide) (by decide),
  f_iconst (e_dx DX8_insert_0 37 rfl) ⟨by decide, by decide⟩,
  f_iadd (e_dx DX8_insert_0 38 rfl),
  f_putn (e_dx DX8_insert_0 39 rfl) fX8_15 (fun q hq => by cases hq; rfl) rfl (Or.inl rfl) (by decide),
  ⟨(e_dx DX8_insert_1 0 rfl), rfl⟩, trivial⟩
def lX8_insert : List (Nat × f_Wt) := []
set_option maxRecDepth 20000 in
theorem BX8_insert_27 {sh : Nat → Nat × Nat} {t : Nat} {rm : Nat × Nat × Nat} {cs : Nat × Nat} {R : f_Rt} {k27 : Nat → Int → Int → Int → e_M → Prop} {a0 : Nat} {x1 : Int} {x2 : Int} {x3 : Int} {M : e_M} (C : f_Hy sh t yX8_insert rm cs 4 (lX8_insert) R) (h27 : ∀ (a0 : Nat) (x1 : Int) (x2 : Int) (x3 : Int) (M : e_M), k27 a0 x1 x2 x3 M → f_E sh t YX8_insert rm cs (f_Q sh t R) 27 [.inr (.inr (.inl (8, 2, a0))), .inl x1, .inl x2, .inl x3] [] M) (h : VX8_insert_27 k27 (fun M => R none M) a0 x1 x2 x3 M) : f_E sh t YX8_insert rm cs (f_Q sh t R) 27 [.inr (.inr (.inl (8, 2, a0))), .inl x1, .inl x2, .inl x3] [] M :=
  f_go (KC := f_kc [(27, f_pl [(3, 8, 2), (1, 0, 0), (1, 0, 0), (1, 0, 0)] [] (fun ls st M => k27 (f_va (f_nth ls 0)) (f_vi (f_nth ls 1)) (f_vi (f_nth ls 2)) (f_vi (f_nth ls 3)) M))]) C qX8_insertf (f_kc_cons (f_pl_ok rfl (fun ls st M h => h27 _ _ _ _ M h)) f_kc_nil) 44 15 h
set_option maxRecDepth 20000 in
theorem BX8_insert {sh : Nat → Nat × Nat} {t : Nat} {rm : Nat × Nat × Nat} {cs : Nat × Nat} {R : f_Rt} {k27 : Nat → Int → Int → Int → e_M → Prop} {a0 : Nat} {x1 : Int} {x2 : Int} {M : e_M} (C : f_Hy sh t yX8_insert rm cs 4 (lX8_insert) R) (h27 : ∀ (a0 : Nat) (x1 : Int) (x2 : Int) (x3 : Int) (M : e_M), k27 a0 x1 x2 x3 M → f_E sh t YX8_insert rm cs (f_Q sh t R) 27 [.inr (.inr (.inl (8, 2, a0))), .inl x1, .inl x2, .inl x3] [] M) (h : VX8_insert k27 (fun M => R none M) a0 x1 x2 M) : f_E sh t YX8_insert rm cs (f_Q sh t R) 0 [.inr (.inr (.inl (8, 2, a0))), .inl x1, .inl x2, .inr (.inr (.inr ()))] [] M :=
  f_go (KC := f_kc [(27, f_pl [(3, 8, 2), (1, 0, 0), (1, 0, 0), (1, 0, 0)] [] (fun ls st M => k27 (f_va (f_nth ls 0)) (f_vi (f_nth ls 1)) (f_vi (f_nth ls 2)) (f_vi (f_nth ls 3)) M))]) C qX8_insertf (f_kc_cons (f_pl_ok rfl (fun ls st M h => h27 _ _ _ _ M h)) f_kc_nil) 44 0 h
def WX8_insert_27 (Q : e_M → Prop) : Nat → Nat → Int → Int → Int → e_M → Prop
  | 0, _, _, _, _, _ => False
  | n + 1, a0, x1, x2, x3, M =>
    VX8_insert_27 (WX8_insert_27 Q n) Q a0 x1 x2 x3 M
def WX8_insert (a0 : Nat) (x1 : Int) (x2 : Int) (M : e_M) (Q : e_M → Prop) : Prop :=
  VX8_insert (fun a0 x1 x2 x3 M => ∃ j, WX8_insert_27 Q j a0 x1 x2 x3 M) Q a0 x1 x2 M
theorem PX8_insert_27 {sh : Nat → Nat × Nat} {t : Nat} {rm : Nat × Nat × Nat} {cs : Nat × Nat} {R : f_Rt} (C : f_Hy sh t yX8_insert rm cs 4 (lX8_insert) R) : ∀ (n : Nat) (a0 : Nat) (x1 : Int) (x2 : Int) (x3 : Int) (M : e_M), WX8_insert_27 (fun M => R none M) n a0 x1 x2 x3 M → f_E sh t YX8_insert rm cs (f_Q sh t R) 27 [.inr (.inr (.inl (8, 2, a0))), .inl x1, .inl x2, .inl x3] [] M := by
  intro n
  induction n with
  | zero => intro a0 x1 x2 x3 M h; exact h.elim
  | succ n ih => intro a0 x1 x2 x3 M h; exact BX8_insert_27 C ih h
theorem PX8_insert {sh : Nat → Nat × Nat} {t : Nat} {rm : Nat × Nat × Nat} {cs : Nat × Nat} {R : f_Rt} {a0 : Nat} {x1 : Int} {x2 : Int} {M : e_M} (C : f_Hy sh t yX8_insert rm cs 4 (lX8_insert) R) (h : WX8_insert a0 x1 x2 M (fun M => R none M)) : f_E sh t YX8_insert rm cs (f_Q sh t R) 0 [.inr (.inr (.inl (8, 2, a0))), .inl x1, .inl x2, .inr (.inr (.inr ()))] [] M :=
  BX8_insert C (fun a0 x1 x2 x3 M ⟨j, h⟩ => PX8_insert_27 C j _ _ _ _ _ h) h
def wX8_insert : f_Wt := f_wm [(3, 8, 2), (1, 0, 0), (1, 0, 0)] (fun ar M R => WX8_insert (f_va (f_nth ar 0)) (f_vi (f_nth ar 1)) (f_vi (f_nth ar 2)) M (fun M => R none M))
theorem TX8_insert {sh : Nat → Nat × Nat} {t : Nat} : f_Mt sh t YX8_insert 4 (wX8_insert) :=
  f_Mt_of (k := 1) (Nat.le_of_ble_eq_true rfl) rfl rfl (fun ar M R rm cs h1 h2 h3 hX h => PX8_insert ⟨Nat.le_of_ble_eq_true rfl, h1, h2, h3, trivial, hX⟩ h)
def VX12_turn (Q : Int → Prop) (x0 : Int) (x2 : Int) (x4 : Int) (x6 : Int) (x8 : Int) (x10 : Int) (M : e_M) : Prop :=
  (Q (e_w64 ((e_w64 ((e_w64 (x4 - x0)) * (e_w64 (x10 - x2)))) - (e_w64 ((e_w64 (x6 - x2)) * (e_w64 (x8 - x0)))))))
def yX12_turn (i : Nat) : e_Y := x_get YX12_turn [] i
def pX12_turnf : List x_I := [(0, 3, 2, 4, 0, 0, []), (2, 3, 1, 0, 0, 0, []), (3, 10, 0, 1, 0, 0, []), (4, 3, 2, 10, 0, 0, []), (6, 3, 1, 2, 0, 0, []), (7, 10, 0, 1, 0, 0, []), (8, 10, 0, 2, 0, 0, []), (9, 3, 2, 6, 0, 0, []), (11, 3, 1, 2, 0, 0, []), (12, 10, 0, 1, 0, 0, []), (13, 3, 2, 8, 0, 0, []), (15, 3, 1, 0, 0, 0, []), (16, 10, 0, 1, 0, 0, []), (17, 10, 0, 2, 0, 0, []), (18, 10, 0, 1, 0, 0, []), (19, 43, 0, 0, 0, 0, [])]
set_option maxRecDepth 20000 in
theorem qX12_turnf : f_all yX12_turn YX12_turn pX12_turnf :=
  ⟨f_lload (e_dx DX12_turn_0 0 rfl),
  f_lload_n (n := 0) (e_dx DX12_turn_0 1 rfl) rfl,
  f_lsub (e_dx DX12_turn_0 2 rfl),
  f_lload (e_dx DX12_turn_0 3 rfl),
  f_lload_n (n := 2) (e_dx DX12_turn_0 4 rfl) rfl,
  f_lsub (e_dx DX12_turn_0 5 rfl),
  f_lmul (e_dx DX12_turn_0 6 rfl),
  f_lload (e_dx DX12_turn_0 7 rfl),
  f_lload_n (n := 2) (e_dx DX12_turn_0 8 rfl) rfl,
  f_lsub (e_dx DX12_turn_0 9 rfl),
  f_lload (e_dx DX12_turn_0 10 rfl),
  f_lload_n (n := 0) (e_dx DX12_turn_0 11 rfl) rfl,
  f_lsub (e_dx DX12_turn_0 12 rfl),
  f_lmul (e_dx DX12_turn_0 13 rfl),
  f_lsub (e_dx DX12_turn_0 14 rfl),
  ⟨(e_dx DX12_turn_0 15 rfl), rfl⟩, trivial⟩
def lX12_turn : List (Nat × f_Wt) := []
set_option maxRecDepth 20000 in
theorem BX12_turn {sh : Nat → Nat × Nat} {t : Nat} {rm : Nat × Nat × Nat} {cs : Nat × Nat} {R : f_Rt} {x0 : Int} {x2 : Int} {x4 : Int} {x6 : Int} {x8 : Int} {x10 : Int} {M : e_M} (C : f_Hy sh t yX12_turn rm cs 4 (lX12_turn) R) (h : VX12_turn (fun r => R (some (.inr (.inl r))) M) x0 x2 x4 x6 x8 x10 M) : f_E sh t YX12_turn rm cs (f_Q sh t R) 0 [.inr (.inl x0), .inr (.inr (.inr ())), .inr (.inl x2), .inr (.inr (.inr ())), .inr (.inl x4), .inr (.inr (.inr ())), .inr (.inl x6), .inr (.inr (.inr ())), .inr (.inl x8), .inr (.inr (.inr ())), .inr (.inl x10), .inr (.inr (.inr ()))] [] M :=
  f_go (KC := f_kc []) C qX12_turnf f_kc_nil 18 0 h
def WX12_turn (x0 : Int) (x2 : Int) (x4 : Int) (x6 : Int) (x8 : Int) (x10 : Int) (M : e_M) (Q : Int → Prop) : Prop :=
  VX12_turn Q x0 x2 x4 x6 x8 x10 M
theorem PX12_turn {sh : Nat → Nat × Nat} {t : Nat} {rm : Nat × Nat × Nat} {cs : Nat × Nat} {R : f_Rt} {x0 : Int} {x2 : Int} {x4 : Int} {x6 : Int} {x8 : Int} {x10 : Int} {M : e_M} (C : f_Hy sh t yX12_turn rm cs 4 (lX12_turn) R) (h : WX12_turn x0 x2 x4 x6 x8 x10 M (fun r => R (some (.inr (.inl r))) M)) : f_E sh t YX12_turn rm cs (f_Q sh t R) 0 [.inr (.inl x0), .inr (.inr (.inr ())), .inr (.inl x2), .inr (.inr (.inr ())), .inr (.inl x4), .inr (.inr (.inr ())), .inr (.inl x6), .inr (.inr (.inr ())), .inr (.inl x8), .inr (.inr (.inr ())), .inr (.inl x10), .inr (.inr (.inr ()))] [] M :=
  BX12_turn C h
def wX12_turn : f_Wt := f_wm [(2, 0, 0), (2, 0, 0), (2, 0, 0), (2, 0, 0), (2, 0, 0), (2, 0, 0)] (fun ar M R => WX12_turn (f_vi (f_nth ar 0)) (f_vi (f_nth ar 1)) (f_vi (f_nth ar 2)) (f_vi (f_nth ar 3)) (f_vi (f_nth ar 4)) (f_vi (f_nth ar 5)) M (fun r => R (some (.inr (.inl r))) M))
theorem TX12_turn {sh : Nat → Nat × Nat} {t : Nat} : f_Mt sh t YX12_turn 4 (wX12_turn) :=
  f_Mt_of (k := 0) (Nat.le_of_ble_eq_true rfl) rfl rfl (fun ar M R rm cs h1 h2 h3 hX h => PX12_turn ⟨Nat.le_of_ble_eq_true rfl, h1, h2, h3, trivial, hX⟩ h)
def VX12_within_24 (Q : Int → Prop) (M : e_M) : Prop :=
  (Q 0)
def VX12_within (k24 : Prop) (Q : Int → Prop) (x0 : Int) (x2 : Int) (x4 : Int) (M : e_M) : Prop :=
  ((x2 ≤ x0 → ((x4 < x2 → (Q 0)) ∧ (x2 ≤ x4 → ((x0 < x4 → (Q 0)) ∧ (x4 ≤ x0 → (Q 1)))))) ∧ (x0 < x2 → ((x4 < x0 → (k24)) ∧ (x0 ≤ x4 → ((x2 < x4 → (k24)) ∧ (x4 ≤ x2 → (Q 1)))))))
def yX12_within (i : Nat) : e_Y := x_get YX12_within [] i
def pX12_withinf : List x_I := [(0, 3, 1, 0, 0, 0, []), (1, 3, 1, 2, 0, 0, []), (2, 32, 28, 3, 15, 0, []), (6, 3, 1, 0, 0, 0, []), (7, 3, 2, 4, 0, 0, []), (9, 32, 24, 4, 12, 0, []), (13, 3, 2, 4, 0, 0, []), (15, 3, 1, 2, 0, 0, []), (16, 32, 24, 4, 12, 0, []), (20, 0, 1, 0, 0, 1, []), (21, 19, 47, 0, 24, 0, []), (24, 49, 0, 0, 0, 0, []), (24, 0, 1, 0, 0, 0, []), (25, 19, 47, 0, 24, 0, []), (28, 3, 1, 2, 0, 0, []), (29, 3, 2, 4, 0, 0, []), (31, 32, 46, 4, 23, 0, []), (35, 3, 2, 4, 0, 0, []), (37, 3, 1, 0, 0, 0, []), (38, 32, 46, 4, 23, 0, []), (42, 0, 1, 0, 0, 1, []), (43, 19, 47, 0, 24, 0, []), (46, 0, 1, 0, 0, 0, []), (47, 48, 0, 0, 0, 0, [])]
set_option maxRecDepth 20000 in
theorem qX12_withinf : f_all yX12_within YX12_within pX12_withinf :=
  ⟨f_lload_n (n := 0) (e_dx DX12_within_0 0 rfl) rfl,
  f_lload_n (n := 2) (e_dx DX12_within_0 1 rfl) rfl,
  f_lif_ge (e_dx DX12_within_0 2 rfl) (e_dx DX12_within_0 3 rfl) rfl,
  f_lload_n (n := 0) (e_dx DX12_within_0 4 rfl) rfl,
  f_lload (e_dx DX12_within_0 5 rfl),
  f_lif_gt (e_dx DX12_within_0 6 rfl) (e_dx DX12_within_0 7 rfl) rfl,
  f_lload (e_dx DX12_within_0 8 rfl),
  f_lload_n (n := 2) (e_dx DX12_within_0 9 rfl) rfl,
  f_lif_gt (e_dx DX12_within_0 10 rfl) (e_dx DX12_within_0 11 rfl) rfl,
  f_iconst (e_dx DX12_within_0 12 rfl) ⟨by decide, by decide⟩,
  f_g19 (e_dx DX12_within_0 13 rfl) rfl,
  trivial,
  f_iconst (e_dx DX12_within_0 14 rfl) ⟨by decide, by decide⟩,
  f_g19 (e_dx DX12_within_0 15 rfl) rfl,
  f_lload_n (n := 2) (e_dx DX12_within_0 16 rfl) rfl,
  f_lload (e_dx DX12_within_0 17 rfl),
  f_lif_gt (e_dx DX12_within_0 18 rfl) (e_dx DX12_within_0 19 rfl) rfl,
  f_lload (e_dx DX12_within_0 20 rfl),
  f_lload_n (n := 0) (e_dx DX12_within_0 21 rfl) rfl,
  f_lif_gt (e_dx DX12_within_0 22 rfl) (e_dx DX12_within_0 23 rfl) rfl,
  f_iconst (e_dx DX12_within_0 24 rfl) ⟨by decide, by decide⟩,
  f_g19 (e_dx DX12_within_0 25 rfl) rfl,
  f_iconst (e_dx DX12_within_0 26 rfl) ⟨by decide, by decide⟩,
  ⟨(e_dx DX12_within_0 27 rfl), rfl⟩, trivial⟩
def lX12_within : List (Nat × f_Wt) := []
set_option maxRecDepth 20000 in
theorem BX12_within_24 {sh : Nat → Nat × Nat} {t : Nat} {rm : Nat × Nat × Nat} {cs : Nat × Nat} {R : f_Rt} {M : e_M} (C : f_Hy sh t yX12_within rm cs 4 (lX12_within) R) (h : VX12_within_24 (fun r => R (some (.inl r)) M) M) : f_E sh t YX12_within rm cs (f_Q sh t R) 24 [.inr (.inr (.inr ())), .inr (.inr (.inr ())), .inr (.inr (.inr ())), .inr (.inr (.inr ())), .inr (.inr (.inr ())), .inr (.inr (.inr ()))] [] M :=
  f_go (KC := f_kc []) C qX12_withinf f_kc_nil 26 12 h
set_option maxRecDepth 20000 in
theorem BX12_within {sh : Nat → Nat × Nat} {t : Nat} {rm : Nat × Nat × Nat} {cs : Nat × Nat} {R : f_Rt} {k24 : Prop} {x0 : Int} {x2 : Int} {x4 : Int} {M : e_M} (C : f_Hy sh t yX12_within rm cs 4 (lX12_within) R) (h24 : k24 → f_E sh t YX12_within rm cs (f_Q sh t R) 24 [.inr (.inr (.inr ())), .inr (.inr (.inr ())), .inr (.inr (.inr ())), .inr (.inr (.inr ())), .inr (.inr (.inr ())), .inr (.inr (.inr ()))] [] M) (h : VX12_within k24 (fun r => R (some (.inl r)) M) x0 x2 x4 M) : f_E sh t YX12_within rm cs (f_Q sh t R) 0 [.inr (.inl x0), .inr (.inr (.inr ())), .inr (.inl x2), .inr (.inr (.inr ())), .inr (.inl x4), .inr (.inr (.inr ()))] [] M := by
  rw [f_kk0 M k24] at h
  exact f_go (KC := f_kc [(24, f_pl [(0, 0, 0), (0, 0, 0), (0, 0, 0), (0, 0, 0), (0, 0, 0), (0, 0, 0)] [] (fun ls st M2 => M2 = M ∧ (k24)))]) C qX12_withinf (f_kc_cons (f_pl_ok rfl (fun ls st M2 ⟨e, hh⟩ => by subst e; exact h24  hh)) f_kc_nil) 26 0 h
def WX12_within_24 (M : e_M) (Q : Int → Prop) : Prop :=
  VX12_within_24 Q M
def WX12_within (x0 : Int) (x2 : Int) (x4 : Int) (M : e_M) (Q : Int → Prop) : Prop :=
  VX12_within (WX12_within_24 M Q) Q x0 x2 x4 M
theorem PX12_within_24 {sh : Nat → Nat × Nat} {t : Nat} {rm : Nat × Nat × Nat} {cs : Nat × Nat} {R : f_Rt} {M : e_M} (C : f_Hy sh t yX12_within rm cs 4 (lX12_within) R) (h : WX12_within_24 M (fun r => R (some (.inl r)) M)) : f_E sh t YX12_within rm cs (f_Q sh t R) 24 [.inr (.inr (.inr ())), .inr (.inr (.inr ())), .inr (.inr (.inr ())), .inr (.inr (.inr ())), .inr (.inr (.inr ())), .inr (.inr (.inr ()))] [] M :=
  BX12_within_24 C h
theorem PX12_within {sh : Nat → Nat × Nat} {t : Nat} {rm : Nat × Nat × Nat} {cs : Nat × Nat} {R : f_Rt} {x0 : Int} {x2 : Int} {x4 : Int} {M : e_M} (C : f_Hy sh t yX12_within rm cs 4 (lX12_within) R) (h : WX12_within x0 x2 x4 M (fun r => R (some (.inl r)) M)) : f_E sh t YX12_within rm cs (f_Q sh t R) 0 [.inr (.inl x0), .inr (.inr (.inr ())), .inr (.inl x2), .inr (.inr (.inr ())), .inr (.inl x4), .inr (.inr (.inr ()))] [] M :=
  BX12_within C (fun h => PX12_within_24 C h) h
def wX12_within : f_Wt := f_wm [(2, 0, 0), (2, 0, 0), (2, 0, 0)] (fun ar M R => WX12_within (f_vi (f_nth ar 0)) (f_vi (f_nth ar 1)) (f_vi (f_nth ar 2)) M (fun r => R (some (.inl r)) M))
theorem TX12_within {sh : Nat → Nat × Nat} {t : Nat} : f_Mt sh t YX12_within 4 (wX12_within) :=
  f_Mt_of (k := 0) (Nat.le_of_ble_eq_true rfl) rfl rfl (fun ar M R rm cs h1 h2 h3 hX h => PX12_within ⟨Nat.le_of_ble_eq_true rfl, h1, h2, h3, trivial, hX⟩ h)
def VX12_lies (c_X12_turn : Int → Int → Int → Int → Int → Int → e_M → (Int → Prop) → Prop) (c_X12_within : Int → Int → Int → e_M → (Int → Prop) → Prop) (Q : Int → Prop) (x0 : Int) (x2 : Int) (x4 : Int) (x6 : Int) (x8 : Int) (x10 : Int) (M : e_M) : Prop :=
  (c_X12_turn x0 x2 x4 x6 x8 x10 M (fun r1 => ((¬ r1 = 0 → (Q 0)) ∧ (r1 = 0 → (c_X12_within x0 x4 x8 M (fun r2 => ((r2 = 0 → (Q 0)) ∧ (¬ r2 = 0 → (c_X12_within x2 x6 x10 M (fun r3 => ((r3 = 0 → (Q 0)) ∧ (¬ r3 = 0 → (Q 1)))))))))))))
def yX12_lies (i : Nat) : e_Y := x_get YX12_lies [YX12_turn, YX12_within] i
def pX12_liesf : List x_I := [(0, 3, 1, 0, 0, 0, []), (1, 3, 1, 2, 0, 0, []), (2, 3, 2, 4, 0, 0, []), (4, 3, 2, 6, 0, 0, []), (6, 3, 2, 8, 0, 0, []), (8, 3, 2, 10, 0, 0, []), (10, 40, 0, 6, 0, 0, []), (13, 1, 1, 0, 0, 0, []), (14, 32, 44, 1, 22, 0, []), (18, 3, 1, 0, 0, 0, []), (19, 3, 2, 4, 0, 0, []), (21, 3, 2, 8, 0, 0, []), (23, 40, 1, 3, 0, 0, []), (26, 17, 44, 0, 22, 0, []), (29, 3, 1, 2, 0, 0, []), (30, 3, 2, 6, 0, 0, []), (32, 3, 2, 10, 0, 0, []), (34, 40, 1, 3, 0, 0, []), (37, 17, 44, 0, 22, 0, []), (40, 0, 1, 0, 0, 1, []), (41, 19, 45, 0, 23, 0, []), (44, 0, 1, 0, 0, 0, []), (45, 48, 0, 0, 0, 0, [])]
set_option maxRecDepth 20000 in
theorem qX12_liesf : f_all yX12_lies YX12_lies pX12_liesf :=
  ⟨f_lload_n (n := 0) (e_dx DX12_lies_0 0 rfl) rfl,
  f_lload_n (n := 2) (e_dx DX12_lies_0 1 rfl) rfl,
  f_lload (e_dx DX12_lies_0 2 rfl),
  f_lload (e_dx DX12_lies_0 3 rfl),
  f_lload (e_dx DX12_lies_0 4 rfl),
  f_lload (e_dx DX12_lies_0 5 rfl),
  x_callS (e_dx DX12_lies_0 6 rfl) mwX12_turn cX12_427 swX12_turn rfl,
  f_lconst (n := 0) (e_dx DX12_lies_0 7 rfl) rfl,
  f_lif_ne (e_dx DX12_lies_0 8 rfl) (e_dx DX12_lies_0 9 rfl) rfl,
  f_lload_n (n := 0) (e_dx DX12_lies_0 10 rfl) rfl,
  f_lload (e_dx DX12_lies_0 11 rfl),
  f_lload (e_dx DX12_lies_0 12 rfl),
  x_callS (e_dx DX12_lies_0 13 rfl) mwX12_within cX12_431 swX12_within rfl,
  f_if_eq (e_dx DX12_lies_0 14 rfl) rfl,
  f_lload_n (n := 2) (e_dx DX12_lies_0 15 rfl) rfl,
  f_lload (e_dx DX12_lies_0 16 rfl),
  f_lload (e_dx DX12_lies_0 17 rfl),
  x_callS (e_dx DX12_lies_0 18 rfl) mwX12_within cX12_431 swX12_within rfl,
  f_if_eq (e_dx DX12_lies_0 19 rfl) rfl,
  f_iconst (e_dx DX12_lies_0 20 rfl) ⟨by decide, by decide⟩,
  f_g19 (e_dx DX12_lies_0 21 rfl) rfl,
  f_iconst (e_dx DX12_lies_0 22 rfl) ⟨by decide, by decide⟩,
  ⟨(e_dx DX12_lies_0 23 rfl), rfl⟩, trivial⟩
def lX12_lies (c_X12_turn : Int → Int → Int → Int → Int → Int → e_M → (Int → Prop) → Prop) (c_X12_within : Int → Int → Int → e_M → (Int → Prop) → Prop) : List (Nat × f_Wt) := [(0, f_wm [(2, 0, 0), (2, 0, 0), (2, 0, 0), (2, 0, 0), (2, 0, 0), (2, 0, 0)] (fun ar M R => c_X12_turn (f_vi (f_nth ar 0)) (f_vi (f_nth ar 1)) (f_vi (f_nth ar 2)) (f_vi (f_nth ar 3)) (f_vi (f_nth ar 4)) (f_vi (f_nth ar 5)) M (fun r => R (some (.inr (.inl r))) M))), (1, f_wm [(2, 0, 0), (2, 0, 0), (2, 0, 0)] (fun ar M R => c_X12_within (f_vi (f_nth ar 0)) (f_vi (f_nth ar 1)) (f_vi (f_nth ar 2)) M (fun r => R (some (.inl r)) M)))]
set_option maxRecDepth 20000 in
theorem BX12_lies {sh : Nat → Nat × Nat} {t : Nat} {rm : Nat × Nat × Nat} {cs : Nat × Nat} {R : f_Rt} {c_X12_turn : Int → Int → Int → Int → Int → Int → e_M → (Int → Prop) → Prop} {c_X12_within : Int → Int → Int → e_M → (Int → Prop) → Prop} {x0 : Int} {x2 : Int} {x4 : Int} {x6 : Int} {x8 : Int} {x10 : Int} {M : e_M} (C : f_Hy sh t yX12_lies rm cs 5 (lX12_lies c_X12_turn c_X12_within) R) (h : VX12_lies c_X12_turn c_X12_within (fun r => R (some (.inl r)) M) x0 x2 x4 x6 x8 x10 M) : f_E sh t YX12_lies rm cs (f_Q sh t R) 0 [.inr (.inl x0), .inr (.inr (.inr ())), .inr (.inl x2), .inr (.inr (.inr ())), .inr (.inl x4), .inr (.inr (.inr ())), .inr (.inl x6), .inr (.inr (.inr ())), .inr (.inl x8), .inr (.inr (.inr ())), .inr (.inl x10), .inr (.inr (.inr ()))] [] M :=
  f_go (KC := f_kc []) C qX12_liesf f_kc_nil 25 0 h
def WX12_lies (x0 : Int) (x2 : Int) (x4 : Int) (x6 : Int) (x8 : Int) (x10 : Int) (M : e_M) (Q : Int → Prop) : Prop :=
  VX12_lies WX12_turn WX12_within Q x0 x2 x4 x6 x8 x10 M
theorem PX12_lies {sh : Nat → Nat × Nat} {t : Nat} {rm : Nat × Nat × Nat} {cs : Nat × Nat} {R : f_Rt} {x0 : Int} {x2 : Int} {x4 : Int} {x6 : Int} {x8 : Int} {x10 : Int} {M : e_M} (C : f_Hy sh t yX12_lies rm cs 5 (lX12_lies WX12_turn WX12_within) R) (h : WX12_lies x0 x2 x4 x6 x8 x10 M (fun r => R (some (.inl r)) M)) : f_E sh t YX12_lies rm cs (f_Q sh t R) 0 [.inr (.inl x0), .inr (.inr (.inr ())), .inr (.inl x2), .inr (.inr (.inr ())), .inr (.inl x4), .inr (.inr (.inr ())), .inr (.inl x6), .inr (.inr (.inr ())), .inr (.inl x8), .inr (.inr (.inr ())), .inr (.inl x10), .inr (.inr (.inr ()))] [] M :=
  BX12_lies C h
def wX12_lies : f_Wt := f_wm [(2, 0, 0), (2, 0, 0), (2, 0, 0), (2, 0, 0), (2, 0, 0), (2, 0, 0)] (fun ar M R => WX12_lies (f_vi (f_nth ar 0)) (f_vi (f_nth ar 1)) (f_vi (f_nth ar 2)) (f_vi (f_nth ar 3)) (f_vi (f_nth ar 4)) (f_vi (f_nth ar 5)) M (fun r => R (some (.inl r)) M))
theorem TX12_lies {sh : Nat → Nat × Nat} {t : Nat} : f_Mt sh t YX12_lies 5 (wX12_lies) :=
  f_Mt_of (k := 0) (Nat.le_of_ble_eq_true rfl) rfl rfl (fun ar M R rm cs h1 h2 h3 hX h => PX12_lies ⟨Nat.le_of_ble_eq_true rfl, h1, h2, h3, ⟨(f_Mt.up (Nat.le_of_ble_eq_true rfl) TX12_turn), (f_Mt.up (Nat.le_of_ble_eq_true rfl) TX12_within), trivial⟩, hX⟩ h)
def VX12_sideOf_3 (c_X12_lies : Int → Int → Int → Int → Int → Int → e_M → (Int → Prop) → Prop) (k94 : Int → Int → Int → Int → Int → Prop) (Q : Int → Prop) (x1 : Int) (x2 : Int) (x3 : Int) (x5 : Int) (x7 : Int) (M : e_M) : Prop :=
  ((x2 ≤ x7 → (Q (-1))) ∧ (x7 < x2 → (¬ x2 = 0 ∧ (∀ y1 : Int, y1 = e_w32 (x1 + ((e_w32 (x7 + 1)).tmod x2)) → ((0 ≤ (e_w32 (x1 + x7)) ∧ (e_w32 (x1 + x7)) < 4800) ∧ ((0 ≤ (e_w32 (x1 + x7)) ∧ (e_w32 (x1 + x7)) < 4800) ∧ ((0 ≤ y1 ∧ y1 < 4800) ∧ ((0 ≤ y1 ∧ y1 < 4800) ∧ (c_X12_lies (M 4480 ((e_w32 (x1 + x7)).toNat)) (M 4481 ((e_w32 (x1 + x7)).toNat)) (M 4480 (y1.toNat)) (M 4481 (y1.toNat)) x3 x5 M (fun r2 => ((r2 = 0 → (k94 x1 x2 x3 x5 x7)) ∧ (¬ r2 = 0 → ((0 ≤ y1 ∧ y1 < 4800) ∧ ((¬ (M 4480 (y1.toNat)) = x3 → (Q x7)) ∧ ((M 4480 (y1.toNat)) = x3 → ((0 ≤ y1 ∧ y1 < 4800) ∧ (((M 4481 (y1.toNat)) = x5 → (k94 x1 x2 x3 x5 x7)) ∧ (¬ (M 4481 (y1.toNat)) = x5 → (Q x7)))))))))))))))))))
def VX12_sideOf_94 (c_X12_lies : Int → Int → Int → Int → Int → Int → e_M → (Int → Prop) → Prop) (k3 : Int → Int → Int → Int → Int → Prop) (Q : Int → Prop) (x1 : Int) (x2 : Int) (x3 : Int) (x5 : Int) (x7 : Int) (M : e_M) : Prop :=
  (k3 x1 x2 x3 x5 (e_w32 (x7 + 1)))
def VX12_sideOf (c_X12_lies : Int → Int → Int → Int → Int → Int → e_M → (Int → Prop) → Prop) (k3 : Int → Int → Int → Int → Int → Prop) (Q : Int → Prop) (x1 : Int) (x2 : Int) (x3 : Int) (x5 : Int) (M : e_M) : Prop :=
  (k3 x1 x2 x3 x5 0)
def yX12_sideOf (i : Nat) : e_Y := x_get YX12_sideOf [YX12_lies] i
def pX12_sideOff : List x_I := [(0, 0, 1, 0, 0, 0, []), (1, 5, 2, 7, 0, 0, []), (3, 49, 0, 0, 0, 0, []), (3, 2, 2, 7, 0, 0, []), (5, 2, 1, 2, 0, 0, []), (6, 18, 100, 3, 63, 0, []), (9, 2, 1, 1, 0, 0, []), (10, 2, 2, 7, 0, 0, []), (12, 0, 1, 0, 0, 1, []), (13, 9, 0, 0, 0, 0, []), (14, 2, 1, 2, 0, 0, []), (15, 9, 0, 4, 0, 0, []), (16, 9, 0, 0, 0, 0, []), (17, 33, 0, 0, 0, 0, []), (17, 5, 2, 8, 0, 0, []), (19, 4, 1, 0, 0, 0, []), (20, 25, 12, 40, 4, 0, [(0, 20, 4800), (0, 1, 24)]), (23, 2, 1, 1, 0, 0, []), (24, 2, 2, 7, 0, 0, []), (26, 9, 0, 0, 0, 0, []), (27, 27, 0, 0, 0, 0, []), (28, 14, 0, 0, 0, 0, []), (29, 4, 1, 0, 0, 0, []), (30, 25, 12, 41, 4, 0, [(0, 20, 4800), (0, 1, 25)]), (33, 2, 1, 1, 0, 0, []), (34, 2, 2, 7, 0, 0, []), (36, 9, 0, 0, 0, 0, []), (37, 27, 0, 0, 0, 0, []), (38, 14, 0, 0, 0, 0, []), (39, 4, 1, 0, 0, 0, []), (40, 25, 12, 40, 4, 0, [(0, 20, 4800), (0, 1, 24)]), (43, 2, 2, 8, 0, 0, []), (45, 27, 0, 0, 0, 0, []), (46, 14, 0, 0, 0, 0, []), (47, 4, 1, 0, 0, 0, []), (48, 25, 12, 41, 4, 0, [(0, 20, 4800), (0, 1, 25)]), (51, 2, 2, 8, 0, 0, []), (53, 27, 0, 0, 0, 0, []), (54, 14, 0, 0, 0, 0, []), (55, 3, 1, 3, 0, 0, []), (56, 3, 2, 5, 0, 0, []), (58, 40, 0, 6, 0, 0, []), (61, 17, 94, 0, 60, 0, []), (64, 4, 1, 0, 0, 0, []), (65, 25, 12, 40, 4, 0, [(0, 20, 4800), (0, 1, 24)]), (68, 2, 2, 8, 0, 0, []), (70, 27, 0, 0, 0, 0, []), (71, 14, 0, 0, 0, 0, []), (72, 3, 1, 3, 0, 0, []), (73, 32, 91, 1, 58, 0, []), (77, 4, 1, 0, 0, 0, []), (78, 25, 12, 41, 4, 0, [(0, 20, 4800), (0, 1, 25)]), (81, 2, 2, 8, 0, 0, []), (83, 27, 0, 0, 0, 0, []), (84, 14, 0, 0, 0, 0, []), (85, 3, 2, 5, 0, 0, []), (87, 32, 94, 0, 60, 0, []), (91, 2, 2, 7, 0, 0, []), (93, 41, 0, 0, 0, 0, []), (94, 49, 0, 0, 0, 0, []), (94, 8, 0, 7, 0, 1, []), (97, 19, 3, 0, 3, 0, []), (100, 0, 1, 0, 0, (-1), []), (101, 41, 0, 0, 0, 0, [])]
set_option maxRecDepth 20000 in
theorem qX12_sideOff : f_all yX12_sideOf YX12_sideOf pX12_sideOff :=
  ⟨f_iconst (e_dx DX12_sideOf_0 0 rfl) ⟨by decide, by decide⟩,
  f_istore (e_dx DX12_sideOf_0 1 rfl) (by decide),
  trivial,
  f_iload (e_dx DX12_sideOf_0 2 rfl),
  f_iload_n (n := 2) (e_dx DX12_sideOf_0 3 rfl) rfl,
  f_icmp_ge (e_dx DX12_sideOf_0 4 rfl) rfl,
  f_iload_n (n := 1) (e_dx DX12_sideOf_0 5 rfl) rfl,
  f_iload (e_dx DX12_sideOf_0 6 rfl),
  f_iconst (e_dx DX12_sideOf_0 7 rfl) ⟨by decide, by decide⟩,
  f_iadd (e_dx DX12_sideOf_0 8 rfl),
  f_iload_n (n := 2) (e_dx DX12_sideOf_0 9 rfl) rfl,
  f_irem (e_dx DX12_sideOf_0 10 rfl),
  f_iadd (e_dx DX12_sideOf_0 11 rfl),
  f_g33,
  f_istore (e_dx DX12_sideOf_0 12 rfl) (by decide),
  f_aload_n (n := 0) (e_dx DX12_sideOf_0 13 rfl) rfl,
  f_getA (e_dx DX12_sideOf_0 14 rfl) fX12_82 rfl (by decide) (Nat.le_of_ble_eq_true rfl) rfl (by decide),
  f_iload_n (n := 1) (e_dx DX12_sideOf_0 15 rfl) rfl,
  f_iload (e_dx DX12_sideOf_0 16 rfl),
  f_iadd (e_dx DX12_sideOf_0 17 rfl),
  f_iaload (e_dx DX12_sideOf_0 18 rfl),
  f_g14 (e_dx DX12_sideOf_0 19 rfl),
  f_aload_n (n := 0) (e_dx DX12_sideOf_0 20 rfl) rfl,
  f_getA (e_dx DX12_sideOf_0 21 rfl) fX12_85 rfl (by decide) (Nat.le_of_ble_eq_true rfl) rfl (by decide),
  f_iload_n (n := 1) (e_dx DX12_sideOf_0 22 rfl) rfl,
  f_iload (e_dx DX12_sideOf_0 23 rfl),
  f_iadd (e_dx DX12_sideOf_0 24 rfl),
  f_iaload (e_dx DX12_sideOf_0 25 rfl),
  f_g14 (e_dx DX12_sideOf_0 26 rfl),
  f_aload_n (n := 0) (e_dx DX12_sideOf_0 27 rfl) rfl,
  f_getA (e_dx DX12_sideOf_0 28 rfl) fX12_82 rfl (by decide) (Nat.le_of_ble_eq_true rfl) rfl (by decide),
  f_iload (e_dx DX12_sideOf_0 29 rfl),
  f_iaload (e_dx DX12_sideOf_0 30 rfl),
  f_g14 (e_dx DX12_sideOf_0 31 rfl),
  f_aload_n (n := 0) (e_dx DX12_sideOf_0 32 rfl) rfl,
  f_getA (e_dx DX12_sideOf_0 33 rfl) fX12_85 rfl (by decide) (Nat.le_of_ble_eq_true rfl) rfl (by decide),
  f_iload (e_dx DX12_sideOf_0 34 rfl),
  f_iaload (e_dx DX12_sideOf_0 35 rfl),
  f_g14 (e_dx DX12_sideOf_0 36 rfl),
  f_lload_n (n := 3) (e_dx DX12_sideOf_0 37 rfl) rfl,
  f_lload (e_dx DX12_sideOf_0 38 rfl),
  x_callS (e_dx DX12_sideOf_0 39 rfl) mwX12_lies cX12_435 swX12_lies rfl,
  f_if_eq (e_dx DX12_sideOf_1 0 rfl) rfl,
  f_aload_n (n := 0) (e_dx DX12_sideOf_1 1 rfl) rfl,
  f_getA (e_dx DX12_sideOf_1 2 rfl) fX12_82 rfl (by decide) (Nat.le_of_ble_eq_true rfl) rfl (by decide),
  f_iload (e_dx DX12_sideOf_1 3 rfl),
  f_iaload (e_dx DX12_sideOf_1 4 rfl),
  f_g14 (e_dx DX12_sideOf_1 5 rfl),
  f_lload_n (n := 3) (e_dx DX12_sideOf_1 6 rfl) rfl,
  f_lif_ne (e_dx DX12_sideOf_1 7 rfl) (e_dx DX12_sideOf_1 8 rfl) rfl,
  f_aload_n (n := 0) (e_dx DX12_sideOf_1 9 rfl) rfl,
  f_getA (e_dx DX12_sideOf_1 10 rfl) fX12_85 rfl (by decide) (Nat.le_of_ble_eq_true rfl) rfl (by decide),
  f_iload (e_dx DX12_sideOf_1 11 rfl),
  f_iaload (e_dx DX12_sideOf_1 12 rfl),
  f_g14 (e_dx DX12_sideOf_1 13 rfl),
  f_lload (e_dx DX12_sideOf_1 14 rfl),
  f_lif_eq (e_dx DX12_sideOf_1 15 rfl) (e_dx DX12_sideOf_1 16 rfl) rfl,
  f_iload (e_dx DX12_sideOf_1 17 rfl),
  ⟨(e_dx DX12_sideOf_1 18 rfl), rfl⟩,
  trivial,
  f_g8 (e_dx DX12_sideOf_1 19 rfl) ⟨by decide, by decide⟩,
  f_g19 (e_dx DX12_sideOf_1 20 rfl) rfl,
  f_iconst (e_dx DX12_sideOf_1 21 rfl) ⟨by decide, by decide⟩,
  ⟨(e_dx DX12_sideOf_1 22 rfl), rfl⟩, trivial⟩
def lX12_sideOf (c_X12_lies : Int → Int → Int → Int → Int → Int → e_M → (Int → Prop) → Prop) : List (Nat × f_Wt) := [(0, f_wm [(2, 0, 0), (2, 0, 0), (2, 0, 0), (2, 0, 0), (2, 0, 0), (2, 0, 0)] (fun ar M R => c_X12_lies (f_vi (f_nth ar 0)) (f_vi (f_nth ar 1)) (f_vi (f_nth ar 2)) (f_vi (f_nth ar 3)) (f_vi (f_nth ar 4)) (f_vi (f_nth ar 5)) M (fun r => R (some (.inl r)) M)))]
set_option maxRecDepth 20000 in
theorem BX12_sideOf_3 {sh : Nat → Nat × Nat} {t : Nat} {rm : Nat × Nat × Nat} {cs : Nat × Nat} {R : f_Rt} {c_X12_lies : Int → Int → Int → Int → Int → Int → e_M → (Int → Prop) → Prop} {k94 : Int → Int → Int → Int → Int → Prop} {x1 : Int} {x2 : Int} {x3 : Int} {x5 : Int} {x7 : Int} {M : e_M} (C : f_Hy sh t yX12_sideOf rm cs 6 (lX12_sideOf c_X12_lies) R) (h94 : ∀ (x1 : Int) (x2 : Int) (x3 : Int) (x5 : Int) (x7 : Int), k94 x1 x2 x3 x5 x7 → f_E sh t YX12_sideOf rm cs (f_Q sh t R) 94 [.inr (.inr (.inl (12, 123, 4456))), .inl x1, .inl x2, .inr (.inl x3), .inr (.inr (.inr ())), .inr (.inl x5), .inr (.inr (.inr ())), .inl x7, .inr (.inr (.inr ()))] [] M) (h : VX12_sideOf_3 c_X12_lies k94 (fun r => R (some (.inl r)) M) x1 x2 x3 x5 x7 M) : f_E sh t YX12_sideOf rm cs (f_Q sh t R) 3 [.inr (.inr (.inl (12, 123, 4456))), .inl x1, .inl x2, .inr (.inl x3), .inr (.inr (.inr ())), .inr (.inl x5), .inr (.inr (.inr ())), .inl x7, .inr (.inr (.inr ()))] [] M := by
  rw [f_kk5 M k94] at h
  exact f_go (KC := f_kc [(94, f_pl [(4466, 12, 123), (1, 0, 0), (1, 0, 0), (2, 0, 0), (0, 0, 0), (2, 0, 0), (0, 0, 0), (1, 0, 0), (0, 0, 0)] [] (fun ls st M2 => M2 = M ∧ (k94 (f_vi (f_nth ls 1)) (f_vi (f_nth ls 2)) (f_vi (f_nth ls 3)) (f_vi (f_nth ls 5)) (f_vi (f_nth ls 7)))))]) C qX12_sideOff (f_kc_cons (f_pl_ok rfl (fun ls st M2 ⟨e, hh⟩ => by subst e; exact h94 _ _ _ _ _ hh)) f_kc_nil) 66 3 h
set_option maxRecDepth 20000 in
theorem BX12_sideOf_94 {sh : Nat → Nat × Nat} {t : Nat} {rm : Nat × Nat × Nat} {cs : Nat × Nat} {R : f_Rt} {c_X12_lies : Int → Int → Int → Int → Int → Int → e_M → (Int → Prop) → Prop} {k3 : Int → Int → Int → Int → Int → Prop} {x1 : Int} {x2 : Int} {x3 : Int} {x5 : Int} {x7 : Int} {M : e_M} (C : f_Hy sh t yX12_sideOf rm cs 6 (lX12_sideOf c_X12_lies) R) (h3 : ∀ (x1 : Int) (x2 : Int) (x3 : Int) (x5 : Int) (x7 : Int), k3 x1 x2 x3 x5 x7 → f_E sh t YX12_sideOf rm cs (f_Q sh t R) 3 [.inr (.inr (.inl (12, 123, 4456))), .inl x1, .inl x2, .inr (.inl x3), .inr (.inr (.inr ())), .inr (.inl x5), .inr (.inr (.inr ())), .inl x7, .inr (.inr (.inr ()))] [] M) (h : VX12_sideOf_94 c_X12_lies k3 (fun r => R (some (.inl r)) M) x1 x2 x3 x5 x7 M) : f_E sh t YX12_sideOf rm cs (f_Q sh t R) 94 [.inr (.inr (.inl (12, 123, 4456))), .inl x1, .inl x2, .inr (.inl x3), .inr (.inr (.inr ())), .inr (.inl x5), .inr (.inr (.inr ())), .inl x7, .inr (.inr (.inr ()))] [] M := by
  rw [f_kk5 M k3] at h
  exact f_go (KC := f_kc [(3, f_pl [(4466, 12, 123), (1, 0, 0), (1, 0, 0), (2, 0, 0), (0, 0, 0), (2, 0, 0), (0, 0, 0), (1, 0, 0), (0, 0, 0)] [] (fun ls st M2 => M2 = M ∧ (k3 (f_vi (f_nth ls 1)) (f_vi (f_nth ls 2)) (f_vi (f_nth ls 3)) (f_vi (f_nth ls 5)) (f_vi (f_nth ls 7)))))]) C qX12_sideOff (f_kc_cons (f_pl_ok rfl (fun ls st M2 ⟨e, hh⟩ => by subst e; exact h3 _ _ _ _ _ hh)) f_kc_nil) 66 60 h
set_option maxRecDepth 20000 in
theorem BX12_sideOf {sh : Nat → Nat × Nat} {t : Nat} {rm : Nat × Nat × Nat} {cs : Nat × Nat} {R : f_Rt} {c_X12_lies : Int → Int → Int → Int → Int → Int → e_M → (Int → Prop) → Prop} {k3 : Int → Int → Int → Int → Int → Prop} {x1 : Int} {x2 : Int} {x3 : Int} {x5 : Int} {M : e_M} (C : f_Hy sh t yX12_sideOf rm cs 6 (lX12_sideOf c_X12_lies) R) (h3 : ∀ (x1 : Int) (x2 : Int) (x3 : Int) (x5 : Int) (x7 : Int), k3 x1 x2 x3 x5 x7 → f_E sh t YX12_sideOf rm cs (f_Q sh t R) 3 [.inr (.inr (.inl (12, 123, 4456))), .inl x1, .inl x2, .inr (.inl x3), .inr (.inr (.inr ())), .inr (.inl x5), .inr (.inr (.inr ())), .inl x7, .inr (.inr (.inr ()))] [] M) (h : VX12_sideOf c_X12_lies k3 (fun r => R (some (.inl r)) M) x1 x2 x3 x5 M) : f_E sh t YX12_sideOf rm cs (f_Q sh t R) 0 [.inr (.inr (.inl (12, 123, 4456))), .inl x1, .inl x2, .inr (.inl x3), .inr (.inr (.inr ())), .inr (.inl x5), .inr (.inr (.inr ())), .inr (.inr (.inr ())), .inr (.inr (.inr ()))] [] M := by
  rw [f_kk5 M k3] at h
  exact f_go (KC := f_kc [(3, f_pl [(4466, 12, 123), (1, 0, 0), (1, 0, 0), (2, 0, 0), (0, 0, 0), (2, 0, 0), (0, 0, 0), (1, 0, 0), (0, 0, 0)] [] (fun ls st M2 => M2 = M ∧ (k3 (f_vi (f_nth ls 1)) (f_vi (f_nth ls 2)) (f_vi (f_nth ls 3)) (f_vi (f_nth ls 5)) (f_vi (f_nth ls 7)))))]) C qX12_sideOff (f_kc_cons (f_pl_ok rfl (fun ls st M2 ⟨e, hh⟩ => by subst e; exact h3 _ _ _ _ _ hh)) f_kc_nil) 66 0 h
def WX12_sideOf_94 (M : e_M) (H3 : Int → Int → Int → Int → Int → Prop) (Q : Int → Prop) (x1 : Int) (x2 : Int) (x3 : Int) (x5 : Int) (x7 : Int) : Prop :=
  VX12_sideOf_94 WX12_lies H3 Q x1 x2 x3 x5 x7 M
def WX12_sideOf_3 (M : e_M) (Q : Int → Prop) : Nat → Int → Int → Int → Int → Int → Prop
  | 0, _, _, _, _, _ => False
  | n + 1, x1, x2, x3, x5, x7 =>
    VX12_sideOf_3 WX12_lies (WX12_sideOf_94 M (WX12_sideOf_3 M Q n) Q) Q x1 x2 x3 x5 x7 M
def WX12_sideOf (x1 : Int) (x2 : Int) (x3 : Int) (x5 : Int) (M : e_M) (Q : Int → Prop) : Prop :=
  VX12_sideOf WX12_lies (fun x1 x2 x3 x5 x7 => ∃ j, WX12_sideOf_3 M Q j x1 x2 x3 x5 x7) Q x1 x2 x3 x5 M
theorem PX12_sideOf_94 {sh : Nat → Nat × Nat} {t : Nat} {rm : Nat × Nat × Nat} {cs : Nat × Nat} {R : f_Rt} {H3 : Int → Int → Int → Int → Int → Prop} {x1 : Int} {x2 : Int} {x3 : Int} {x5 : Int} {x7 : Int} {M : e_M} (C : f_Hy sh t yX12_sideOf rm cs 6 (lX12_sideOf WX12_lies) R) (g3 : ∀ (x1 : Int) (x2 : Int) (x3 : Int) (x5 : Int) (x7 : Int), H3 x1 x2 x3 x5 x7 → f_E sh t YX12_sideOf rm cs (f_Q sh t R) 3 [.inr (.inr (.inl (12, 123, 4456))), .inl x1, .inl x2, .inr (.inl x3), .inr (.inr (.inr ())), .inr (.inl x5), .inr (.inr (.inr ())), .inl x7, .inr (.inr (.inr ()))] [] M) (h : WX12_sideOf_94 M H3 (fun r => R (some (.inl r)) M) x1 x2 x3 x5 x7) : f_E sh t YX12_sideOf rm cs (f_Q sh t R) 94 [.inr (.inr (.inl (12, 123, 4456))), .inl x1, .inl x2, .inr (.inl x3), .inr (.inr (.inr ())), .inr (.inl x5), .inr (.inr (.inr ())), .inl x7, .inr (.inr (.inr ()))] [] M :=
  BX12_sideOf_94 C g3 h
theorem PX12_sideOf_3 {sh : Nat → Nat × Nat} {t : Nat} {rm : Nat × Nat × Nat} {cs : Nat × Nat} {R : f_Rt} {M : e_M} (C : f_Hy sh t yX12_sideOf rm cs 6 (lX12_sideOf WX12_lies) R) : ∀ (n : Nat) (x1 : Int) (x2 : Int) (x3 : Int) (x5 : Int) (x7 : Int), WX12_sideOf_3 M (fun r => R (some (.inl r)) M) n x1 x2 x3 x5 x7 → f_E sh t YX12_sideOf rm cs (f_Q sh t R) 3 [.inr (.inr (.inl (12, 123, 4456))), .inl x1, .inl x2, .inr (.inl x3), .inr (.inr (.inr ())), .inr (.inl x5), .inr (.inr (.inr ())), .inl x7, .inr (.inr (.inr ()))] [] M := by
  intro n
  induction n with
  | zero => intro x1 x2 x3 x5 x7 h; exact h.elim
  | succ n ih => intro x1 x2 x3 x5 x7 h; exact BX12_sideOf_3 C (fun x1 x2 x3 x5 x7 h => PX12_sideOf_94 C ih h) h
theorem PX12_sideOf {sh : Nat → Nat × Nat} {t : Nat} {rm : Nat × Nat × Nat} {cs : Nat × Nat} {R : f_Rt} {x1 : Int} {x2 : Int} {x3 : Int} {x5 : Int} {M : e_M} (C : f_Hy sh t yX12_sideOf rm cs 6 (lX12_sideOf WX12_lies) R) (h : WX12_sideOf x1 x2 x3 x5 M (fun r => R (some (.inl r)) M)) : f_E sh t YX12_sideOf rm cs (f_Q sh t R) 0 [.inr (.inr (.inl (12, 123, 4456))), .inl x1, .inl x2, .inr (.inl x3), .inr (.inr (.inr ())), .inr (.inl x5), .inr (.inr (.inr ())), .inr (.inr (.inr ())), .inr (.inr (.inr ()))] [] M :=
  BX12_sideOf C (fun x1 x2 x3 x5 x7 ⟨j, h⟩ => PX12_sideOf_3 C j _ _ _ _ _ h) h
def wX12_sideOf : f_Wt := f_wm [(4466, 12, 123), (1, 0, 0), (1, 0, 0), (2, 0, 0), (2, 0, 0)] (fun ar M R => WX12_sideOf (f_vi (f_nth ar 1)) (f_vi (f_nth ar 2)) (f_vi (f_nth ar 3)) (f_vi (f_nth ar 4)) M (fun r => R (some (.inl r)) M))
theorem TX12_sideOf {sh : Nat → Nat × Nat} {t : Nat} : f_Mt sh t YX12_sideOf 6 (wX12_sideOf) :=
  f_Mt_of (k := 2) (Nat.le_of_ble_eq_true rfl) rfl rfl (fun ar M R rm cs h1 h2 h3 hX h => PX12_sideOf ⟨Nat.le_of_ble_eq_true rfl, h1, h2, h3, ⟨(f_Mt.up (Nat.le_of_ble_eq_true rfl) TX12_lies), trivial⟩, hX⟩ h)
def VX12_placeOf_2 (k2 : Int → Int → Int → Prop) (Q : Int → Prop) (x1 : Int) (x2 : Int) (x3 : Int) (M : e_M) : Prop :=
  ((0 ≤ x1 ∧ x1 < 560) ∧ (((M 4494 (x1.toNat)) ≤ x3 → (Q (-1))) ∧ (x3 < (M 4494 (x1.toNat)) → ((0 ≤ (e_w32 ((e_w32 ((8 : Int) * x1)) + x3)) ∧ (e_w32 ((e_w32 ((8 : Int) * x1)) + x3)) < 4480) ∧ ((¬ (M 4495 ((e_w32 ((e_w32 ((8 : Int) * x1)) + x3)).toNat)) = x2 → (k2 x1 x2 (e_w32 (x3 + 1)))) ∧ ((M 4495 ((e_w32 ((e_w32 ((8 : Int) * x1)) + x3)).toNat)) = x2 → (Q x3)))))))
def VX12_placeOf (k2 : Int → Int → Int → Prop) (Q : Int → Prop) (x1 : Int) (x2 : Int) (M : e_M) : Prop :=
  (k2 x1 x2 0)
def yX12_placeOf (i : Nat) : e_Y := x_get YX12_placeOf [] i
def pX12_placeOff : List x_I := [(0, 0, 1, 0, 0, 0, []), (1, 5, 1, 3, 0, 0, []), (2, 49, 0, 0, 0, 0, []), (2, 2, 1, 3, 0, 0, []), (3, 4, 1, 0, 0, 0, []), (4, 25, 12, 61, 4, 0, [(0, 20, 560), (0, 1, 38)]), (7, 2, 1, 1, 0, 0, []), (8, 27, 0, 0, 0, 0, []), (9, 18, 35, 3, 24, 0, []), (12, 4, 1, 0, 0, 0, []), (13, 25, 12, 62, 4, 0, [(0, 20, 4480), (0, 1, 39)]), (16, 0, 2, 0, 0, 8, []), (18, 2, 1, 1, 0, 0, []), (19, 9, 0, 2, 0, 0, []), (20, 2, 1, 3, 0, 0, []), (21, 9, 0, 0, 0, 0, []), (22, 27, 0, 0, 0, 0, []), (23, 2, 1, 2, 0, 0, []), (24, 18, 29, 1, 22, 0, []), (27, 2, 1, 3, 0, 0, []), (28, 41, 0, 0, 0, 0, []), (29, 8, 0, 3, 0, 1, []), (32, 19, 2, 0, 3, 0, []), (35, 0, 1, 0, 0, (-1), []), (36, 41, 0, 0, 0, 0, [])]
set_option maxRecDepth 20000 in
theorem qX12_placeOff : f_all yX12_placeOf YX12_placeOf pX12_placeOff :=
  ⟨f_iconst (e_dx DX12_placeOf_0 0 rfl) ⟨by decide, by decide⟩,
  f_istore_n (n := 3) (e_dx DX12_placeOf_0 1 rfl) rfl (by decide),
  trivial,
  f_iload_n (n := 3) (e_dx DX12_placeOf_0 2 rfl) rfl,
  f_aload_n (n := 0) (e_dx DX12_placeOf_0 3 rfl) rfl,
  f_getA (e_dx DX12_placeOf_0 4 rfl) fX12_124 rfl (by decide) (Nat.le_of_ble_eq_true rfl) rfl (by decide),
  f_iload_n (n := 1) (e_dx DX12_placeOf_0 5 rfl) rfl,
  f_iaload (e_dx DX12_placeOf_0 6 rfl),
  f_icmp_ge (e_dx DX12_placeOf_0 7 rfl) rfl,
  f_aload_n (n := 0) (e_dx DX12_placeOf_0 8 rfl) rfl,
  f_getA (e_dx DX12_placeOf_0 9 rfl) fX12_127 rfl (by decide) (Nat.le_of_ble_eq_true rfl) rfl (by decide),
  f_bipush (e_dx DX12_placeOf_0 10 rfl) ⟨by decide, by decide⟩,
  f_iload_n (n := 1) (e_dx DX12_placeOf_0 11 rfl) rfl,
  f_imul (e_dx DX12_placeOf_0 12 rfl),
  f_iload_n (n := 3) (e_dx DX12_placeOf_0 13 rfl) rfl,
  f_iadd (e_dx DX12_placeOf_0 14 rfl),
  f_iaload (e_dx DX12_placeOf_0 15 rfl),
  f_iload_n (n := 2) (e_dx DX12_placeOf_0 16 rfl) rfl,
  f_icmp_ne (e_dx DX12_placeOf_0 17 rfl) rfl,
  f_iload_n (n := 3) (e_dx DX12_placeOf_0 18 rfl) rfl,
  ⟨(e_dx DX12_placeOf_0 19 rfl), rfl⟩,
  f_g8 (e_dx DX12_placeOf_0 20 rfl) ⟨by decide, by decide⟩,
  f_g19 (e_dx DX12_placeOf_0 21 rfl) rfl,
  f_iconst (e_dx DX12_placeOf_0 22 rfl) ⟨by decide, by decide⟩,
  ⟨(e_dx DX12_placeOf_0 23 rfl), rfl⟩, trivial⟩
def lX12_placeOf : List (Nat × f_Wt) := []
set_option maxRecDepth 20000 in
theorem BX12_placeOf_2 {sh : Nat → Nat × Nat} {t : Nat} {rm : Nat × Nat × Nat} {cs : Nat × Nat} {R : f_Rt} {k2 : Int → Int → Int → Prop} {x1 : Int} {x2 : Int} {x3 : Int} {M : e_M} (C : f_Hy sh t yX12_placeOf rm cs 4 (lX12_placeOf) R) (h2 : ∀ (x1 : Int) (x2 : Int) (x3 : Int), k2 x1 x2 x3 → f_E sh t YX12_placeOf rm cs (f_Q sh t R) 2 [.inr (.inr (.inl (12, 123, 4456))), .inl x1, .inl x2, .inl x3] [] M) (h : VX12_placeOf_2 k2 (fun r => R (some (.inl r)) M) x1 x2 x3 M) : f_E sh t YX12_placeOf rm cs (f_Q sh t R) 2 [.inr (.inr (.inl (12, 123, 4456))), .inl x1, .inl x2, .inl x3] [] M := by
  rw [f_kk3 M k2] at h
  exact f_go (KC := f_kc [(2, f_pl [(4466, 12, 123), (1, 0, 0), (1, 0, 0), (1, 0, 0)] [] (fun ls st M2 => M2 = M ∧ (k2 (f_vi (f_nth ls 1)) (f_vi (f_nth ls 2)) (f_vi (f_nth ls 3)))))]) C qX12_placeOff (f_kc_cons (f_pl_ok rfl (fun ls st M2 ⟨e, hh⟩ => by subst e; exact h2 _ _ _ hh)) f_kc_nil) 27 3 h
set_option maxRecDepth 20000 in
theorem BX12_placeOf {sh : Nat → Nat × Nat} {t : Nat} {rm : Nat × Nat × Nat} {cs : Nat × Nat} {R : f_Rt} {k2 : Int → Int → Int → Prop} {x1 : Int} {x2 : Int} {M : e_M} (C : f_Hy sh t yX12_placeOf rm cs 4 (lX12_placeOf) R) (h2 : ∀ (x1 : Int) (x2 : Int) (x3 : Int), k2 x1 x2 x3 → f_E sh t YX12_placeOf rm cs (f_Q sh t R) 2 [.inr (.inr (.inl (12, 123, 4456))), .inl x1, .inl x2, .inl x3] [] M) (h : VX12_placeOf k2 (fun r => R (some (.inl r)) M) x1 x2 M) : f_E sh t YX12_placeOf rm cs (f_Q sh t R) 0 [.inr (.inr (.inl (12, 123, 4456))), .inl x1, .inl x2, .inr (.inr (.inr ()))] [] M := by
  rw [f_kk3 M k2] at h
  exact f_go (KC := f_kc [(2, f_pl [(4466, 12, 123), (1, 0, 0), (1, 0, 0), (1, 0, 0)] [] (fun ls st M2 => M2 = M ∧ (k2 (f_vi (f_nth ls 1)) (f_vi (f_nth ls 2)) (f_vi (f_nth ls 3)))))]) C qX12_placeOff (f_kc_cons (f_pl_ok rfl (fun ls st M2 ⟨e, hh⟩ => by subst e; exact h2 _ _ _ hh)) f_kc_nil) 27 0 h
def WX12_placeOf_2 (M : e_M) (Q : Int → Prop) : Nat → Int → Int → Int → Prop
  | 0, _, _, _ => False
  | n + 1, x1, x2, x3 =>
    VX12_placeOf_2 (WX12_placeOf_2 M Q n) Q x1 x2 x3 M
def WX12_placeOf (x1 : Int) (x2 : Int) (M : e_M) (Q : Int → Prop) : Prop :=
  VX12_placeOf (fun x1 x2 x3 => ∃ j, WX12_placeOf_2 M Q j x1 x2 x3) Q x1 x2 M
theorem PX12_placeOf_2 {sh : Nat → Nat × Nat} {t : Nat} {rm : Nat × Nat × Nat} {cs : Nat × Nat} {R : f_Rt} {M : e_M} (C : f_Hy sh t yX12_placeOf rm cs 4 (lX12_placeOf) R) : ∀ (n : Nat) (x1 : Int) (x2 : Int) (x3 : Int), WX12_placeOf_2 M (fun r => R (some (.inl r)) M) n x1 x2 x3 → f_E sh t YX12_placeOf rm cs (f_Q sh t R) 2 [.inr (.inr (.inl (12, 123, 4456))), .inl x1, .inl x2, .inl x3] [] M := by
  intro n
  induction n with
  | zero => intro x1 x2 x3 h; exact h.elim
  | succ n ih => intro x1 x2 x3 h; exact BX12_placeOf_2 C ih h
theorem PX12_placeOf {sh : Nat → Nat × Nat} {t : Nat} {rm : Nat × Nat × Nat} {cs : Nat × Nat} {R : f_Rt} {x1 : Int} {x2 : Int} {M : e_M} (C : f_Hy sh t yX12_placeOf rm cs 4 (lX12_placeOf) R) (h : WX12_placeOf x1 x2 M (fun r => R (some (.inl r)) M)) : f_E sh t YX12_placeOf rm cs (f_Q sh t R) 0 [.inr (.inr (.inl (12, 123, 4456))), .inl x1, .inl x2, .inr (.inr (.inr ()))] [] M :=
  BX12_placeOf C (fun x1 x2 x3 ⟨j, h⟩ => PX12_placeOf_2 C j _ _ _ h) h
def wX12_placeOf : f_Wt := f_wm [(4466, 12, 123), (1, 0, 0), (1, 0, 0)] (fun ar M R => WX12_placeOf (f_vi (f_nth ar 1)) (f_vi (f_nth ar 2)) M (fun r => R (some (.inl r)) M))
theorem TX12_placeOf {sh : Nat → Nat × Nat} {t : Nat} : f_Mt sh t YX12_placeOf 4 (wX12_placeOf) :=
  f_Mt_of (k := 1) (Nat.le_of_ble_eq_true rfl) rfl rfl (fun ar M R rm cs h1 h2 h3 hX h => PX12_placeOf ⟨Nat.le_of_ble_eq_true rfl, h1, h2, h3, trivial, hX⟩ h)
